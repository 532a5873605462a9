theorem dX2_addAsker_0 : decode cX2_addAsker 0 = .ok (.aload_n 0, 1) := by decide +kernel
theorem dX2_addAsker_1 : decode cX2_addAsker 1 = .ok (.getfield 18, 3) := by decide +kernel
theorem dX2_addAsker_4 : decode cX2_addAsker 4 = .ok (.istore_n 3, 1) := by decide +kernel
theorem dX2_addAsker_5 : decode cX2_addAsker 5 = .ok (.iload_n 3, 1) := by decide +kernel
theorem dX2_addAsker_6 : decode cX2_addAsker 6 = .ok (.ifCond .lt 9, 3) := by decide +kernel
theorem dX2_addAsker_9 : decode cX2_addAsker 9 = .ok (.iload_n 3, 1) := by decide +kernel
theorem dX2_addAsker_10 : decode cX2_addAsker 10 = .ok (.bipush 20, 2) := by decide +kernel
theorem dX2_addAsker_12 : decode cX2_addAsker 12 = .ok (.if_icmp .lt 5, 3) := by decide +kernel
theorem dX2_addAsker_15 : decode cX2_addAsker 15 = .ok (.iconst (-1), 1) := by decide +kernel
theorem dX2_addAsker_16 : decode cX2_addAsker 16 = .ok (.ireturn, 1) := by decide +kernel
theorem dX2_addAsker_17 : decode cX2_addAsker 17 = .ok (.aload_n 0, 1) := by decide +kernel
theorem dX2_addAsker_18 : decode cX2_addAsker 18 = .ok (.getfield 11, 3) := by decide +kernel
theorem dX2_addAsker_21 : decode cX2_addAsker 21 = .ok (.iload_n 3, 1) := by decide +kernel
theorem dX2_addAsker_22 : decode cX2_addAsker 22 = .ok (.iload_n 1, 1) := by decide +kernel
theorem dX2_addAsker_23 : decode cX2_addAsker 23 = .ok (.iastore, 1) := by decide +kernel
theorem dX2_addAsker_24 : decode cX2_addAsker 24 = .ok (.aload_n 0, 1) := by decide +kernel
theorem dX2_addAsker_25 : decode cX2_addAsker 25 = .ok (.getfield 15, 3) := by decide +kernel
theorem dX2_addAsker_28 : decode cX2_addAsker 28 = .ok (.iload_n 3, 1) := by decide +kernel
theorem dX2_addAsker_29 : decode cX2_addAsker 29 = .ok (.iload_n 2, 1) := by decide +kernel
theorem dX2_addAsker_30 : decode cX2_addAsker 30 = .ok (.iastore, 1) := by decide +kernel
theorem dX2_addAsker_31 : decode cX2_addAsker 31 = .ok (.aload_n 0, 1) := by decide +kernel
theorem dX2_addAsker_32 : decode cX2_addAsker 32 = .ok (.dup, 1) := by decide +kernel
theorem dX2_addAsker_33 : decode cX2_addAsker 33 = .ok (.getfield 18, 3) := by decide +kernel
theorem dX2_addAsker_36 : decode cX2_addAsker 36 = .ok (.iconst 1, 1) := by decide +kernel
theorem dX2_addAsker_37 : decode cX2_addAsker 37 = .ok (.iadd, 1) := by decide +kernel
theorem dX2_addAsker_38 : decode cX2_addAsker 38 = .ok (.putfield 18, 3) := by decide +kernel
theorem dX2_addAsker_41 : decode cX2_addAsker 41 = .ok (.iload_n 3, 1) := by decide +kernel
theorem dX2_addAsker_42 : decode cX2_addAsker 42 = .ok (.ireturn, 1) := by decide +kernel
def f2_addAsker_j15 (s2_j15 : OS) : Option (Int32 × OS) := some ((-1 : Int32), s2_j15)
def f2_addAsker (a1 : Int32) (a2 : Int32) (s2 : OS) : Option (Int32 × OS) := nm ((s2.1 0 2)) fun n_4 => if n_4 < 0 then (f2_addAsker_j15 s2) else (if n_4 < (20 : Int32) then (chk (inb n_4 20) (nm (wI s2 1 n_4.toNatClampNeg a1) fun s2_23 => chk (inb n_4 20) (nm (wI s2_23 2 n_4.toNatClampNeg a2) fun s2_30 => nm (wI s2_30 0 2 (((s2_30.1 0 2) + (1 : Int32)))) fun s2_38 => some (n_4, s2_38)))) else (f2_addAsker_j15 s2))
set_option maxHeartbeats 4000000 in
set_option maxRecDepth 100000 in
theorem m2_addAsker (l : Launch) (D : va_G) (ad : Nat → Nat) (cy : Nat → ClassId) (sz : Nat) (s0 s1 s2 s3 s4 s5 s6 s7 s8 s9 s10 : OS) (a1 : Int32) (a2 : Int32) (r : Int32 × OS) (h : f2_addAsker a1 a2 s2 = some r) : Met l yX2_addAsker (wsOf yX2_addAsker cX2_addAsker 4 (some .int)) (rmL 0) (va_Pc ([.ref (ad 2), .int a1, .int a2] : List Value) (PreG D cy (cellsC ad cy s0 s1 s2 s3 s4 s5 s6 s7 s8 s9 s10) sz (NC ad))) (QcI D ad 67 (cellsC ad cy s0 s1 r.2 s3 s4 s5 s6 s7 s8 s9 s10) (r.1) sz) 0 0 (Afr ad 67 sz) := by
  refine metG (own := RX2) (by decide) rfl (Nat.le_of_ble_eq_true rfl) fstC ?_ sz
  intro p e s m below meth c ls C0 hw hl
  obtain ⟨hx, hb, hml, hown, hts, hr, hlk, hK, hN⟩ := C0
  have hl : lv_has ls 4 [(0, .ref (ad 2)), (1, .int a1), (2, .int a2)] := hl
  generalize hQ : MQ below (QcI D ad 67 (cellsC ad cy s0 s1 r.2 s3 s4 s5 s6 s7 s8 s9 s10) (r.1) s.heap.size) ([.ref (ad 2), .int a1, .int a2] : List Value).toArray s 0 0 (Afr ad 67 s.heap.size) = Q
  obtain ⟨H, hH⟩ : ∃ H : Heap, H = s.heap := ⟨_, rfl⟩
  obtain ⟨locs, hlc⟩ : ∃ L : List Loc, L = [] := ⟨_, rfl⟩
  have hw : Wd D (cellsC ad cy s0 s1 s2 s3 s4 s5 s6 s7 s8 s9 s10) (Afr ad 67 s.heap.size) s.heap H locs := by rw [hH, hlc]; exact hw
  suffices h0 : W p l e (rmL 0) s m ([.ref (ad 2), .int a1, .int a2] : List Value).toArray below meth c H locs 0 0 Q (F0 m 0 ls []) by rw [hH, hlc] at h0; exact h0
  clear hH hlc
  unfold f2_addAsker at h
  have hJ_15 : ∀ (s2_j15 : OS) (H : Heap) (locs : List Loc) (ls : Array Slot), f2_addAsker_j15 s2_j15 = some r → Wd D (cellsC ad cy s0 s1 s2_j15 s3 s4 s5 s6 s7 s8 s9 s10) (Afr ad 67 s.heap.size) s.heap H locs → lv_has ls 4 [] → W p l e (rmL 0) s m ([.ref (ad 2), .int a1, .int a2] : List Value).toArray below meth c H locs 0 0 Q (F0 m 15 ls []) := by
    intro s2_j15 H locs ls h hw hl
    unfold f2_addAsker_j15 at h
    refine lv_iconst (v := (-1)) hx hb dX2_addAsker_15 (by decide) ?_
    have h := Option.some.inj h
    subst h
    rw [← hQ]
    exact retI hx hb hr hlk hw rfl dX2_addAsker_16
  refine lv_aload_n hx hb dX2_addAsker_0 rfl (lv_at hl 0 rfl) ?_
  refine gX2_18 hx hb hts hown hK hw dX2_addAsker_1 ?_
  obtain ⟨n_4, e_4, h⟩ := nam_e h
  refine topI e_4 ?_
  refine lv_istore_n (lv' := [(3, .int n_4), (0, .ref (ad 2)), (1, .int a1), (2, .int a2)]) hx hb dX2_addAsker_4 rfl hl (by decide) rfl (fun ls hl => ?_)
  refine lv_iload_n hx hb dX2_addAsker_5 rfl (lv_at hl 0 rfl) ?_
  refine lv_if_lt (tgt := 15) hx hb dX2_addAsker_6 (by decide) (fun c_6 => ?_) (fun c_6 => ?_)
  · have h := ite_t c_6 h
    exact hJ_15 s2 H locs ls h hw (lv_sub hl [] rfl)
  · have h := ite_f c_6 h
    refine lv_iload_n hx hb dX2_addAsker_9 rfl (lv_at hl 0 rfl) ?_
    refine lv_bipush (v := 20) hx hb dX2_addAsker_10 (by decide) ?_
    refine lv_icmp_lt (tgt := 17) hx hb dX2_addAsker_12 (by decide) (fun c_12 => ?_) (fun c_12 => ?_)
    · have h := ite_t c_12 h
      refine lv_aload_n hx hb dX2_addAsker_17 rfl (lv_at hl 1 rfl) ?_
      refine gX2_11 hx hb hts hown hK hw dX2_addAsker_18 ?_
      refine lv_iload_n hx hb dX2_addAsker_21 rfl (lv_at hl 0 rfl) ?_
      refine lv_iload_n hx hb dX2_addAsker_22 rfl (lv_at hl 2 rfl) ?_
      obtain ⟨hi_23, h⟩ := chk_e h
      obtain ⟨s2_23, e_23, h⟩ := nam_e h
      refine aC25 hx hb hK hw hi_23 e_23 dX2_addAsker_23 (fun H locs hw => ?_)
      refine lv_aload_n hx hb dX2_addAsker_24 rfl (lv_at hl 1 rfl) ?_
      refine gX2_15 hx hb hts hown hK hw dX2_addAsker_25 ?_
      refine lv_iload_n hx hb dX2_addAsker_28 rfl (lv_at hl 0 rfl) ?_
      refine lv_iload_n hx hb dX2_addAsker_29 rfl (lv_at hl 3 rfl) ?_
      obtain ⟨hi_30, h⟩ := chk_e h
      obtain ⟨s2_30, e_30, h⟩ := nam_e h
      refine aC26 hx hb hK hw hi_30 e_30 dX2_addAsker_30 (fun H locs hw => ?_)
      refine lv_aload_n hx hb dX2_addAsker_31 rfl (lv_at hl 1 rfl) ?_
      refine lv_dup hx hb dX2_addAsker_32 rfl ?_
      refine gX2_18 hx hb hts hown hK hw dX2_addAsker_33 ?_
      refine lv_iconst (v := 1) hx hb dX2_addAsker_36 (by decide) ?_
      refine lv_iadd hx hb dX2_addAsker_37 ?_
      obtain ⟨s2_38, e_38, h⟩ := nam_e h
      refine pX2_18 hx hb hts hown hK hw e_38 dX2_addAsker_38 (fun H locs hw => ?_)
      refine lv_iload_n hx hb dX2_addAsker_41 rfl (lv_at hl 0 rfl) ?_
      have h := Option.some.inj h
      subst h
      rw [← hQ]
      exact retI hx hb hr hlk hw rfl dX2_addAsker_42
    · have h := ite_f c_12 h
      exact hJ_15 s2 H locs ls h hw (lv_sub hl [] rfl)
theorem dX2_hasLoan_0 : decode cX2_hasLoan 0 = .ok (.iload_n 1, 1) := by decide +kernel
theorem dX2_hasLoan_1 : decode cX2_hasLoan 1 = .ok (.ifCond .lt 21, 3) := by decide +kernel
theorem dX2_hasLoan_4 : decode cX2_hasLoan 4 = .ok (.iload_n 1, 1) := by decide +kernel
theorem dX2_hasLoan_5 : decode cX2_hasLoan 5 = .ok (.aload_n 0, 1) := by decide +kernel
theorem dX2_hasLoan_6 : decode cX2_hasLoan 6 = .ok (.getfield 40, 3) := by decide +kernel
theorem dX2_hasLoan_9 : decode cX2_hasLoan 9 = .ok (.if_icmp .ge 13, 3) := by decide +kernel
theorem dX2_hasLoan_12 : decode cX2_hasLoan 12 = .ok (.iload_n 1, 1) := by decide +kernel
theorem dX2_hasLoan_13 : decode cX2_hasLoan 13 = .ok (.bipush 100, 2) := by decide +kernel
theorem dX2_hasLoan_15 : decode cX2_hasLoan 15 = .ok (.if_icmp .ge 7, 3) := by decide +kernel
theorem dX2_hasLoan_18 : decode cX2_hasLoan 18 = .ok (.iconst 1, 1) := by decide +kernel
theorem dX2_hasLoan_19 : decode cX2_hasLoan 19 = .ok (.goto 4, 3) := by decide +kernel
theorem dX2_hasLoan_22 : decode cX2_hasLoan 22 = .ok (.iconst 0, 1) := by decide +kernel
theorem dX2_hasLoan_23 : decode cX2_hasLoan 23 = .ok (.ireturn, 1) := by decide +kernel
def f2_hasLoan_j23 (k0_j23 : Int32) (s2_j23 : OS) : Option (Int32) := chk (isB k0_j23) (some k0_j23)
def f2_hasLoan_j22 (s2_j22 : OS) : Option (Int32) := f2_hasLoan_j23 ((0 : Int32)) s2_j22
def f2_hasLoan (a1 : Int32) (s2 : OS) : Option (Int32) := if a1 < 0 then (f2_hasLoan_j22 s2) else (if (s2.1 0 9) ≤ a1 then (f2_hasLoan_j22 s2) else (if (100 : Int32) ≤ a1 then (f2_hasLoan_j22 s2) else (f2_hasLoan_j23 ((1 : Int32)) s2)))
set_option maxHeartbeats 4000000 in
set_option maxRecDepth 100000 in
theorem m2_hasLoan (l : Launch) (D : va_G) (ad : Nat → Nat) (cy : Nat → ClassId) (sz : Nat) (s0 s1 s2 s3 s4 s5 s6 s7 s8 s9 s10 : OS) (a1 : Int32) (r : Int32) (h : f2_hasLoan a1 s2 = some r) : Met l yX2_hasLoan (wsOf yX2_hasLoan cX2_hasLoan 2 (some .boolean)) (rmL 0) (va_Pc ([.ref (ad 2), .int a1] : List Value) (PreG D cy (cellsC ad cy s0 s1 s2 s3 s4 s5 s6 s7 s8 s9 s10) sz (NC ad))) (QcI D ad 67 (cellsC ad cy s0 s1 s2 s3 s4 s5 s6 s7 s8 s9 s10) (r) sz) 0 0 (Afr ad 67 sz) := by
  refine metG (own := RX2) (by decide) rfl (Nat.le_of_ble_eq_true rfl) fstC ?_ sz
  intro p e s m below meth c ls C0 hw hl
  obtain ⟨hx, hb, hml, hown, hts, hr, hlk, hK, hN⟩ := C0
  have hl : lv_has ls 2 [(0, .ref (ad 2)), (1, .int a1)] := hl
  generalize hQ : MQ below (QcI D ad 67 (cellsC ad cy s0 s1 s2 s3 s4 s5 s6 s7 s8 s9 s10) (r) s.heap.size) ([.ref (ad 2), .int a1] : List Value).toArray s 0 0 (Afr ad 67 s.heap.size) = Q
  obtain ⟨H, hH⟩ : ∃ H : Heap, H = s.heap := ⟨_, rfl⟩
  obtain ⟨locs, hlc⟩ : ∃ L : List Loc, L = [] := ⟨_, rfl⟩
  have hw : Wd D (cellsC ad cy s0 s1 s2 s3 s4 s5 s6 s7 s8 s9 s10) (Afr ad 67 s.heap.size) s.heap H locs := by rw [hH, hlc]; exact hw
  suffices h0 : W p l e (rmL 0) s m ([.ref (ad 2), .int a1] : List Value).toArray below meth c H locs 0 0 Q (F0 m 0 ls []) by rw [hH, hlc] at h0; exact h0
  clear hH hlc
  unfold f2_hasLoan at h
  have hJ_23 : ∀ (k0_j23 : Int32) (H : Heap) (locs : List Loc) (ls : Array Slot), f2_hasLoan_j23 k0_j23 s2 = some r → Wd D (cellsC ad cy s0 s1 s2 s3 s4 s5 s6 s7 s8 s9 s10) (Afr ad 67 s.heap.size) s.heap H locs → lv_has ls 2 [] → W p l e (rmL 0) s m ([.ref (ad 2), .int a1] : List Value).toArray below meth c H locs 0 0 Q (F0 m 23 ls [.int k0_j23]) := by
    intro k0_j23 H locs ls h hw hl
    unfold f2_hasLoan_j23 at h
    obtain ⟨hz_23, h⟩ := chk_e h
    have h := Option.some.inj h
    subst h
    rw [← hQ]
    exact retI hx hb hr hlk hw (narB hz_23) dX2_hasLoan_23
  have hJ_22 : ∀  (H : Heap) (locs : List Loc) (ls : Array Slot), f2_hasLoan_j22 s2 = some r → Wd D (cellsC ad cy s0 s1 s2 s3 s4 s5 s6 s7 s8 s9 s10) (Afr ad 67 s.heap.size) s.heap H locs → lv_has ls 2 [] → W p l e (rmL 0) s m ([.ref (ad 2), .int a1] : List Value).toArray below meth c H locs 0 0 Q (F0 m 22 ls []) := by
    intro  H locs ls h hw hl
    unfold f2_hasLoan_j22 at h
    refine lv_iconst (v := 0) hx hb dX2_hasLoan_22 (by decide) ?_
    exact hJ_23 ((0 : Int32)) H locs ls h hw (lv_sub hl [] rfl)
  refine lv_iload_n hx hb dX2_hasLoan_0 rfl (lv_at hl 1 rfl) ?_
  refine lv_if_lt (tgt := 22) hx hb dX2_hasLoan_1 (by decide) (fun c_1 => ?_) (fun c_1 => ?_)
  · have h := ite_t c_1 h
    exact hJ_22  H locs ls h hw (lv_sub hl [] rfl)
  · have h := ite_f c_1 h
    refine lv_iload_n hx hb dX2_hasLoan_4 rfl (lv_at hl 1 rfl) ?_
    refine lv_aload_n hx hb dX2_hasLoan_5 rfl (lv_at hl 0 rfl) ?_
    refine gX2_40 hx hb hts hown hK hw dX2_hasLoan_6 ?_
    refine lv_icmp_ge (tgt := 22) hx hb dX2_hasLoan_9 (by decide) (fun c_9 => ?_) (fun c_9 => ?_)
    · have h := ite_t c_9 h
      exact hJ_22  H locs ls h hw (lv_sub hl [] rfl)
    · have h := ite_f c_9 h
      refine lv_iload_n hx hb dX2_hasLoan_12 rfl (lv_at hl 1 rfl) ?_
      refine lv_bipush (v := 100) hx hb dX2_hasLoan_13 (by decide) ?_
      refine lv_icmp_ge (tgt := 22) hx hb dX2_hasLoan_15 (by decide) (fun c_15 => ?_) (fun c_15 => ?_)
      · have h := ite_t c_15 h
        exact hJ_22  H locs ls h hw (lv_sub hl [] rfl)
      · have h := ite_f c_15 h
        refine lv_iconst (v := 1) hx hb dX2_hasLoan_18 (by decide) ?_
        refine lv_goto (tgt := 23) hx hb dX2_hasLoan_19 (by decide) ?_
        exact hJ_23 ((1 : Int32)) H locs ls h hw (lv_sub hl [] rfl)
theorem dX2_end_0 : decode cX2_end 0 = .ok (.aload_n 0, 1) := by decide +kernel
theorem dX2_end_1 : decode cX2_end 1 = .ok (.iload_n 1, 1) := by decide +kernel
theorem dX2_end_2 : decode cX2_end 2 = .ok (.invokevirtual 47, 3) := by decide +kernel
theorem dX2_end_5 : decode cX2_end 5 = .ok (.ifCond .eq 17, 3) := by decide +kernel
theorem dX2_end_8 : decode cX2_end 8 = .ok (.aload_n 0, 1) := by decide +kernel
theorem dX2_end_9 : decode cX2_end 9 = .ok (.getfield 34, 3) := by decide +kernel
theorem dX2_end_12 : decode cX2_end 12 = .ok (.iload_n 1, 1) := by decide +kernel
theorem dX2_end_13 : decode cX2_end 13 = .ok (.iload_n 2, 1) := by decide +kernel
theorem dX2_end_14 : decode cX2_end 14 = .ok (.iastore, 1) := by decide +kernel
theorem dX2_end_15 : decode cX2_end 15 = .ok (.aload_n 0, 1) := by decide +kernel
theorem dX2_end_16 : decode cX2_end 16 = .ok (.getfield 37, 3) := by decide +kernel
theorem dX2_end_19 : decode cX2_end 19 = .ok (.iload_n 1, 1) := by decide +kernel
theorem dX2_end_20 : decode cX2_end 20 = .ok (.iload_n 3, 1) := by decide +kernel
theorem dX2_end_21 : decode cX2_end 21 = .ok (.iastore, 1) := by decide +kernel
theorem dX2_end_22 : decode cX2_end 22 = .ok (.return_, 1) := by decide +kernel
def f2_end_j22 (s2_j22 : OS) : Option (OS) := some s2_j22
def f2_end (a1 : Int32) (a2 : Int32) (a3 : Int32) (s2 : OS) : Option (OS) := Option.bind (f2_hasLoan a1 s2) fun q_2 => if q_2 = 0 then (f2_end_j22 s2) else (chk (inb a1 100) (nm (wI s2 8 a1.toNatClampNeg a2) fun s2_14 => chk (inb a1 100) (nm (wI s2_14 9 a1.toNatClampNeg a3) fun s2_21 => f2_end_j22 s2_21)))
set_option maxHeartbeats 4000000 in
set_option maxRecDepth 100000 in
theorem m2_end (l : Launch) (D : va_G) (ad : Nat → Nat) (cy : Nat → ClassId) (sz : Nat) (s0 s1 s2 s3 s4 s5 s6 s7 s8 s9 s10 : OS) (a1 : Int32) (a2 : Int32) (a3 : Int32) (r : OS) (h : f2_end a1 a2 a3 s2 = some r) : Met l yX2_end (wsOf yX2_end cX2_end 4 none) (rmL 1) (va_Pc ([.ref (ad 2), .int a1, .int a2, .int a3] : List Value) (PreG D cy (cellsC ad cy s0 s1 s2 s3 s4 s5 s6 s7 s8 s9 s10) sz (NC ad))) (QcV D ad 67 (cellsC ad cy s0 s1 r s3 s4 s5 s6 s7 s8 s9 s10) sz) 0 0 (Afr ad 67 sz) := by
  refine metG (own := RX2) (by decide) rfl (Nat.le_of_ble_eq_true rfl) fstC ?_ sz
  intro p e s m below meth c ls C0 hw hl
  obtain ⟨hx, hb, hml, hown, hts, hr, hlk, hK, hN⟩ := C0
  have hl : lv_has ls 4 [(0, .ref (ad 2)), (1, .int a1), (2, .int a2), (3, .int a3)] := hl
  generalize hQ : MQ below (QcV D ad 67 (cellsC ad cy s0 s1 r s3 s4 s5 s6 s7 s8 s9 s10) s.heap.size) ([.ref (ad 2), .int a1, .int a2, .int a3] : List Value).toArray s 0 0 (Afr ad 67 s.heap.size) = Q
  obtain ⟨H, hH⟩ : ∃ H : Heap, H = s.heap := ⟨_, rfl⟩
  obtain ⟨locs, hlc⟩ : ∃ L : List Loc, L = [] := ⟨_, rfl⟩
  have hw : Wd D (cellsC ad cy s0 s1 s2 s3 s4 s5 s6 s7 s8 s9 s10) (Afr ad 67 s.heap.size) s.heap H locs := by rw [hH, hlc]; exact hw
  suffices h0 : W p l e (rmL 1) s m ([.ref (ad 2), .int a1, .int a2, .int a3] : List Value).toArray below meth c H locs 0 0 Q (F0 m 0 ls []) by rw [hH, hlc] at h0; exact h0
  clear hH hlc
  unfold f2_end at h
  have hJ_22 : ∀ (s2_j22 : OS) (H : Heap) (locs : List Loc) (ls : Array Slot), f2_end_j22 s2_j22 = some r → Wd D (cellsC ad cy s0 s1 s2_j22 s3 s4 s5 s6 s7 s8 s9 s10) (Afr ad 67 s.heap.size) s.heap H locs → lv_has ls 4 [] → W p l e (rmL 1) s m ([.ref (ad 2), .int a1, .int a2, .int a3] : List Value).toArray below meth c H locs 0 0 Q (F0 m 22 ls []) := by
    intro s2_j22 H locs ls h hw hl
    unfold f2_end_j22 at h
    have h := Option.some.inj h
    subst h
    rw [← hQ]
    exact retV hx hb hr hlk hw dX2_end_22
  refine lv_aload_n hx hb dX2_end_0 rfl (lv_at hl 0 rfl) ?_
  refine lv_iload_n hx hb dX2_end_1 rfl (lv_at hl 1 rfl) ?_
  obtain ⟨q_2, h_2, h⟩ := bnd_e h
  have pg_2 := preG (av := [.ref (ad 2), .int a1]) hK hw.1 hw.2.1 (NC_keep hN hw.2.2) NC_blind
  refine endI (mc := 0) (ms := 0) (va_runV (As := [.int a1]) (rest := []) ⟨hx, hb, hml, hown, hts⟩ (m2_hasLoan l D ad cy H.size s0 s1 s2 s3 s4 s5 s6 s7 s8 s9 s10 a1 q_2 h_2) (wX2_47 0 hts ⟨Nat.le_of_ble_eq_true rfl, Nat.le_of_ble_eq_true rfl⟩) ⟨pg_2.1, va_recv hK hw.1 (ci := 2) (q0 := 2) rfl eC_2, pg_2.2⟩ rfl rfl hl.1 rfl (lv_room (Nat.le_of_ble_eq_true rfl)) dX2_end_2 ⟨Nat.le_refl _, Nat.le_refl _⟩) hw.2.2 (afr_in hw.2.2) (fun H locs hw => ?_)
  refine lv_if_eq (tgt := 22) hx hb dX2_end_5 (by decide) (fun c_5 => ?_) (fun c_5 => ?_)
  · have h := ite_t c_5 h
    exact hJ_22 s2 H locs ls h hw (lv_sub hl [] rfl)
  · have h := ite_f c_5 h
    refine lv_aload_n hx hb dX2_end_8 rfl (lv_at hl 0 rfl) ?_
    refine gX2_34 hx hb hts hown hK hw dX2_end_9 ?_
    refine lv_iload_n hx hb dX2_end_12 rfl (lv_at hl 1 rfl) ?_
    refine lv_iload_n hx hb dX2_end_13 rfl (lv_at hl 2 rfl) ?_
    obtain ⟨hi_14, h⟩ := chk_e h
    obtain ⟨s2_14, e_14, h⟩ := nam_e h
    refine aC31 hx hb hK hw hi_14 e_14 dX2_end_14 (fun H locs hw => ?_)
    refine lv_aload_n hx hb dX2_end_15 rfl (lv_at hl 0 rfl) ?_
    refine gX2_37 hx hb hts hown hK hw dX2_end_16 ?_
    refine lv_iload_n hx hb dX2_end_19 rfl (lv_at hl 1 rfl) ?_
    refine lv_iload_n hx hb dX2_end_20 rfl (lv_at hl 3 rfl) ?_
    obtain ⟨hi_21, h⟩ := chk_e h
    obtain ⟨s2_21, e_21, h⟩ := nam_e h
    refine aC32 hx hb hK hw hi_21 e_21 dX2_end_21 (fun H locs hw => ?_)
    exact hJ_22 s2_21 H locs ls h hw (lv_sub hl [] rfl)
theorem dX2_isOut_0 : decode cX2_isOut 0 = .ok (.aload_n 0, 1) := by decide +kernel
theorem dX2_isOut_1 : decode cX2_isOut 1 = .ok (.iload_n 1, 1) := by decide +kernel
theorem dX2_isOut_2 : decode cX2_isOut 2 = .ok (.invokevirtual 47, 3) := by decide +kernel
theorem dX2_isOut_5 : decode cX2_isOut 5 = .ok (.ifCond .eq 17, 3) := by decide +kernel
theorem dX2_isOut_8 : decode cX2_isOut 8 = .ok (.aload_n 0, 1) := by decide +kernel
theorem dX2_isOut_9 : decode cX2_isOut 9 = .ok (.getfield 34, 3) := by decide +kernel
theorem dX2_isOut_12 : decode cX2_isOut 12 = .ok (.iload_n 1, 1) := by decide +kernel
theorem dX2_isOut_13 : decode cX2_isOut 13 = .ok (.iaload, 1) := by decide +kernel
theorem dX2_isOut_14 : decode cX2_isOut 14 = .ok (.iconst (-1), 1) := by decide +kernel
theorem dX2_isOut_15 : decode cX2_isOut 15 = .ok (.if_icmp .ne 7, 3) := by decide +kernel
theorem dX2_isOut_18 : decode cX2_isOut 18 = .ok (.iconst 1, 1) := by decide +kernel
theorem dX2_isOut_19 : decode cX2_isOut 19 = .ok (.goto 4, 3) := by decide +kernel
theorem dX2_isOut_22 : decode cX2_isOut 22 = .ok (.iconst 0, 1) := by decide +kernel
theorem dX2_isOut_23 : decode cX2_isOut 23 = .ok (.ireturn, 1) := by decide +kernel
def f2_isOut_j23 (k0_j23 : Int32) (s2_j23 : OS) : Option (Int32) := chk (isB k0_j23) (some k0_j23)
def f2_isOut_j22 (s2_j22 : OS) : Option (Int32) := f2_isOut_j23 ((0 : Int32)) s2_j22
def f2_isOut (a1 : Int32) (s2 : OS) : Option (Int32) := Option.bind (f2_hasLoan a1 s2) fun q_2 => if q_2 = 0 then (f2_isOut_j22 s2) else (chk (inb a1 100) (nm (s2.1 8 a1.toNatClampNeg) fun y_13 => if y_13 = (-1 : Int32) then (f2_isOut_j23 ((1 : Int32)) s2) else (f2_isOut_j22 s2)))
set_option maxHeartbeats 4000000 in
set_option maxRecDepth 100000 in
theorem m2_isOut (l : Launch) (D : va_G) (ad : Nat → Nat) (cy : Nat → ClassId) (sz : Nat) (s0 s1 s2 s3 s4 s5 s6 s7 s8 s9 s10 : OS) (a1 : Int32) (r : Int32) (h : f2_isOut a1 s2 = some r) : Met l yX2_isOut (wsOf yX2_isOut cX2_isOut 2 (some .boolean)) (rmL 1) (va_Pc ([.ref (ad 2), .int a1] : List Value) (PreG D cy (cellsC ad cy s0 s1 s2 s3 s4 s5 s6 s7 s8 s9 s10) sz (NC ad))) (QcI D ad 67 (cellsC ad cy s0 s1 s2 s3 s4 s5 s6 s7 s8 s9 s10) (r) sz) 0 0 (Afr ad 67 sz) := by
  refine metG (own := RX2) (by decide) rfl (Nat.le_of_ble_eq_true rfl) fstC ?_ sz
  intro p e s m below meth c ls C0 hw hl
  obtain ⟨hx, hb, hml, hown, hts, hr, hlk, hK, hN⟩ := C0
  have hl : lv_has ls 2 [(0, .ref (ad 2)), (1, .int a1)] := hl
  generalize hQ : MQ below (QcI D ad 67 (cellsC ad cy s0 s1 s2 s3 s4 s5 s6 s7 s8 s9 s10) (r) s.heap.size) ([.ref (ad 2), .int a1] : List Value).toArray s 0 0 (Afr ad 67 s.heap.size) = Q
  obtain ⟨H, hH⟩ : ∃ H : Heap, H = s.heap := ⟨_, rfl⟩
  obtain ⟨locs, hlc⟩ : ∃ L : List Loc, L = [] := ⟨_, rfl⟩
  have hw : Wd D (cellsC ad cy s0 s1 s2 s3 s4 s5 s6 s7 s8 s9 s10) (Afr ad 67 s.heap.size) s.heap H locs := by rw [hH, hlc]; exact hw
  suffices h0 : W p l e (rmL 1) s m ([.ref (ad 2), .int a1] : List Value).toArray below meth c H locs 0 0 Q (F0 m 0 ls []) by rw [hH, hlc] at h0; exact h0
  clear hH hlc
  unfold f2_isOut at h
  have hJ_23 : ∀ (k0_j23 : Int32) (H : Heap) (locs : List Loc) (ls : Array Slot), f2_isOut_j23 k0_j23 s2 = some r → Wd D (cellsC ad cy s0 s1 s2 s3 s4 s5 s6 s7 s8 s9 s10) (Afr ad 67 s.heap.size) s.heap H locs → lv_has ls 2 [] → W p l e (rmL 1) s m ([.ref (ad 2), .int a1] : List Value).toArray below meth c H locs 0 0 Q (F0 m 23 ls [.int k0_j23]) := by
    intro k0_j23 H locs ls h hw hl
    unfold f2_isOut_j23 at h
    obtain ⟨hz_23, h⟩ := chk_e h
    have h := Option.some.inj h
    subst h
    rw [← hQ]
    exact retI hx hb hr hlk hw (narB hz_23) dX2_isOut_23
  have hJ_22 : ∀  (H : Heap) (locs : List Loc) (ls : Array Slot), f2_isOut_j22 s2 = some r → Wd D (cellsC ad cy s0 s1 s2 s3 s4 s5 s6 s7 s8 s9 s10) (Afr ad 67 s.heap.size) s.heap H locs → lv_has ls 2 [] → W p l e (rmL 1) s m ([.ref (ad 2), .int a1] : List Value).toArray below meth c H locs 0 0 Q (F0 m 22 ls []) := by
    intro  H locs ls h hw hl
    unfold f2_isOut_j22 at h
    refine lv_iconst (v := 0) hx hb dX2_isOut_22 (by decide) ?_
    exact hJ_23 ((0 : Int32)) H locs ls h hw (lv_sub hl [] rfl)
  refine lv_aload_n hx hb dX2_isOut_0 rfl (lv_at hl 0 rfl) ?_
  refine lv_iload_n hx hb dX2_isOut_1 rfl (lv_at hl 1 rfl) ?_
  obtain ⟨q_2, h_2, h⟩ := bnd_e h
  have pg_2 := preG (av := [.ref (ad 2), .int a1]) hK hw.1 hw.2.1 (NC_keep hN hw.2.2) NC_blind
  refine endI (mc := 0) (ms := 0) (va_runV (As := [.int a1]) (rest := []) ⟨hx, hb, hml, hown, hts⟩ (m2_hasLoan l D ad cy H.size s0 s1 s2 s3 s4 s5 s6 s7 s8 s9 s10 a1 q_2 h_2) (wX2_47 0 hts ⟨Nat.le_of_ble_eq_true rfl, Nat.le_of_ble_eq_true rfl⟩) ⟨pg_2.1, va_recv hK hw.1 (ci := 2) (q0 := 2) rfl eC_2, pg_2.2⟩ rfl rfl hl.1 rfl (lv_room (Nat.le_of_ble_eq_true rfl)) dX2_isOut_2 ⟨Nat.le_refl _, Nat.le_refl _⟩) hw.2.2 (afr_in hw.2.2) (fun H locs hw => ?_)
  refine lv_if_eq (tgt := 22) hx hb dX2_isOut_5 (by decide) (fun c_5 => ?_) (fun c_5 => ?_)
  · have h := ite_t c_5 h
    exact hJ_22  H locs ls h hw (lv_sub hl [] rfl)
  · have h := ite_f c_5 h
    refine lv_aload_n hx hb dX2_isOut_8 rfl (lv_at hl 0 rfl) ?_
    refine gX2_34 hx hb hts hown hK hw dX2_isOut_9 ?_
    refine lv_iload_n hx hb dX2_isOut_12 rfl (lv_at hl 1 rfl) ?_
    obtain ⟨hi_13, h⟩ := chk_e h
    obtain ⟨y_13, e_13, h⟩ := nam_e h
    refine lC31 hx hb hK hw hi_13 e_13 dX2_isOut_13 ?_
    refine lv_iconst (v := (-1)) hx hb dX2_isOut_14 (by decide) ?_
    refine lv_icmp_ne (tgt := 22) hx hb dX2_isOut_15 (by decide) (fun c_15 => ?_) (fun c_15 => ?_)
    · have h := ite_f c_15 h
      exact hJ_22  H locs ls h hw (lv_sub hl [] rfl)
    · have h := ite_t c_15 h
      refine lv_iconst (v := 1) hx hb dX2_isOut_18 (by decide) ?_
      refine lv_goto (tgt := 23) hx hb dX2_isOut_19 (by decide) ?_
      exact hJ_23 ((1 : Int32)) H locs ls h hw (lv_sub hl [] rfl)
theorem dX2_pieceOf_0 : decode cX2_pieceOf 0 = .ok (.aload_n 0, 1) := by decide +kernel
theorem dX2_pieceOf_1 : decode cX2_pieceOf 1 = .ok (.iload_n 1, 1) := by decide +kernel
theorem dX2_pieceOf_2 : decode cX2_pieceOf 2 = .ok (.invokevirtual 47, 3) := by decide +kernel
theorem dX2_pieceOf_5 : decode cX2_pieceOf 5 = .ok (.ifCond .eq 12, 3) := by decide +kernel
theorem dX2_pieceOf_8 : decode cX2_pieceOf 8 = .ok (.aload_n 0, 1) := by decide +kernel
theorem dX2_pieceOf_9 : decode cX2_pieceOf 9 = .ok (.getfield 22, 3) := by decide +kernel
theorem dX2_pieceOf_12 : decode cX2_pieceOf 12 = .ok (.iload_n 1, 1) := by decide +kernel
theorem dX2_pieceOf_13 : decode cX2_pieceOf 13 = .ok (.iaload, 1) := by decide +kernel
theorem dX2_pieceOf_14 : decode cX2_pieceOf 14 = .ok (.goto 4, 3) := by decide +kernel
theorem dX2_pieceOf_17 : decode cX2_pieceOf 17 = .ok (.iconst (-1), 1) := by decide +kernel
theorem dX2_pieceOf_18 : decode cX2_pieceOf 18 = .ok (.ireturn, 1) := by decide +kernel
def f2_pieceOf_j18 (k0_j18 : Int32) (s2_j18 : OS) : Option (Int32) := some k0_j18
def f2_pieceOf (a1 : Int32) (s2 : OS) : Option (Int32) := Option.bind (f2_hasLoan a1 s2) fun q_2 => if q_2 = 0 then (f2_pieceOf_j18 ((-1 : Int32)) s2) else (chk (inb a1 100) (nm (s2.1 4 a1.toNatClampNeg) fun y_13 => f2_pieceOf_j18 y_13 s2))
set_option maxHeartbeats 4000000 in
set_option maxRecDepth 100000 in
theorem m2_pieceOf (l : Launch) (D : va_G) (ad : Nat → Nat) (cy : Nat → ClassId) (sz : Nat) (s0 s1 s2 s3 s4 s5 s6 s7 s8 s9 s10 : OS) (a1 : Int32) (r : Int32) (h : f2_pieceOf a1 s2 = some r) : Met l yX2_pieceOf (wsOf yX2_pieceOf cX2_pieceOf 2 (some .int)) (rmL 1) (va_Pc ([.ref (ad 2), .int a1] : List Value) (PreG D cy (cellsC ad cy s0 s1 s2 s3 s4 s5 s6 s7 s8 s9 s10) sz (NC ad))) (QcI D ad 67 (cellsC ad cy s0 s1 s2 s3 s4 s5 s6 s7 s8 s9 s10) (r) sz) 0 0 (Afr ad 67 sz) := by
  refine metG (own := RX2) (by decide) rfl (Nat.le_of_ble_eq_true rfl) fstC ?_ sz
  intro p e s m below meth c ls C0 hw hl
  obtain ⟨hx, hb, hml, hown, hts, hr, hlk, hK, hN⟩ := C0
  have hl : lv_has ls 2 [(0, .ref (ad 2)), (1, .int a1)] := hl
  generalize hQ : MQ below (QcI D ad 67 (cellsC ad cy s0 s1 s2 s3 s4 s5 s6 s7 s8 s9 s10) (r) s.heap.size) ([.ref (ad 2), .int a1] : List Value).toArray s 0 0 (Afr ad 67 s.heap.size) = Q
  obtain ⟨H, hH⟩ : ∃ H : Heap, H = s.heap := ⟨_, rfl⟩
  obtain ⟨locs, hlc⟩ : ∃ L : List Loc, L = [] := ⟨_, rfl⟩
  have hw : Wd D (cellsC ad cy s0 s1 s2 s3 s4 s5 s6 s7 s8 s9 s10) (Afr ad 67 s.heap.size) s.heap H locs := by rw [hH, hlc]; exact hw
  suffices h0 : W p l e (rmL 1) s m ([.ref (ad 2), .int a1] : List Value).toArray below meth c H locs 0 0 Q (F0 m 0 ls []) by rw [hH, hlc] at h0; exact h0
  clear hH hlc
  unfold f2_pieceOf at h
  have hJ_18 : ∀ (k0_j18 : Int32) (H : Heap) (locs : List Loc) (ls : Array Slot), f2_pieceOf_j18 k0_j18 s2 = some r → Wd D (cellsC ad cy s0 s1 s2 s3 s4 s5 s6 s7 s8 s9 s10) (Afr ad 67 s.heap.size) s.heap H locs → lv_has ls 2 [] → W p l e (rmL 1) s m ([.ref (ad 2), .int a1] : List Value).toArray below meth c H locs 0 0 Q (F0 m 18 ls [.int k0_j18]) := by
    intro k0_j18 H locs ls h hw hl
    unfold f2_pieceOf_j18 at h
    have h := Option.some.inj h
    subst h
    rw [← hQ]
    exact retI hx hb hr hlk hw rfl dX2_pieceOf_18
  refine lv_aload_n hx hb dX2_pieceOf_0 rfl (lv_at hl 0 rfl) ?_
  refine lv_iload_n hx hb dX2_pieceOf_1 rfl (lv_at hl 1 rfl) ?_
  obtain ⟨q_2, h_2, h⟩ := bnd_e h
  have pg_2 := preG (av := [.ref (ad 2), .int a1]) hK hw.1 hw.2.1 (NC_keep hN hw.2.2) NC_blind
  refine endI (mc := 0) (ms := 0) (va_runV (As := [.int a1]) (rest := []) ⟨hx, hb, hml, hown, hts⟩ (m2_hasLoan l D ad cy H.size s0 s1 s2 s3 s4 s5 s6 s7 s8 s9 s10 a1 q_2 h_2) (wX2_47 0 hts ⟨Nat.le_of_ble_eq_true rfl, Nat.le_of_ble_eq_true rfl⟩) ⟨pg_2.1, va_recv hK hw.1 (ci := 2) (q0 := 2) rfl eC_2, pg_2.2⟩ rfl rfl hl.1 rfl (lv_room (Nat.le_of_ble_eq_true rfl)) dX2_pieceOf_2 ⟨Nat.le_refl _, Nat.le_refl _⟩) hw.2.2 (afr_in hw.2.2) (fun H locs hw => ?_)
  refine lv_if_eq (tgt := 17) hx hb dX2_pieceOf_5 (by decide) (fun c_5 => ?_) (fun c_5 => ?_)
  · have h := ite_t c_5 h
    refine lv_iconst (v := (-1)) hx hb dX2_pieceOf_17 (by decide) ?_
    exact hJ_18 ((-1 : Int32)) H locs ls h hw (lv_sub hl [] rfl)
  · have h := ite_f c_5 h
    refine lv_aload_n hx hb dX2_pieceOf_8 rfl (lv_at hl 0 rfl) ?_
    refine gX2_22 hx hb hts hown hK hw dX2_pieceOf_9 ?_
    refine lv_iload_n hx hb dX2_pieceOf_12 rfl (lv_at hl 1 rfl) ?_
    obtain ⟨hi_13, h⟩ := chk_e h
    obtain ⟨y_13, e_13, h⟩ := nam_e h
    refine lC27 hx hb hK hw hi_13 e_13 dX2_pieceOf_13 ?_
    refine lv_goto (tgt := 18) hx hb dX2_pieceOf_14 (by decide) ?_
    exact hJ_18 y_13 H locs ls h hw (lv_sub hl [] rfl)
theorem dX2_askerCount_0 : decode cX2_askerCount 0 = .ok (.aload_n 0, 1) := by decide +kernel
theorem dX2_askerCount_1 : decode cX2_askerCount 1 = .ok (.getfield 18, 3) := by decide +kernel
theorem dX2_askerCount_4 : decode cX2_askerCount 4 = .ok (.ireturn, 1) := by decide +kernel
def f2_askerCount (s2 : OS) : Option (Int32) := some ((s2.1 0 2))
set_option maxHeartbeats 4000000 in
set_option maxRecDepth 100000 in
theorem m2_askerCount (l : Launch) (D : va_G) (ad : Nat → Nat) (cy : Nat → ClassId) (sz : Nat) (s0 s1 s2 s3 s4 s5 s6 s7 s8 s9 s10 : OS) (r : Int32) (h : f2_askerCount s2 = some r) : Met l yX2_askerCount (wsOf yX2_askerCount cX2_askerCount 1 (some .int)) (rmL 0) (va_Pc ([.ref (ad 2)] : List Value) (PreG D cy (cellsC ad cy s0 s1 s2 s3 s4 s5 s6 s7 s8 s9 s10) sz (NC ad))) (QcI D ad 67 (cellsC ad cy s0 s1 s2 s3 s4 s5 s6 s7 s8 s9 s10) (r) sz) 0 0 (Afr ad 67 sz) := by
  refine metG (own := RX2) (by decide) rfl (Nat.le_of_ble_eq_true rfl) fstC ?_ sz
  intro p e s m below meth c ls C0 hw hl
  obtain ⟨hx, hb, hml, hown, hts, hr, hlk, hK, hN⟩ := C0
  have hl : lv_has ls 1 [(0, .ref (ad 2))] := hl
  generalize hQ : MQ below (QcI D ad 67 (cellsC ad cy s0 s1 s2 s3 s4 s5 s6 s7 s8 s9 s10) (r) s.heap.size) ([.ref (ad 2)] : List Value).toArray s 0 0 (Afr ad 67 s.heap.size) = Q
  obtain ⟨H, hH⟩ : ∃ H : Heap, H = s.heap := ⟨_, rfl⟩
  obtain ⟨locs, hlc⟩ : ∃ L : List Loc, L = [] := ⟨_, rfl⟩
  have hw : Wd D (cellsC ad cy s0 s1 s2 s3 s4 s5 s6 s7 s8 s9 s10) (Afr ad 67 s.heap.size) s.heap H locs := by rw [hH, hlc]; exact hw
  suffices h0 : W p l e (rmL 0) s m ([.ref (ad 2)] : List Value).toArray below meth c H locs 0 0 Q (F0 m 0 ls []) by rw [hH, hlc] at h0; exact h0
  clear hH hlc
  unfold f2_askerCount at h
  refine lv_aload_n hx hb dX2_askerCount_0 rfl (lv_at hl 0 rfl) ?_
  refine gX2_18 hx hb hts hown hK hw dX2_askerCount_1 ?_
  have h := Option.some.inj h
  subst h
  rw [← hQ]
  exact retI hx hb hr hlk hw rfl dX2_askerCount_4
theorem dX2_loanCount_0 : decode cX2_loanCount 0 = .ok (.aload_n 0, 1) := by decide +kernel
theorem dX2_loanCount_1 : decode cX2_loanCount 1 = .ok (.getfield 40, 3) := by decide +kernel
theorem dX2_loanCount_4 : decode cX2_loanCount 4 = .ok (.ireturn, 1) := by decide +kernel
def f2_loanCount (s2 : OS) : Option (Int32) := some ((s2.1 0 9))
set_option maxHeartbeats 4000000 in
set_option maxRecDepth 100000 in
theorem m2_loanCount (l : Launch) (D : va_G) (ad : Nat → Nat) (cy : Nat → ClassId) (sz : Nat) (s0 s1 s2 s3 s4 s5 s6 s7 s8 s9 s10 : OS) (r : Int32) (h : f2_loanCount s2 = some r) : Met l yX2_loanCount (wsOf yX2_loanCount cX2_loanCount 1 (some .int)) (rmL 0) (va_Pc ([.ref (ad 2)] : List Value) (PreG D cy (cellsC ad cy s0 s1 s2 s3 s4 s5 s6 s7 s8 s9 s10) sz (NC ad))) (QcI D ad 67 (cellsC ad cy s0 s1 s2 s3 s4 s5 s6 s7 s8 s9 s10) (r) sz) 0 0 (Afr ad 67 sz) := by
  refine metG (own := RX2) (by decide) rfl (Nat.le_of_ble_eq_true rfl) fstC ?_ sz
  intro p e s m below meth c ls C0 hw hl
  obtain ⟨hx, hb, hml, hown, hts, hr, hlk, hK, hN⟩ := C0
  have hl : lv_has ls 1 [(0, .ref (ad 2))] := hl
  generalize hQ : MQ below (QcI D ad 67 (cellsC ad cy s0 s1 s2 s3 s4 s5 s6 s7 s8 s9 s10) (r) s.heap.size) ([.ref (ad 2)] : List Value).toArray s 0 0 (Afr ad 67 s.heap.size) = Q
  obtain ⟨H, hH⟩ : ∃ H : Heap, H = s.heap := ⟨_, rfl⟩
  obtain ⟨locs, hlc⟩ : ∃ L : List Loc, L = [] := ⟨_, rfl⟩
  have hw : Wd D (cellsC ad cy s0 s1 s2 s3 s4 s5 s6 s7 s8 s9 s10) (Afr ad 67 s.heap.size) s.heap H locs := by rw [hH, hlc]; exact hw
  suffices h0 : W p l e (rmL 0) s m ([.ref (ad 2)] : List Value).toArray below meth c H locs 0 0 Q (F0 m 0 ls []) by rw [hH, hlc] at h0; exact h0
  clear hH hlc
  unfold f2_loanCount at h
  refine lv_aload_n hx hb dX2_loanCount_0 rfl (lv_at hl 0 rfl) ?_
  refine gX2_40 hx hb hts hown hK hw dX2_loanCount_1 ?_
  have h := Option.some.inj h
  subst h
  rw [← hQ]
  exact retI hx hb hr hlk hw rfl dX2_loanCount_4
theorem dX2_hasAsker_0 : decode cX2_hasAsker 0 = .ok (.iload_n 1, 1) := by decide +kernel
theorem dX2_hasAsker_1 : decode cX2_hasAsker 1 = .ok (.ifCond .lt 21, 3) := by decide +kernel
theorem dX2_hasAsker_4 : decode cX2_hasAsker 4 = .ok (.iload_n 1, 1) := by decide +kernel
theorem dX2_hasAsker_5 : decode cX2_hasAsker 5 = .ok (.aload_n 0, 1) := by decide +kernel
theorem dX2_hasAsker_6 : decode cX2_hasAsker 6 = .ok (.getfield 18, 3) := by decide +kernel
theorem dX2_hasAsker_9 : decode cX2_hasAsker 9 = .ok (.if_icmp .ge 13, 3) := by decide +kernel
theorem dX2_hasAsker_12 : decode cX2_hasAsker 12 = .ok (.iload_n 1, 1) := by decide +kernel
theorem dX2_hasAsker_13 : decode cX2_hasAsker 13 = .ok (.bipush 20, 2) := by decide +kernel
theorem dX2_hasAsker_15 : decode cX2_hasAsker 15 = .ok (.if_icmp .ge 7, 3) := by decide +kernel
theorem dX2_hasAsker_18 : decode cX2_hasAsker 18 = .ok (.iconst 1, 1) := by decide +kernel
theorem dX2_hasAsker_19 : decode cX2_hasAsker 19 = .ok (.goto 4, 3) := by decide +kernel
theorem dX2_hasAsker_22 : decode cX2_hasAsker 22 = .ok (.iconst 0, 1) := by decide +kernel
theorem dX2_hasAsker_23 : decode cX2_hasAsker 23 = .ok (.ireturn, 1) := by decide +kernel
def f2_hasAsker_j23 (k0_j23 : Int32) (s2_j23 : OS) : Option (Int32) := chk (isB k0_j23) (some k0_j23)
def f2_hasAsker_j22 (s2_j22 : OS) : Option (Int32) := f2_hasAsker_j23 ((0 : Int32)) s2_j22
def f2_hasAsker (a1 : Int32) (s2 : OS) : Option (Int32) := if a1 < 0 then (f2_hasAsker_j22 s2) else (if (s2.1 0 2) ≤ a1 then (f2_hasAsker_j22 s2) else (if (20 : Int32) ≤ a1 then (f2_hasAsker_j22 s2) else (f2_hasAsker_j23 ((1 : Int32)) s2)))
set_option maxHeartbeats 4000000 in
set_option maxRecDepth 100000 in
theorem m2_hasAsker (l : Launch) (D : va_G) (ad : Nat → Nat) (cy : Nat → ClassId) (sz : Nat) (s0 s1 s2 s3 s4 s5 s6 s7 s8 s9 s10 : OS) (a1 : Int32) (r : Int32) (h : f2_hasAsker a1 s2 = some r) : Met l yX2_hasAsker (wsOf yX2_hasAsker cX2_hasAsker 2 (some .boolean)) (rmL 0) (va_Pc ([.ref (ad 2), .int a1] : List Value) (PreG D cy (cellsC ad cy s0 s1 s2 s3 s4 s5 s6 s7 s8 s9 s10) sz (NC ad))) (QcI D ad 67 (cellsC ad cy s0 s1 s2 s3 s4 s5 s6 s7 s8 s9 s10) (r) sz) 0 0 (Afr ad 67 sz) := by
  refine metG (own := RX2) (by decide) rfl (Nat.le_of_ble_eq_true rfl) fstC ?_ sz
  intro p e s m below meth c ls C0 hw hl
  obtain ⟨hx, hb, hml, hown, hts, hr, hlk, hK, hN⟩ := C0
  have hl : lv_has ls 2 [(0, .ref (ad 2)), (1, .int a1)] := hl
  generalize hQ : MQ below (QcI D ad 67 (cellsC ad cy s0 s1 s2 s3 s4 s5 s6 s7 s8 s9 s10) (r) s.heap.size) ([.ref (ad 2), .int a1] : List Value).toArray s 0 0 (Afr ad 67 s.heap.size) = Q
  obtain ⟨H, hH⟩ : ∃ H : Heap, H = s.heap := ⟨_, rfl⟩
  obtain ⟨locs, hlc⟩ : ∃ L : List Loc, L = [] := ⟨_, rfl⟩
  have hw : Wd D (cellsC ad cy s0 s1 s2 s3 s4 s5 s6 s7 s8 s9 s10) (Afr ad 67 s.heap.size) s.heap H locs := by rw [hH, hlc]; exact hw
  suffices h0 : W p l e (rmL 0) s m ([.ref (ad 2), .int a1] : List Value).toArray below meth c H locs 0 0 Q (F0 m 0 ls []) by rw [hH, hlc] at h0; exact h0
  clear hH hlc
  unfold f2_hasAsker at h
  have hJ_23 : ∀ (k0_j23 : Int32) (H : Heap) (locs : List Loc) (ls : Array Slot), f2_hasAsker_j23 k0_j23 s2 = some r → Wd D (cellsC ad cy s0 s1 s2 s3 s4 s5 s6 s7 s8 s9 s10) (Afr ad 67 s.heap.size) s.heap H locs → lv_has ls 2 [] → W p l e (rmL 0) s m ([.ref (ad 2), .int a1] : List Value).toArray below meth c H locs 0 0 Q (F0 m 23 ls [.int k0_j23]) := by
    intro k0_j23 H locs ls h hw hl
    unfold f2_hasAsker_j23 at h
    obtain ⟨hz_23, h⟩ := chk_e h
    have h := Option.some.inj h
    subst h
    rw [← hQ]
    exact retI hx hb hr hlk hw (narB hz_23) dX2_hasAsker_23
  have hJ_22 : ∀  (H : Heap) (locs : List Loc) (ls : Array Slot), f2_hasAsker_j22 s2 = some r → Wd D (cellsC ad cy s0 s1 s2 s3 s4 s5 s6 s7 s8 s9 s10) (Afr ad 67 s.heap.size) s.heap H locs → lv_has ls 2 [] → W p l e (rmL 0) s m ([.ref (ad 2), .int a1] : List Value).toArray below meth c H locs 0 0 Q (F0 m 22 ls []) := by
    intro  H locs ls h hw hl
    unfold f2_hasAsker_j22 at h
    refine lv_iconst (v := 0) hx hb dX2_hasAsker_22 (by decide) ?_
    exact hJ_23 ((0 : Int32)) H locs ls h hw (lv_sub hl [] rfl)
  refine lv_iload_n hx hb dX2_hasAsker_0 rfl (lv_at hl 1 rfl) ?_
  refine lv_if_lt (tgt := 22) hx hb dX2_hasAsker_1 (by decide) (fun c_1 => ?_) (fun c_1 => ?_)
  · have h := ite_t c_1 h
    exact hJ_22  H locs ls h hw (lv_sub hl [] rfl)
  · have h := ite_f c_1 h
    refine lv_iload_n hx hb dX2_hasAsker_4 rfl (lv_at hl 1 rfl) ?_
    refine lv_aload_n hx hb dX2_hasAsker_5 rfl (lv_at hl 0 rfl) ?_
    refine gX2_18 hx hb hts hown hK hw dX2_hasAsker_6 ?_
    refine lv_icmp_ge (tgt := 22) hx hb dX2_hasAsker_9 (by decide) (fun c_9 => ?_) (fun c_9 => ?_)
    · have h := ite_t c_9 h
      exact hJ_22  H locs ls h hw (lv_sub hl [] rfl)
    · have h := ite_f c_9 h
      refine lv_iload_n hx hb dX2_hasAsker_12 rfl (lv_at hl 1 rfl) ?_
      refine lv_bipush (v := 20) hx hb dX2_hasAsker_13 (by decide) ?_
      refine lv_icmp_ge (tgt := 22) hx hb dX2_hasAsker_15 (by decide) (fun c_15 => ?_) (fun c_15 => ?_)
      · have h := ite_t c_15 h
        exact hJ_22  H locs ls h hw (lv_sub hl [] rfl)
      · have h := ite_f c_15 h
        refine lv_iconst (v := 1) hx hb dX2_hasAsker_18 (by decide) ?_
        refine lv_goto (tgt := 23) hx hb dX2_hasAsker_19 (by decide) ?_
        exact hJ_23 ((1 : Int32)) H locs ls h hw (lv_sub hl [] rfl)
theorem dX2_fieldOf_0 : decode cX2_fieldOf 0 = .ok (.aload_n 0, 1) := by decide +kernel
theorem dX2_fieldOf_1 : decode cX2_fieldOf 1 = .ok (.iload_n 1, 1) := by decide +kernel
theorem dX2_fieldOf_2 : decode cX2_fieldOf 2 = .ok (.invokevirtual 43, 3) := by decide +kernel
theorem dX2_fieldOf_5 : decode cX2_fieldOf 5 = .ok (.ifCond .eq 12, 3) := by decide +kernel
theorem dX2_fieldOf_8 : decode cX2_fieldOf 8 = .ok (.aload_n 0, 1) := by decide +kernel
theorem dX2_fieldOf_9 : decode cX2_fieldOf 9 = .ok (.getfield 15, 3) := by decide +kernel
theorem dX2_fieldOf_12 : decode cX2_fieldOf 12 = .ok (.iload_n 1, 1) := by decide +kernel
theorem dX2_fieldOf_13 : decode cX2_fieldOf 13 = .ok (.iaload, 1) := by decide +kernel
theorem dX2_fieldOf_14 : decode cX2_fieldOf 14 = .ok (.goto 4, 3) := by decide +kernel
theorem dX2_fieldOf_17 : decode cX2_fieldOf 17 = .ok (.iconst (-1), 1) := by decide +kernel
theorem dX2_fieldOf_18 : decode cX2_fieldOf 18 = .ok (.ireturn, 1) := by decide +kernel
def f2_fieldOf_j18 (k0_j18 : Int32) (s2_j18 : OS) : Option (Int32) := some k0_j18
def f2_fieldOf (a1 : Int32) (s2 : OS) : Option (Int32) := Option.bind (f2_hasAsker a1 s2) fun q_2 => if q_2 = 0 then (f2_fieldOf_j18 ((-1 : Int32)) s2) else (chk (inb a1 20) (nm (s2.1 2 a1.toNatClampNeg) fun y_13 => f2_fieldOf_j18 y_13 s2))
set_option maxHeartbeats 4000000 in
set_option maxRecDepth 100000 in
theorem m2_fieldOf (l : Launch) (D : va_G) (ad : Nat → Nat) (cy : Nat → ClassId) (sz : Nat) (s0 s1 s2 s3 s4 s5 s6 s7 s8 s9 s10 : OS) (a1 : Int32) (r : Int32) (h : f2_fieldOf a1 s2 = some r) : Met l yX2_fieldOf (wsOf yX2_fieldOf cX2_fieldOf 2 (some .int)) (rmL 1) (va_Pc ([.ref (ad 2), .int a1] : List Value) (PreG D cy (cellsC ad cy s0 s1 s2 s3 s4 s5 s6 s7 s8 s9 s10) sz (NC ad))) (QcI D ad 67 (cellsC ad cy s0 s1 s2 s3 s4 s5 s6 s7 s8 s9 s10) (r) sz) 0 0 (Afr ad 67 sz) := by
  refine metG (own := RX2) (by decide) rfl (Nat.le_of_ble_eq_true rfl) fstC ?_ sz
  intro p e s m below meth c ls C0 hw hl
  obtain ⟨hx, hb, hml, hown, hts, hr, hlk, hK, hN⟩ := C0
  have hl : lv_has ls 2 [(0, .ref (ad 2)), (1, .int a1)] := hl
  generalize hQ : MQ below (QcI D ad 67 (cellsC ad cy s0 s1 s2 s3 s4 s5 s6 s7 s8 s9 s10) (r) s.heap.size) ([.ref (ad 2), .int a1] : List Value).toArray s 0 0 (Afr ad 67 s.heap.size) = Q
  obtain ⟨H, hH⟩ : ∃ H : Heap, H = s.heap := ⟨_, rfl⟩
  obtain ⟨locs, hlc⟩ : ∃ L : List Loc, L = [] := ⟨_, rfl⟩
  have hw : Wd D (cellsC ad cy s0 s1 s2 s3 s4 s5 s6 s7 s8 s9 s10) (Afr ad 67 s.heap.size) s.heap H locs := by rw [hH, hlc]; exact hw
  suffices h0 : W p l e (rmL 1) s m ([.ref (ad 2), .int a1] : List Value).toArray below meth c H locs 0 0 Q (F0 m 0 ls []) by rw [hH, hlc] at h0; exact h0
  clear hH hlc
  unfold f2_fieldOf at h
  have hJ_18 : ∀ (k0_j18 : Int32) (H : Heap) (locs : List Loc) (ls : Array Slot), f2_fieldOf_j18 k0_j18 s2 = some r → Wd D (cellsC ad cy s0 s1 s2 s3 s4 s5 s6 s7 s8 s9 s10) (Afr ad 67 s.heap.size) s.heap H locs → lv_has ls 2 [] → W p l e (rmL 1) s m ([.ref (ad 2), .int a1] : List Value).toArray below meth c H locs 0 0 Q (F0 m 18 ls [.int k0_j18]) := by
    intro k0_j18 H locs ls h hw hl
    unfold f2_fieldOf_j18 at h
    have h := Option.some.inj h
    subst h
    rw [← hQ]
    exact retI hx hb hr hlk hw rfl dX2_fieldOf_18
  refine lv_aload_n hx hb dX2_fieldOf_0 rfl (lv_at hl 0 rfl) ?_
  refine lv_iload_n hx hb dX2_fieldOf_1 rfl (lv_at hl 1 rfl) ?_
  obtain ⟨q_2, h_2, h⟩ := bnd_e h
  have pg_2 := preG (av := [.ref (ad 2), .int a1]) hK hw.1 hw.2.1 (NC_keep hN hw.2.2) NC_blind
  refine endI (mc := 0) (ms := 0) (va_runV (As := [.int a1]) (rest := []) ⟨hx, hb, hml, hown, hts⟩ (m2_hasAsker l D ad cy H.size s0 s1 s2 s3 s4 s5 s6 s7 s8 s9 s10 a1 q_2 h_2) (wX2_43 0 hts ⟨Nat.le_of_ble_eq_true rfl, Nat.le_of_ble_eq_true rfl⟩) ⟨pg_2.1, va_recv hK hw.1 (ci := 2) (q0 := 2) rfl eC_2, pg_2.2⟩ rfl rfl hl.1 rfl (lv_room (Nat.le_of_ble_eq_true rfl)) dX2_fieldOf_2 ⟨Nat.le_refl _, Nat.le_refl _⟩) hw.2.2 (afr_in hw.2.2) (fun H locs hw => ?_)
  refine lv_if_eq (tgt := 17) hx hb dX2_fieldOf_5 (by decide) (fun c_5 => ?_) (fun c_5 => ?_)
  · have h := ite_t c_5 h
    refine lv_iconst (v := (-1)) hx hb dX2_fieldOf_17 (by decide) ?_
    exact hJ_18 ((-1 : Int32)) H locs ls h hw (lv_sub hl [] rfl)
  · have h := ite_f c_5 h
    refine lv_aload_n hx hb dX2_fieldOf_8 rfl (lv_at hl 0 rfl) ?_
    refine gX2_15 hx hb hts hown hK hw dX2_fieldOf_9 ?_
    refine lv_iload_n hx hb dX2_fieldOf_12 rfl (lv_at hl 1 rfl) ?_
    obtain ⟨hi_13, h⟩ := chk_e h
    obtain ⟨y_13, e_13, h⟩ := nam_e h
    refine lC26 hx hb hK hw hi_13 e_13 dX2_fieldOf_13 ?_
    refine lv_goto (tgt := 18) hx hb dX2_fieldOf_14 (by decide) ?_
    exact hJ_18 y_13 H locs ls h hw (lv_sub hl [] rfl)
theorem dX2_houseOf_0 : decode cX2_houseOf 0 = .ok (.aload_n 0, 1) := by decide +kernel
theorem dX2_houseOf_1 : decode cX2_houseOf 1 = .ok (.iload_n 1, 1) := by decide +kernel
theorem dX2_houseOf_2 : decode cX2_houseOf 2 = .ok (.invokevirtual 43, 3) := by decide +kernel
theorem dX2_houseOf_5 : decode cX2_houseOf 5 = .ok (.ifCond .eq 12, 3) := by decide +kernel
theorem dX2_houseOf_8 : decode cX2_houseOf 8 = .ok (.aload_n 0, 1) := by decide +kernel
theorem dX2_houseOf_9 : decode cX2_houseOf 9 = .ok (.getfield 11, 3) := by decide +kernel
theorem dX2_houseOf_12 : decode cX2_houseOf 12 = .ok (.iload_n 1, 1) := by decide +kernel
theorem dX2_houseOf_13 : decode cX2_houseOf 13 = .ok (.iaload, 1) := by decide +kernel
theorem dX2_houseOf_14 : decode cX2_houseOf 14 = .ok (.goto 4, 3) := by decide +kernel
theorem dX2_houseOf_17 : decode cX2_houseOf 17 = .ok (.iconst (-1), 1) := by decide +kernel
theorem dX2_houseOf_18 : decode cX2_houseOf 18 = .ok (.ireturn, 1) := by decide +kernel
def f2_houseOf_j18 (k0_j18 : Int32) (s2_j18 : OS) : Option (Int32) := some k0_j18
def f2_houseOf (a1 : Int32) (s2 : OS) : Option (Int32) := Option.bind (f2_hasAsker a1 s2) fun q_2 => if q_2 = 0 then (f2_houseOf_j18 ((-1 : Int32)) s2) else (chk (inb a1 20) (nm (s2.1 1 a1.toNatClampNeg) fun y_13 => f2_houseOf_j18 y_13 s2))
set_option maxHeartbeats 4000000 in
set_option maxRecDepth 100000 in
theorem m2_houseOf (l : Launch) (D : va_G) (ad : Nat → Nat) (cy : Nat → ClassId) (sz : Nat) (s0 s1 s2 s3 s4 s5 s6 s7 s8 s9 s10 : OS) (a1 : Int32) (r : Int32) (h : f2_houseOf a1 s2 = some r) : Met l yX2_houseOf (wsOf yX2_houseOf cX2_houseOf 2 (some .int)) (rmL 1) (va_Pc ([.ref (ad 2), .int a1] : List Value) (PreG D cy (cellsC ad cy s0 s1 s2 s3 s4 s5 s6 s7 s8 s9 s10) sz (NC ad))) (QcI D ad 67 (cellsC ad cy s0 s1 s2 s3 s4 s5 s6 s7 s8 s9 s10) (r) sz) 0 0 (Afr ad 67 sz) := by
  refine metG (own := RX2) (by decide) rfl (Nat.le_of_ble_eq_true rfl) fstC ?_ sz
  intro p e s m below meth c ls C0 hw hl
  obtain ⟨hx, hb, hml, hown, hts, hr, hlk, hK, hN⟩ := C0
  have hl : lv_has ls 2 [(0, .ref (ad 2)), (1, .int a1)] := hl
  generalize hQ : MQ below (QcI D ad 67 (cellsC ad cy s0 s1 s2 s3 s4 s5 s6 s7 s8 s9 s10) (r) s.heap.size) ([.ref (ad 2), .int a1] : List Value).toArray s 0 0 (Afr ad 67 s.heap.size) = Q
  obtain ⟨H, hH⟩ : ∃ H : Heap, H = s.heap := ⟨_, rfl⟩
  obtain ⟨locs, hlc⟩ : ∃ L : List Loc, L = [] := ⟨_, rfl⟩
  have hw : Wd D (cellsC ad cy s0 s1 s2 s3 s4 s5 s6 s7 s8 s9 s10) (Afr ad 67 s.heap.size) s.heap H locs := by rw [hH, hlc]; exact hw
  suffices h0 : W p l e (rmL 1) s m ([.ref (ad 2), .int a1] : List Value).toArray below meth c H locs 0 0 Q (F0 m 0 ls []) by rw [hH, hlc] at h0; exact h0
  clear hH hlc
  unfold f2_houseOf at h
  have hJ_18 : ∀ (k0_j18 : Int32) (H : Heap) (locs : List Loc) (ls : Array Slot), f2_houseOf_j18 k0_j18 s2 = some r → Wd D (cellsC ad cy s0 s1 s2 s3 s4 s5 s6 s7 s8 s9 s10) (Afr ad 67 s.heap.size) s.heap H locs → lv_has ls 2 [] → W p l e (rmL 1) s m ([.ref (ad 2), .int a1] : List Value).toArray below meth c H locs 0 0 Q (F0 m 18 ls [.int k0_j18]) := by
    intro k0_j18 H locs ls h hw hl
    unfold f2_houseOf_j18 at h
    have h := Option.some.inj h
    subst h
    rw [← hQ]
    exact retI hx hb hr hlk hw rfl dX2_houseOf_18
  refine lv_aload_n hx hb dX2_houseOf_0 rfl (lv_at hl 0 rfl) ?_
  refine lv_iload_n hx hb dX2_houseOf_1 rfl (lv_at hl 1 rfl) ?_
  obtain ⟨q_2, h_2, h⟩ := bnd_e h
  have pg_2 := preG (av := [.ref (ad 2), .int a1]) hK hw.1 hw.2.1 (NC_keep hN hw.2.2) NC_blind
  refine endI (mc := 0) (ms := 0) (va_runV (As := [.int a1]) (rest := []) ⟨hx, hb, hml, hown, hts⟩ (m2_hasAsker l D ad cy H.size s0 s1 s2 s3 s4 s5 s6 s7 s8 s9 s10 a1 q_2 h_2) (wX2_43 0 hts ⟨Nat.le_of_ble_eq_true rfl, Nat.le_of_ble_eq_true rfl⟩) ⟨pg_2.1, va_recv hK hw.1 (ci := 2) (q0 := 2) rfl eC_2, pg_2.2⟩ rfl rfl hl.1 rfl (lv_room (Nat.le_of_ble_eq_true rfl)) dX2_houseOf_2 ⟨Nat.le_refl _, Nat.le_refl _⟩) hw.2.2 (afr_in hw.2.2) (fun H locs hw => ?_)
  refine lv_if_eq (tgt := 17) hx hb dX2_houseOf_5 (by decide) (fun c_5 => ?_) (fun c_5 => ?_)
  · have h := ite_t c_5 h
    refine lv_iconst (v := (-1)) hx hb dX2_houseOf_17 (by decide) ?_
    exact hJ_18 ((-1 : Int32)) H locs ls h hw (lv_sub hl [] rfl)
  · have h := ite_f c_5 h
    refine lv_aload_n hx hb dX2_houseOf_8 rfl (lv_at hl 0 rfl) ?_
    refine gX2_11 hx hb hts hown hK hw dX2_houseOf_9 ?_
    refine lv_iload_n hx hb dX2_houseOf_12 rfl (lv_at hl 1 rfl) ?_
    obtain ⟨hi_13, h⟩ := chk_e h
    obtain ⟨y_13, e_13, h⟩ := nam_e h
    refine lC25 hx hb hK hw hi_13 e_13 dX2_houseOf_13 ?_
    refine lv_goto (tgt := 18) hx hb dX2_houseOf_14 (by decide) ?_
    exact hJ_18 y_13 H locs ls h hw (lv_sub hl [] rfl)
theorem dX2_loansOut_0 : decode cX2_loansOut 0 = .ok (.iconst 0, 1) := by decide +kernel
theorem dX2_loansOut_1 : decode cX2_loansOut 1 = .ok (.istore_n 2, 1) := by decide +kernel
theorem dX2_loansOut_2 : decode cX2_loansOut 2 = .ok (.iconst 0, 1) := by decide +kernel
theorem dX2_loansOut_3 : decode cX2_loansOut 3 = .ok (.istore_n 3, 1) := by decide +kernel
theorem dX2_loansOut_4 : decode cX2_loansOut 4 = .ok (.iload_n 3, 1) := by decide +kernel
theorem dX2_loansOut_5 : decode cX2_loansOut 5 = .ok (.aload_n 0, 1) := by decide +kernel
theorem dX2_loansOut_6 : decode cX2_loansOut 6 = .ok (.getfield 40, 3) := by decide +kernel
theorem dX2_loansOut_9 : decode cX2_loansOut 9 = .ok (.if_icmp .ge 30, 3) := by decide +kernel
theorem dX2_loansOut_12 : decode cX2_loansOut 12 = .ok (.aload_n 0, 1) := by decide +kernel
theorem dX2_loansOut_13 : decode cX2_loansOut 13 = .ok (.iload_n 3, 1) := by decide +kernel
theorem dX2_loansOut_14 : decode cX2_loansOut 14 = .ok (.invokevirtual 50, 3) := by decide +kernel
theorem dX2_loansOut_17 : decode cX2_loansOut 17 = .ok (.ifCond .eq 16, 3) := by decide +kernel
theorem dX2_loansOut_20 : decode cX2_loansOut 20 = .ok (.aload_n 0, 1) := by decide +kernel
theorem dX2_loansOut_21 : decode cX2_loansOut 21 = .ok (.getfield 25, 3) := by decide +kernel
theorem dX2_loansOut_24 : decode cX2_loansOut 24 = .ok (.iload_n 3, 1) := by decide +kernel
theorem dX2_loansOut_25 : decode cX2_loansOut 25 = .ok (.iaload, 1) := by decide +kernel
theorem dX2_loansOut_26 : decode cX2_loansOut 26 = .ok (.iload_n 1, 1) := by decide +kernel
theorem dX2_loansOut_27 : decode cX2_loansOut 27 = .ok (.if_icmp .ne 6, 3) := by decide +kernel
theorem dX2_loansOut_30 : decode cX2_loansOut 30 = .ok (.iinc 2 1, 3) := by decide +kernel
theorem dX2_loansOut_33 : decode cX2_loansOut 33 = .ok (.iinc 3 1, 3) := by decide +kernel
theorem dX2_loansOut_36 : decode cX2_loansOut 36 = .ok (.goto (-32), 3) := by decide +kernel
theorem dX2_loansOut_39 : decode cX2_loansOut 39 = .ok (.iload_n 2, 1) := by decide +kernel
theorem dX2_loansOut_40 : decode cX2_loansOut 40 = .ok (.ireturn, 1) := by decide +kernel
noncomputable def f2_loansOut_j33 (v1_j33 : Int32) (v2_j33 : Int32) (v3_j33 : Int32) (s2_j33 : OS) : Option ((Int32 × Int32) ⊕ (Int32)) := nm (v3_j33 + (1 : Int32)) fun n_33 => some (Sum.inl (v2_j33, n_33))
noncomputable def f2_loansOut_l4 (v1_i4 : Int32) (s2_i4 : OS) : Int32 × Int32 → Option ((Int32 × Int32) ⊕ (Int32)) := fun t_4 => if (s2_i4.1 0 9) ≤ t_4.2 then (Option.map Sum.inr (some t_4.1)) else (Option.bind (f2_isOut t_4.2 s2_i4) fun q_14 => if q_14 = 0 then (f2_loansOut_j33 v1_i4 t_4.1 t_4.2 s2_i4) else (chk (inb t_4.2 100) (nm (s2_i4.1 5 t_4.2.toNatClampNeg) fun y_25 => if y_25 = v1_i4 then (nm (t_4.1 + (1 : Int32)) fun n_30 => f2_loansOut_j33 v1_i4 n_30 t_4.2 s2_i4) else (f2_loansOut_j33 v1_i4 t_4.1 t_4.2 s2_i4))))
noncomputable def f2_loansOut (a1 : Int32) (s2 : OS) : Option (Int32) := loop (f2_loansOut_l4 a1 s2) ((0 : Int32), (0 : Int32))
set_option maxHeartbeats 4000000 in
set_option maxRecDepth 100000 in
theorem m2_loansOut (l : Launch) (D : va_G) (ad : Nat → Nat) (cy : Nat → ClassId) (sz : Nat) (s0 s1 s2 s3 s4 s5 s6 s7 s8 s9 s10 : OS) (a1 : Int32) (r : Int32) (h : f2_loansOut a1 s2 = some r) : Met l yX2_loansOut (wsOf yX2_loansOut cX2_loansOut 4 (some .int)) (rmL 2) (va_Pc ([.ref (ad 2), .int a1] : List Value) (PreG D cy (cellsC ad cy s0 s1 s2 s3 s4 s5 s6 s7 s8 s9 s10) sz (NC ad))) (QcI D ad 67 (cellsC ad cy s0 s1 s2 s3 s4 s5 s6 s7 s8 s9 s10) (r) sz) 0 0 (Afr ad 67 sz) := by
  refine metG (own := RX2) (by decide) rfl (Nat.le_of_ble_eq_true rfl) fstC ?_ sz
  intro p e s m below meth c ls C0 hw hl
  obtain ⟨hx, hb, hml, hown, hts, hr, hlk, hK, hN⟩ := C0
  have hl : lv_has ls 4 [(0, .ref (ad 2)), (1, .int a1)] := hl
  generalize hQ : MQ below (QcI D ad 67 (cellsC ad cy s0 s1 s2 s3 s4 s5 s6 s7 s8 s9 s10) (r) s.heap.size) ([.ref (ad 2), .int a1] : List Value).toArray s 0 0 (Afr ad 67 s.heap.size) = Q
  obtain ⟨H, hH⟩ : ∃ H : Heap, H = s.heap := ⟨_, rfl⟩
  obtain ⟨locs, hlc⟩ : ∃ L : List Loc, L = [] := ⟨_, rfl⟩
  have hw : Wd D (cellsC ad cy s0 s1 s2 s3 s4 s5 s6 s7 s8 s9 s10) (Afr ad 67 s.heap.size) s.heap H locs := by rw [hH, hlc]; exact hw
  suffices h0 : W p l e (rmL 2) s m ([.ref (ad 2), .int a1] : List Value).toArray below meth c H locs 0 0 Q (F0 m 0 ls []) by rw [hH, hlc] at h0; exact h0
  clear hH hlc
  unfold f2_loansOut at h
  refine lv_iconst (v := 0) hx hb dX2_loansOut_0 (by decide) ?_
  refine lv_istore_n (lv' := [(2, .int ((0 : Int32))), (0, .ref (ad 2)), (1, .int a1)]) hx hb dX2_loansOut_1 rfl hl (by decide) rfl (fun ls hl => ?_)
  refine lv_iconst (v := 0) hx hb dX2_loansOut_2 (by decide) ?_
  refine lv_istore_n (lv' := [(3, .int ((0 : Int32))), (2, .int ((0 : Int32))), (0, .ref (ad 2)), (1, .int a1)]) hx hb dX2_loansOut_3 rfl hl (by decide) rfl (fun ls hl => ?_)
  obtain ⟨n_4, hn_4⟩ := loop_e h
  have hL_4 : ∀ (n : Nat) (t_4 : Int32 × Int32) (H : Heap) (locs : List Loc) (ls : Array Slot), loopN (f2_loansOut_l4 a1 s2) n t_4 = some r → Wd D (cellsC ad cy s0 s1 s2 s3 s4 s5 s6 s7 s8 s9 s10) (Afr ad 67 s.heap.size) s.heap H locs → lv_has ls 4 [(2, .int t_4.1), (3, .int t_4.2), (1, .int a1), (0, .ref (ad 2))] → W p l e (rmL 2) s m ([.ref (ad 2), .int a1] : List Value).toArray below meth c H locs 0 0 Q (F0 m 4 ls []) := by
    intro n
    induction n with
    | zero => intro t_4 H locs ls hn; cases hn
    | succ n ih_4 =>
      intro t_4 H locs ls hn hw hl
      obtain ⟨x_4, h, hx_4⟩ := loopN_e hn
      unfold f2_loansOut_l4 at h
      have hJ_33 : ∀ (v2_j33 : Int32) (v3_j33 : Int32) (H : Heap) (locs : List Loc) (ls : Array Slot), f2_loansOut_j33 a1 v2_j33 v3_j33 s2 = some x_4 → Wd D (cellsC ad cy s0 s1 s2 s3 s4 s5 s6 s7 s8 s9 s10) (Afr ad 67 s.heap.size) s.heap H locs → lv_has ls 4 [(0, .ref (ad 2)), (1, .int a1), (2, .int v2_j33), (3, .int v3_j33)] → W p l e (rmL 2) s m ([.ref (ad 2), .int a1] : List Value).toArray below meth c H locs 0 0 Q (F0 m 33 ls []) := by
        intro v2_j33 v3_j33 H locs ls h hw hl
        unfold f2_loansOut_j33 at h
        obtain ⟨n_33, e_33, h⟩ := nam_e h
        refine lv_iinc (v := n_33) (lv' := [(3, .int n_33), (0, .ref (ad 2)), (1, .int a1), (2, .int v2_j33)]) hx hb dX2_loansOut_33 hl (k := 3) rfl (by rw [e_33]; rfl) (by decide) rfl (fun ls hl => ?_)
        refine lv_goto (tgt := 4) hx hb dX2_loansOut_36 (by decide) ?_
        exact ih_4 (v2_j33, n_33) H locs ls (nx_l hx_4 h) hw (lv_sub hl [3, 0, 2, 1] rfl)
      refine lv_iload_n hx hb dX2_loansOut_4 rfl (lv_at hl 1 rfl) ?_
      refine lv_aload_n hx hb dX2_loansOut_5 rfl (lv_at hl 3 rfl) ?_
      refine gX2_40 hx hb hts hown hK hw dX2_loansOut_6 ?_
      refine lv_icmp_ge (tgt := 39) hx hb dX2_loansOut_9 (by decide) (fun c_9 => ?_) (fun c_9 => ?_)
      · have h := ite_t c_9 h
        have h := nx_m hx_4 h
        refine lv_iload_n hx hb dX2_loansOut_39 rfl (lv_at hl 0 rfl) ?_
        have h := Option.some.inj h
        subst h
        rw [← hQ]
        exact retI hx hb hr hlk hw rfl dX2_loansOut_40
      · have h := ite_f c_9 h
        refine lv_aload_n hx hb dX2_loansOut_12 rfl (lv_at hl 3 rfl) ?_
        refine lv_iload_n hx hb dX2_loansOut_13 rfl (lv_at hl 1 rfl) ?_
        obtain ⟨q_14, h_14, h⟩ := bnd_e h
        have pg_14 := preG (av := [.ref (ad 2), .int t_4.2]) hK hw.1 hw.2.1 (NC_keep hN hw.2.2) NC_blind
        refine endI (mc := 0) (ms := 0) (va_runV (As := [.int t_4.2]) (rest := []) ⟨hx, hb, hml, hown, hts⟩ (m2_isOut l D ad cy H.size s0 s1 s2 s3 s4 s5 s6 s7 s8 s9 s10 t_4.2 q_14 h_14) (wX2_50 1 hts ⟨Nat.le_of_ble_eq_true rfl, Nat.le_of_ble_eq_true rfl⟩) ⟨pg_14.1, va_recv hK hw.1 (ci := 2) (q0 := 2) rfl eC_2, pg_14.2⟩ rfl rfl hl.1 rfl (lv_room (Nat.le_of_ble_eq_true rfl)) dX2_loansOut_14 ⟨Nat.le_refl _, Nat.le_refl _⟩) hw.2.2 (afr_in hw.2.2) (fun H locs hw => ?_)
        refine lv_if_eq (tgt := 33) hx hb dX2_loansOut_17 (by decide) (fun c_17 => ?_) (fun c_17 => ?_)
        · have h := ite_t c_17 h
          exact hJ_33 t_4.1 t_4.2 H locs ls h hw (lv_sub hl [3, 2, 0, 1] rfl)
        · have h := ite_f c_17 h
          refine lv_aload_n hx hb dX2_loansOut_20 rfl (lv_at hl 3 rfl) ?_
          refine gX2_25 hx hb hts hown hK hw dX2_loansOut_21 ?_
          refine lv_iload_n hx hb dX2_loansOut_24 rfl (lv_at hl 1 rfl) ?_
          obtain ⟨hi_25, h⟩ := chk_e h
          obtain ⟨y_25, e_25, h⟩ := nam_e h
          refine lC28 hx hb hK hw hi_25 e_25 dX2_loansOut_25 ?_
          refine lv_iload_n hx hb dX2_loansOut_26 rfl (lv_at hl 2 rfl) ?_
          refine lv_icmp_ne (tgt := 33) hx hb dX2_loansOut_27 (by decide) (fun c_27 => ?_) (fun c_27 => ?_)
          · have h := ite_f c_27 h
            exact hJ_33 t_4.1 t_4.2 H locs ls h hw (lv_sub hl [3, 2, 0, 1] rfl)
          · have h := ite_t c_27 h
            obtain ⟨n_30, e_30, h⟩ := nam_e h
            refine lv_iinc (v := n_30) (lv' := [(2, .int n_30), (3, .int t_4.2), (1, .int a1), (0, .ref (ad 2))]) hx hb dX2_loansOut_30 hl (k := 0) rfl (by rw [e_30]; rfl) (by decide) rfl (fun ls hl => ?_)
            exact hJ_33 n_30 t_4.2 H locs ls h hw (lv_sub hl [3, 2, 0, 1] rfl)
  exact hL_4 n_4 ((0 : Int32), (0 : Int32)) H locs ls hn_4 hw (lv_sub hl [1, 0, 3, 2] rfl)
theorem dX2_missingBy_0 : decode cX2_missingBy 0 = .ok (.lconst 0, 1) := by decide +kernel
theorem dX2_missingBy_1 : decode cX2_missingBy 1 = .ok (.lstore_n 2, 1) := by decide +kernel
theorem dX2_missingBy_2 : decode cX2_missingBy 2 = .ok (.iconst 0, 1) := by decide +kernel
theorem dX2_missingBy_3 : decode cX2_missingBy 3 = .ok (.istore 4, 2) := by decide +kernel
theorem dX2_missingBy_5 : decode cX2_missingBy 5 = .ok (.iload 4, 2) := by decide +kernel
theorem dX2_missingBy_7 : decode cX2_missingBy 7 = .ok (.aload_n 0, 1) := by decide +kernel
theorem dX2_missingBy_8 : decode cX2_missingBy 8 = .ok (.getfield 40, 3) := by decide +kernel
theorem dX2_missingBy_11 : decode cX2_missingBy 11 = .ok (.if_icmp .ge 40, 3) := by decide +kernel
theorem dX2_missingBy_14 : decode cX2_missingBy 14 = .ok (.aload_n 0, 1) := by decide +kernel
theorem dX2_missingBy_15 : decode cX2_missingBy 15 = .ok (.iload 4, 2) := by decide +kernel
theorem dX2_missingBy_17 : decode cX2_missingBy 17 = .ok (.invokevirtual 47, 3) := by decide +kernel
theorem dX2_missingBy_20 : decode cX2_missingBy 20 = .ok (.ifCond .eq 25, 3) := by decide +kernel
theorem dX2_missingBy_23 : decode cX2_missingBy 23 = .ok (.aload_n 0, 1) := by decide +kernel
theorem dX2_missingBy_24 : decode cX2_missingBy 24 = .ok (.getfield 25, 3) := by decide +kernel
theorem dX2_missingBy_27 : decode cX2_missingBy 27 = .ok (.iload 4, 2) := by decide +kernel
theorem dX2_missingBy_29 : decode cX2_missingBy 29 = .ok (.iaload, 1) := by decide +kernel
theorem dX2_missingBy_30 : decode cX2_missingBy 30 = .ok (.iload_n 1, 1) := by decide +kernel
theorem dX2_missingBy_31 : decode cX2_missingBy 31 = .ok (.if_icmp .ne 14, 3) := by decide +kernel
theorem dX2_missingBy_34 : decode cX2_missingBy 34 = .ok (.lload_n 2, 1) := by decide +kernel
theorem dX2_missingBy_35 : decode cX2_missingBy 35 = .ok (.aload_n 0, 1) := by decide +kernel
theorem dX2_missingBy_36 : decode cX2_missingBy 36 = .ok (.getfield 37, 3) := by decide +kernel
theorem dX2_missingBy_39 : decode cX2_missingBy 39 = .ok (.iload 4, 2) := by decide +kernel
theorem dX2_missingBy_41 : decode cX2_missingBy 41 = .ok (.iaload, 1) := by decide +kernel
theorem dX2_missingBy_42 : decode cX2_missingBy 42 = .ok (.i2l, 1) := by decide +kernel
theorem dX2_missingBy_43 : decode cX2_missingBy 43 = .ok (.ladd, 1) := by decide +kernel
theorem dX2_missingBy_44 : decode cX2_missingBy 44 = .ok (.lstore_n 2, 1) := by decide +kernel
theorem dX2_missingBy_45 : decode cX2_missingBy 45 = .ok (.iinc 4 1, 3) := by decide +kernel
theorem dX2_missingBy_48 : decode cX2_missingBy 48 = .ok (.goto (-43), 3) := by decide +kernel
theorem dX2_missingBy_51 : decode cX2_missingBy 51 = .ok (.lload_n 2, 1) := by decide +kernel
theorem dX2_missingBy_52 : decode cX2_missingBy 52 = .ok (.lreturn, 1) := by decide +kernel
noncomputable def f2_missingBy_j45 (v1_j45 : Int32) (v2_j45 : Int64) (v4_j45 : Int32) (s2_j45 : OS) : Option ((Int64 × Int32) ⊕ (Int64)) := nm (v4_j45 + (1 : Int32)) fun n_45 => some (Sum.inl (v2_j45, n_45))
noncomputable def f2_missingBy_l5 (v1_i5 : Int32) (s2_i5 : OS) : Int64 × Int32 → Option ((Int64 × Int32) ⊕ (Int64)) := fun t_5 => if (s2_i5.1 0 9) ≤ t_5.2 then (Option.map Sum.inr (some t_5.1)) else (Option.bind (f2_hasLoan t_5.2 s2_i5) fun q_17 => if q_17 = 0 then (f2_missingBy_j45 v1_i5 t_5.1 t_5.2 s2_i5) else (chk (inb t_5.2 100) (nm (s2_i5.1 5 t_5.2.toNatClampNeg) fun y_29 => if y_29 = v1_i5 then (chk (inb t_5.2 100) (nm (s2_i5.1 9 t_5.2.toNatClampNeg) fun y_41 => nm ((t_5.1 + (y_41).toInt64)) fun n_44 => f2_missingBy_j45 v1_i5 n_44 t_5.2 s2_i5)) else (f2_missingBy_j45 v1_i5 t_5.1 t_5.2 s2_i5))))
noncomputable def f2_missingBy (a1 : Int32) (s2 : OS) : Option (Int64) := loop (f2_missingBy_l5 a1 s2) ((0 : Int64), (0 : Int32))
set_option maxHeartbeats 4000000 in
set_option maxRecDepth 100000 in
theorem m2_missingBy (l : Launch) (D : va_G) (ad : Nat → Nat) (cy : Nat → ClassId) (sz : Nat) (s0 s1 s2 s3 s4 s5 s6 s7 s8 s9 s10 : OS) (a1 : Int32) (r : Int64) (h : f2_missingBy a1 s2 = some r) : Met l yX2_missingBy (wsOf yX2_missingBy cX2_missingBy 5 (some .long)) (rmL 1) (va_Pc ([.ref (ad 2), .int a1] : List Value) (PreG D cy (cellsC ad cy s0 s1 s2 s3 s4 s5 s6 s7 s8 s9 s10) sz (NC ad))) (QcL D ad 67 (cellsC ad cy s0 s1 s2 s3 s4 s5 s6 s7 s8 s9 s10) (r) sz) 0 0 (Afr ad 67 sz) := by
  refine metG (own := RX2) (by decide) rfl (Nat.le_of_ble_eq_true rfl) fstC ?_ sz
  intro p e s m below meth c ls C0 hw hl
  obtain ⟨hx, hb, hml, hown, hts, hr, hlk, hK, hN⟩ := C0
  have hl : lv_has ls 5 [(0, .ref (ad 2)), (1, .int a1)] := hl
  generalize hQ : MQ below (QcL D ad 67 (cellsC ad cy s0 s1 s2 s3 s4 s5 s6 s7 s8 s9 s10) (r) s.heap.size) ([.ref (ad 2), .int a1] : List Value).toArray s 0 0 (Afr ad 67 s.heap.size) = Q
  obtain ⟨H, hH⟩ : ∃ H : Heap, H = s.heap := ⟨_, rfl⟩
  obtain ⟨locs, hlc⟩ : ∃ L : List Loc, L = [] := ⟨_, rfl⟩
  have hw : Wd D (cellsC ad cy s0 s1 s2 s3 s4 s5 s6 s7 s8 s9 s10) (Afr ad 67 s.heap.size) s.heap H locs := by rw [hH, hlc]; exact hw
  suffices h0 : W p l e (rmL 1) s m ([.ref (ad 2), .int a1] : List Value).toArray below meth c H locs 0 0 Q (F0 m 0 ls []) by rw [hH, hlc] at h0; exact h0
  clear hH hlc
  unfold f2_missingBy at h
  refine lv_lconst (v := 0) hx hb dX2_missingBy_0 (by decide) ?_
  refine lv_lstore_n (lv' := [(2, .long ((0 : Int64))), (0, .ref (ad 2)), (1, .int a1)]) hx hb dX2_missingBy_1 rfl hl (by decide) rfl (fun ls hl => ?_)
  refine lv_iconst (v := 0) hx hb dX2_missingBy_2 (by decide) ?_
  refine lv_istore (lv' := [(4, .int ((0 : Int32))), (2, .long ((0 : Int64))), (0, .ref (ad 2)), (1, .int a1)]) hx hb dX2_missingBy_3 hl (by decide) rfl (fun ls hl => ?_)
  obtain ⟨n_5, hn_5⟩ := loop_e h
  have hL_5 : ∀ (n : Nat) (t_5 : Int64 × Int32) (H : Heap) (locs : List Loc) (ls : Array Slot), loopN (f2_missingBy_l5 a1 s2) n t_5 = some r → Wd D (cellsC ad cy s0 s1 s2 s3 s4 s5 s6 s7 s8 s9 s10) (Afr ad 67 s.heap.size) s.heap H locs → lv_has ls 5 [(2, .long t_5.1), (4, .int t_5.2), (1, .int a1), (0, .ref (ad 2))] → W p l e (rmL 1) s m ([.ref (ad 2), .int a1] : List Value).toArray below meth c H locs 0 0 Q (F0 m 5 ls []) := by
    intro n
    induction n with
    | zero => intro t_5 H locs ls hn; cases hn
    | succ n ih_5 =>
      intro t_5 H locs ls hn hw hl
      obtain ⟨x_5, h, hx_5⟩ := loopN_e hn
      unfold f2_missingBy_l5 at h
      have hJ_45 : ∀ (v2_j45 : Int64) (v4_j45 : Int32) (H : Heap) (locs : List Loc) (ls : Array Slot), f2_missingBy_j45 a1 v2_j45 v4_j45 s2 = some x_5 → Wd D (cellsC ad cy s0 s1 s2 s3 s4 s5 s6 s7 s8 s9 s10) (Afr ad 67 s.heap.size) s.heap H locs → lv_has ls 5 [(0, .ref (ad 2)), (1, .int a1), (2, .long v2_j45), (4, .int v4_j45)] → W p l e (rmL 1) s m ([.ref (ad 2), .int a1] : List Value).toArray below meth c H locs 0 0 Q (F0 m 45 ls []) := by
        intro v2_j45 v4_j45 H locs ls h hw hl
        unfold f2_missingBy_j45 at h
        obtain ⟨n_45, e_45, h⟩ := nam_e h
        refine lv_iinc (v := n_45) (lv' := [(4, .int n_45), (0, .ref (ad 2)), (1, .int a1), (2, .long v2_j45)]) hx hb dX2_missingBy_45 hl (k := 3) rfl (by rw [e_45]; rfl) (by decide) rfl (fun ls hl => ?_)
        refine lv_goto (tgt := 5) hx hb dX2_missingBy_48 (by decide) ?_
        exact ih_5 (v2_j45, n_45) H locs ls (nx_l hx_5 h) hw (lv_sub hl [3, 0, 2, 1] rfl)
      refine lv_iload hx hb dX2_missingBy_5 (lv_at hl 1 rfl) ?_
      refine lv_aload_n hx hb dX2_missingBy_7 rfl (lv_at hl 3 rfl) ?_
      refine gX2_40 hx hb hts hown hK hw dX2_missingBy_8 ?_
      refine lv_icmp_ge (tgt := 51) hx hb dX2_missingBy_11 (by decide) (fun c_11 => ?_) (fun c_11 => ?_)
      · have h := ite_t c_11 h
        have h := nx_m hx_5 h
        refine lv_lload_n hx hb dX2_missingBy_51 rfl (lv_at hl 0 rfl) ?_
        have h := Option.some.inj h
        subst h
        rw [← hQ]
        exact retL hx hb hr hlk hw dX2_missingBy_52
      · have h := ite_f c_11 h
        refine lv_aload_n hx hb dX2_missingBy_14 rfl (lv_at hl 3 rfl) ?_
        refine lv_iload hx hb dX2_missingBy_15 (lv_at hl 1 rfl) ?_
        obtain ⟨q_17, h_17, h⟩ := bnd_e h
        have pg_17 := preG (av := [.ref (ad 2), .int t_5.2]) hK hw.1 hw.2.1 (NC_keep hN hw.2.2) NC_blind
        refine endI (mc := 0) (ms := 0) (va_runV (As := [.int t_5.2]) (rest := []) ⟨hx, hb, hml, hown, hts⟩ (m2_hasLoan l D ad cy H.size s0 s1 s2 s3 s4 s5 s6 s7 s8 s9 s10 t_5.2 q_17 h_17) (wX2_47 0 hts ⟨Nat.le_of_ble_eq_true rfl, Nat.le_of_ble_eq_true rfl⟩) ⟨pg_17.1, va_recv hK hw.1 (ci := 2) (q0 := 2) rfl eC_2, pg_17.2⟩ rfl rfl hl.1 rfl (lv_room (Nat.le_of_ble_eq_true rfl)) dX2_missingBy_17 ⟨Nat.le_refl _, Nat.le_refl _⟩) hw.2.2 (afr_in hw.2.2) (fun H locs hw => ?_)
        refine lv_if_eq (tgt := 45) hx hb dX2_missingBy_20 (by decide) (fun c_20 => ?_) (fun c_20 => ?_)
        · have h := ite_t c_20 h
          exact hJ_45 t_5.1 t_5.2 H locs ls h hw (lv_sub hl [3, 2, 0, 1] rfl)
        · have h := ite_f c_20 h
          refine lv_aload_n hx hb dX2_missingBy_23 rfl (lv_at hl 3 rfl) ?_
          refine gX2_25 hx hb hts hown hK hw dX2_missingBy_24 ?_
          refine lv_iload hx hb dX2_missingBy_27 (lv_at hl 1 rfl) ?_
          obtain ⟨hi_29, h⟩ := chk_e h
          obtain ⟨y_29, e_29, h⟩ := nam_e h
          refine lC28 hx hb hK hw hi_29 e_29 dX2_missingBy_29 ?_
          refine lv_iload_n hx hb dX2_missingBy_30 rfl (lv_at hl 2 rfl) ?_
          refine lv_icmp_ne (tgt := 45) hx hb dX2_missingBy_31 (by decide) (fun c_31 => ?_) (fun c_31 => ?_)
          · have h := ite_f c_31 h
            exact hJ_45 t_5.1 t_5.2 H locs ls h hw (lv_sub hl [3, 2, 0, 1] rfl)
          · have h := ite_t c_31 h
            refine lv_lload_n hx hb dX2_missingBy_34 rfl (lv_at hl 0 rfl) ?_
            refine lv_aload_n hx hb dX2_missingBy_35 rfl (lv_at hl 3 rfl) ?_
            refine gX2_37 hx hb hts hown hK hw dX2_missingBy_36 ?_
            refine lv_iload hx hb dX2_missingBy_39 (lv_at hl 1 rfl) ?_
            obtain ⟨hi_41, h⟩ := chk_e h
            obtain ⟨y_41, e_41, h⟩ := nam_e h
            refine lC32 hx hb hK hw hi_41 e_41 dX2_missingBy_41 ?_
            refine lv_i2l hx hb dX2_missingBy_42 rfl ?_
            refine lv_ladd hx hb dX2_missingBy_43 ?_
            obtain ⟨n_44, e_44, h⟩ := nam_e h
            refine topL e_44 ?_
            refine lv_lstore_n (lv' := [(2, .long n_44), (4, .int t_5.2), (1, .int a1), (0, .ref (ad 2))]) hx hb dX2_missingBy_44 rfl hl (by decide) rfl (fun ls hl => ?_)
            exact hJ_45 n_44 t_5.2 H locs ls h hw (lv_sub hl [3, 2, 0, 1] rfl)
  exact hL_5 n_5 ((0 : Int64), (0 : Int32)) H locs ls hn_5 hw (lv_sub hl [1, 0, 3, 2] rfl)
theorem dX2_begin_0 : decode cX2_begin 0 = .ok (.aload_n 0, 1) := by decide +kernel
theorem dX2_begin_1 : decode cX2_begin 1 = .ok (.getfield 40, 3) := by decide +kernel
theorem dX2_begin_4 : decode cX2_begin 4 = .ok (.istore 5, 2) := by decide +kernel
theorem dX2_begin_6 : decode cX2_begin 6 = .ok (.iload 5, 2) := by decide +kernel
theorem dX2_begin_8 : decode cX2_begin 8 = .ok (.ifCond .lt 10, 3) := by decide +kernel
theorem dX2_begin_11 : decode cX2_begin 11 = .ok (.iload 5, 2) := by decide +kernel
theorem dX2_begin_13 : decode cX2_begin 13 = .ok (.bipush 100, 2) := by decide +kernel
theorem dX2_begin_15 : decode cX2_begin 15 = .ok (.if_icmp .lt 5, 3) := by decide +kernel
theorem dX2_begin_18 : decode cX2_begin 18 = .ok (.iconst (-1), 1) := by decide +kernel
theorem dX2_begin_19 : decode cX2_begin 19 = .ok (.ireturn, 1) := by decide +kernel
theorem dX2_begin_20 : decode cX2_begin 20 = .ok (.aload_n 0, 1) := by decide +kernel
theorem dX2_begin_21 : decode cX2_begin 21 = .ok (.getfield 22, 3) := by decide +kernel
theorem dX2_begin_24 : decode cX2_begin 24 = .ok (.iload 5, 2) := by decide +kernel
theorem dX2_begin_26 : decode cX2_begin 26 = .ok (.iload_n 1, 1) := by decide +kernel
theorem dX2_begin_27 : decode cX2_begin 27 = .ok (.iastore, 1) := by decide +kernel
theorem dX2_begin_28 : decode cX2_begin 28 = .ok (.aload_n 0, 1) := by decide +kernel
theorem dX2_begin_29 : decode cX2_begin 29 = .ok (.getfield 25, 3) := by decide +kernel
theorem dX2_begin_32 : decode cX2_begin 32 = .ok (.iload 5, 2) := by decide +kernel
theorem dX2_begin_34 : decode cX2_begin 34 = .ok (.iload_n 2, 1) := by decide +kernel
theorem dX2_begin_35 : decode cX2_begin 35 = .ok (.iastore, 1) := by decide +kernel
theorem dX2_begin_36 : decode cX2_begin 36 = .ok (.aload_n 0, 1) := by decide +kernel
theorem dX2_begin_37 : decode cX2_begin 37 = .ok (.getfield 28, 3) := by decide +kernel
theorem dX2_begin_40 : decode cX2_begin 40 = .ok (.iload 5, 2) := by decide +kernel
theorem dX2_begin_42 : decode cX2_begin 42 = .ok (.iload_n 3, 1) := by decide +kernel
theorem dX2_begin_43 : decode cX2_begin 43 = .ok (.iastore, 1) := by decide +kernel
theorem dX2_begin_44 : decode cX2_begin 44 = .ok (.aload_n 0, 1) := by decide +kernel
theorem dX2_begin_45 : decode cX2_begin 45 = .ok (.getfield 31, 3) := by decide +kernel
theorem dX2_begin_48 : decode cX2_begin 48 = .ok (.iload 5, 2) := by decide +kernel
theorem dX2_begin_50 : decode cX2_begin 50 = .ok (.iload 4, 2) := by decide +kernel
theorem dX2_begin_52 : decode cX2_begin 52 = .ok (.iastore, 1) := by decide +kernel
theorem dX2_begin_53 : decode cX2_begin 53 = .ok (.aload_n 0, 1) := by decide +kernel
theorem dX2_begin_54 : decode cX2_begin 54 = .ok (.getfield 34, 3) := by decide +kernel
theorem dX2_begin_57 : decode cX2_begin 57 = .ok (.iload 5, 2) := by decide +kernel
theorem dX2_begin_59 : decode cX2_begin 59 = .ok (.iconst (-1), 1) := by decide +kernel
theorem dX2_begin_60 : decode cX2_begin 60 = .ok (.iastore, 1) := by decide +kernel
theorem dX2_begin_61 : decode cX2_begin 61 = .ok (.aload_n 0, 1) := by decide +kernel
theorem dX2_begin_62 : decode cX2_begin 62 = .ok (.getfield 37, 3) := by decide +kernel
theorem dX2_begin_65 : decode cX2_begin 65 = .ok (.iload 5, 2) := by decide +kernel
theorem dX2_begin_67 : decode cX2_begin 67 = .ok (.iconst 0, 1) := by decide +kernel
theorem dX2_begin_68 : decode cX2_begin 68 = .ok (.iastore, 1) := by decide +kernel
theorem dX2_begin_69 : decode cX2_begin 69 = .ok (.aload_n 0, 1) := by decide +kernel
theorem dX2_begin_70 : decode cX2_begin 70 = .ok (.dup, 1) := by decide +kernel
theorem dX2_begin_71 : decode cX2_begin 71 = .ok (.getfield 40, 3) := by decide +kernel
theorem dX2_begin_74 : decode cX2_begin 74 = .ok (.iconst 1, 1) := by decide +kernel
theorem dX2_begin_75 : decode cX2_begin 75 = .ok (.iadd, 1) := by decide +kernel
theorem dX2_begin_76 : decode cX2_begin 76 = .ok (.putfield 40, 3) := by decide +kernel
theorem dX2_begin_79 : decode cX2_begin 79 = .ok (.iload 5, 2) := by decide +kernel
theorem dX2_begin_81 : decode cX2_begin 81 = .ok (.ireturn, 1) := by decide +kernel
def f2_begin_j18 (s2_j18 : OS) : Option (Int32 × OS) := some ((-1 : Int32), s2_j18)
def f2_begin (a1 : Int32) (a2 : Int32) (a3 : Int32) (a4 : Int32) (s2 : OS) : Option (Int32 × OS) := nm ((s2.1 0 9)) fun n_4 => if n_4 < 0 then (f2_begin_j18 s2) else (if n_4 < (100 : Int32) then (chk (inb n_4 100) (nm (wI s2 4 n_4.toNatClampNeg a1) fun s2_27 => chk (inb n_4 100) (nm (wI s2_27 5 n_4.toNatClampNeg a2) fun s2_35 => chk (inb n_4 100) (nm (wI s2_35 6 n_4.toNatClampNeg a3) fun s2_43 => chk (inb n_4 100) (nm (wI s2_43 7 n_4.toNatClampNeg a4) fun s2_52 => chk (inb n_4 100) (nm (wI s2_52 8 n_4.toNatClampNeg ((-1 : Int32))) fun s2_60 => chk (inb n_4 100) (nm (wI s2_60 9 n_4.toNatClampNeg ((0 : Int32))) fun s2_68 => nm (wI s2_68 0 9 (((s2_68.1 0 9) + (1 : Int32)))) fun s2_76 => some (n_4, s2_76)))))))) else (f2_begin_j18 s2))
set_option maxHeartbeats 4000000 in
set_option maxRecDepth 100000 in
theorem m2_begin (l : Launch) (D : va_G) (ad : Nat → Nat) (cy : Nat → ClassId) (sz : Nat) (s0 s1 s2 s3 s4 s5 s6 s7 s8 s9 s10 : OS) (a1 : Int32) (a2 : Int32) (a3 : Int32) (a4 : Int32) (r : Int32 × OS) (h : f2_begin a1 a2 a3 a4 s2 = some r) : Met l yX2_begin (wsOf yX2_begin cX2_begin 6 (some .int)) (rmL 0) (va_Pc ([.ref (ad 2), .int a1, .int a2, .int a3, .int a4] : List Value) (PreG D cy (cellsC ad cy s0 s1 s2 s3 s4 s5 s6 s7 s8 s9 s10) sz (NC ad))) (QcI D ad 67 (cellsC ad cy s0 s1 r.2 s3 s4 s5 s6 s7 s8 s9 s10) (r.1) sz) 0 0 (Afr ad 67 sz) := by
  refine metG (own := RX2) (by decide) rfl (Nat.le_of_ble_eq_true rfl) fstC ?_ sz
  intro p e s m below meth c ls C0 hw hl
  obtain ⟨hx, hb, hml, hown, hts, hr, hlk, hK, hN⟩ := C0
  have hl : lv_has ls 6 [(0, .ref (ad 2)), (1, .int a1), (2, .int a2), (3, .int a3), (4, .int a4)] := hl
  generalize hQ : MQ below (QcI D ad 67 (cellsC ad cy s0 s1 r.2 s3 s4 s5 s6 s7 s8 s9 s10) (r.1) s.heap.size) ([.ref (ad 2), .int a1, .int a2, .int a3, .int a4] : List Value).toArray s 0 0 (Afr ad 67 s.heap.size) = Q
  obtain ⟨H, hH⟩ : ∃ H : Heap, H = s.heap := ⟨_, rfl⟩
  obtain ⟨locs, hlc⟩ : ∃ L : List Loc, L = [] := ⟨_, rfl⟩
  have hw : Wd D (cellsC ad cy s0 s1 s2 s3 s4 s5 s6 s7 s8 s9 s10) (Afr ad 67 s.heap.size) s.heap H locs := by rw [hH, hlc]; exact hw
  suffices h0 : W p l e (rmL 0) s m ([.ref (ad 2), .int a1, .int a2, .int a3, .int a4] : List Value).toArray below meth c H locs 0 0 Q (F0 m 0 ls []) by rw [hH, hlc] at h0; exact h0
  clear hH hlc
  unfold f2_begin at h
  have hJ_18 : ∀ (s2_j18 : OS) (H : Heap) (locs : List Loc) (ls : Array Slot), f2_begin_j18 s2_j18 = some r → Wd D (cellsC ad cy s0 s1 s2_j18 s3 s4 s5 s6 s7 s8 s9 s10) (Afr ad 67 s.heap.size) s.heap H locs → lv_has ls 6 [] → W p l e (rmL 0) s m ([.ref (ad 2), .int a1, .int a2, .int a3, .int a4] : List Value).toArray below meth c H locs 0 0 Q (F0 m 18 ls []) := by
    intro s2_j18 H locs ls h hw hl
    unfold f2_begin_j18 at h
    refine lv_iconst (v := (-1)) hx hb dX2_begin_18 (by decide) ?_
    have h := Option.some.inj h
    subst h
    rw [← hQ]
    exact retI hx hb hr hlk hw rfl dX2_begin_19
  refine lv_aload_n hx hb dX2_begin_0 rfl (lv_at hl 0 rfl) ?_
  refine gX2_40 hx hb hts hown hK hw dX2_begin_1 ?_
  obtain ⟨n_4, e_4, h⟩ := nam_e h
  refine topI e_4 ?_
  refine lv_istore (lv' := [(5, .int n_4), (0, .ref (ad 2)), (1, .int a1), (2, .int a2), (3, .int a3), (4, .int a4)]) hx hb dX2_begin_4 hl (by decide) rfl (fun ls hl => ?_)
  refine lv_iload hx hb dX2_begin_6 (lv_at hl 0 rfl) ?_
  refine lv_if_lt (tgt := 18) hx hb dX2_begin_8 (by decide) (fun c_8 => ?_) (fun c_8 => ?_)
  · have h := ite_t c_8 h
    exact hJ_18 s2 H locs ls h hw (lv_sub hl [] rfl)
  · have h := ite_f c_8 h
    refine lv_iload hx hb dX2_begin_11 (lv_at hl 0 rfl) ?_
    refine lv_bipush (v := 100) hx hb dX2_begin_13 (by decide) ?_
    refine lv_icmp_lt (tgt := 20) hx hb dX2_begin_15 (by decide) (fun c_15 => ?_) (fun c_15 => ?_)
    · have h := ite_t c_15 h
      refine lv_aload_n hx hb dX2_begin_20 rfl (lv_at hl 1 rfl) ?_
      refine gX2_22 hx hb hts hown hK hw dX2_begin_21 ?_
      refine lv_iload hx hb dX2_begin_24 (lv_at hl 0 rfl) ?_
      refine lv_iload_n hx hb dX2_begin_26 rfl (lv_at hl 2 rfl) ?_
      obtain ⟨hi_27, h⟩ := chk_e h
      obtain ⟨s2_27, e_27, h⟩ := nam_e h
      refine aC27 hx hb hK hw hi_27 e_27 dX2_begin_27 (fun H locs hw => ?_)
      refine lv_aload_n hx hb dX2_begin_28 rfl (lv_at hl 1 rfl) ?_
      refine gX2_25 hx hb hts hown hK hw dX2_begin_29 ?_
      refine lv_iload hx hb dX2_begin_32 (lv_at hl 0 rfl) ?_
      refine lv_iload_n hx hb dX2_begin_34 rfl (lv_at hl 3 rfl) ?_
      obtain ⟨hi_35, h⟩ := chk_e h
      obtain ⟨s2_35, e_35, h⟩ := nam_e h
      refine aC28 hx hb hK hw hi_35 e_35 dX2_begin_35 (fun H locs hw => ?_)
      refine lv_aload_n hx hb dX2_begin_36 rfl (lv_at hl 1 rfl) ?_
      refine gX2_28 hx hb hts hown hK hw dX2_begin_37 ?_
      refine lv_iload hx hb dX2_begin_40 (lv_at hl 0 rfl) ?_
      refine lv_iload_n hx hb dX2_begin_42 rfl (lv_at hl 4 rfl) ?_
      obtain ⟨hi_43, h⟩ := chk_e h
      obtain ⟨s2_43, e_43, h⟩ := nam_e h
      refine aC29 hx hb hK hw hi_43 e_43 dX2_begin_43 (fun H locs hw => ?_)
      refine lv_aload_n hx hb dX2_begin_44 rfl (lv_at hl 1 rfl) ?_
      refine gX2_31 hx hb hts hown hK hw dX2_begin_45 ?_
      refine lv_iload hx hb dX2_begin_48 (lv_at hl 0 rfl) ?_
      refine lv_iload hx hb dX2_begin_50 (lv_at hl 5 rfl) ?_
      obtain ⟨hi_52, h⟩ := chk_e h
      obtain ⟨s2_52, e_52, h⟩ := nam_e h
      refine aC30 hx hb hK hw hi_52 e_52 dX2_begin_52 (fun H locs hw => ?_)
      refine lv_aload_n hx hb dX2_begin_53 rfl (lv_at hl 1 rfl) ?_
      refine gX2_34 hx hb hts hown hK hw dX2_begin_54 ?_
      refine lv_iload hx hb dX2_begin_57 (lv_at hl 0 rfl) ?_
      refine lv_iconst (v := (-1)) hx hb dX2_begin_59 (by decide) ?_
      obtain ⟨hi_60, h⟩ := chk_e h
      obtain ⟨s2_60, e_60, h⟩ := nam_e h
      refine aC31 hx hb hK hw hi_60 e_60 dX2_begin_60 (fun H locs hw => ?_)
      refine lv_aload_n hx hb dX2_begin_61 rfl (lv_at hl 1 rfl) ?_
      refine gX2_37 hx hb hts hown hK hw dX2_begin_62 ?_
      refine lv_iload hx hb dX2_begin_65 (lv_at hl 0 rfl) ?_
      refine lv_iconst (v := 0) hx hb dX2_begin_67 (by decide) ?_
      obtain ⟨hi_68, h⟩ := chk_e h
      obtain ⟨s2_68, e_68, h⟩ := nam_e h
      refine aC32 hx hb hK hw hi_68 e_68 dX2_begin_68 (fun H locs hw => ?_)
      refine lv_aload_n hx hb dX2_begin_69 rfl (lv_at hl 1 rfl) ?_
      refine lv_dup hx hb dX2_begin_70 rfl ?_
      refine gX2_40 hx hb hts hown hK hw dX2_begin_71 ?_
      refine lv_iconst (v := 1) hx hb dX2_begin_74 (by decide) ?_
      refine lv_iadd hx hb dX2_begin_75 ?_
      obtain ⟨s2_76, e_76, h⟩ := nam_e h
      refine pX2_40 hx hb hts hown hK hw e_76 dX2_begin_76 (fun H locs hw => ?_)
      refine lv_iload hx hb dX2_begin_79 (lv_at hl 0 rfl) ?_
      have h := Option.some.inj h
      subst h
      rw [← hQ]
      exact retI hx hb hr hlk hw rfl dX2_begin_81
    · have h := ite_f c_15 h
      exact hJ_18 s2 H locs ls h hw (lv_sub hl [] rfl)
theorem dX2_hasRoom_0 : decode cX2_hasRoom 0 = .ok (.aload_n 0, 1) := by decide +kernel
theorem dX2_hasRoom_1 : decode cX2_hasRoom 1 = .ok (.getfield 40, 3) := by decide +kernel
theorem dX2_hasRoom_4 : decode cX2_hasRoom 4 = .ok (.bipush 100, 2) := by decide +kernel
theorem dX2_hasRoom_6 : decode cX2_hasRoom 6 = .ok (.if_icmp .ge 7, 3) := by decide +kernel
theorem dX2_hasRoom_9 : decode cX2_hasRoom 9 = .ok (.iconst 1, 1) := by decide +kernel
theorem dX2_hasRoom_10 : decode cX2_hasRoom 10 = .ok (.goto 4, 3) := by decide +kernel
theorem dX2_hasRoom_13 : decode cX2_hasRoom 13 = .ok (.iconst 0, 1) := by decide +kernel
theorem dX2_hasRoom_14 : decode cX2_hasRoom 14 = .ok (.ireturn, 1) := by decide +kernel
def f2_hasRoom_j14 (k0_j14 : Int32) (s2_j14 : OS) : Option (Int32) := chk (isB k0_j14) (some k0_j14)
def f2_hasRoom (s2 : OS) : Option (Int32) := if (100 : Int32) ≤ (s2.1 0 9) then (f2_hasRoom_j14 ((0 : Int32)) s2) else (f2_hasRoom_j14 ((1 : Int32)) s2)
set_option maxHeartbeats 4000000 in
set_option maxRecDepth 100000 in
theorem m2_hasRoom (l : Launch) (D : va_G) (ad : Nat → Nat) (cy : Nat → ClassId) (sz : Nat) (s0 s1 s2 s3 s4 s5 s6 s7 s8 s9 s10 : OS) (r : Int32) (h : f2_hasRoom s2 = some r) : Met l yX2_hasRoom (wsOf yX2_hasRoom cX2_hasRoom 1 (some .boolean)) (rmL 0) (va_Pc ([.ref (ad 2)] : List Value) (PreG D cy (cellsC ad cy s0 s1 s2 s3 s4 s5 s6 s7 s8 s9 s10) sz (NC ad))) (QcI D ad 67 (cellsC ad cy s0 s1 s2 s3 s4 s5 s6 s7 s8 s9 s10) (r) sz) 0 0 (Afr ad 67 sz) := by
  refine metG (own := RX2) (by decide) rfl (Nat.le_of_ble_eq_true rfl) fstC ?_ sz
  intro p e s m below meth c ls C0 hw hl
  obtain ⟨hx, hb, hml, hown, hts, hr, hlk, hK, hN⟩ := C0
  have hl : lv_has ls 1 [(0, .ref (ad 2))] := hl
  generalize hQ : MQ below (QcI D ad 67 (cellsC ad cy s0 s1 s2 s3 s4 s5 s6 s7 s8 s9 s10) (r) s.heap.size) ([.ref (ad 2)] : List Value).toArray s 0 0 (Afr ad 67 s.heap.size) = Q
  obtain ⟨H, hH⟩ : ∃ H : Heap, H = s.heap := ⟨_, rfl⟩
  obtain ⟨locs, hlc⟩ : ∃ L : List Loc, L = [] := ⟨_, rfl⟩
  have hw : Wd D (cellsC ad cy s0 s1 s2 s3 s4 s5 s6 s7 s8 s9 s10) (Afr ad 67 s.heap.size) s.heap H locs := by rw [hH, hlc]; exact hw
  suffices h0 : W p l e (rmL 0) s m ([.ref (ad 2)] : List Value).toArray below meth c H locs 0 0 Q (F0 m 0 ls []) by rw [hH, hlc] at h0; exact h0
  clear hH hlc
  unfold f2_hasRoom at h
  have hJ_14 : ∀ (k0_j14 : Int32) (H : Heap) (locs : List Loc) (ls : Array Slot), f2_hasRoom_j14 k0_j14 s2 = some r → Wd D (cellsC ad cy s0 s1 s2 s3 s4 s5 s6 s7 s8 s9 s10) (Afr ad 67 s.heap.size) s.heap H locs → lv_has ls 1 [] → W p l e (rmL 0) s m ([.ref (ad 2)] : List Value).toArray below meth c H locs 0 0 Q (F0 m 14 ls [.int k0_j14]) := by
    intro k0_j14 H locs ls h hw hl
    unfold f2_hasRoom_j14 at h
    obtain ⟨hz_14, h⟩ := chk_e h
    have h := Option.some.inj h
    subst h
    rw [← hQ]
    exact retI hx hb hr hlk hw (narB hz_14) dX2_hasRoom_14
  refine lv_aload_n hx hb dX2_hasRoom_0 rfl (lv_at hl 0 rfl) ?_
  refine gX2_40 hx hb hts hown hK hw dX2_hasRoom_1 ?_
  refine lv_bipush (v := 100) hx hb dX2_hasRoom_4 (by decide) ?_
  refine lv_icmp_ge (tgt := 13) hx hb dX2_hasRoom_6 (by decide) (fun c_6 => ?_) (fun c_6 => ?_)
  · have h := ite_t c_6 h
    refine lv_iconst (v := 0) hx hb dX2_hasRoom_13 (by decide) ?_
    exact hJ_14 ((0 : Int32)) H locs ls h hw (lv_sub hl [] rfl)
  · have h := ite_f c_6 h
    refine lv_iconst (v := 1) hx hb dX2_hasRoom_9 (by decide) ?_
    refine lv_goto (tgt := 14) hx hb dX2_hasRoom_10 (by decide) ?_
    exact hJ_14 ((1 : Int32)) H locs ls h hw (lv_sub hl [] rfl)
theorem dX2_tell_0 : decode cX2_tell 0 = .ok (.aload_n 0, 1) := by decide +kernel
theorem dX2_tell_1 : decode cX2_tell 1 = .ok (.iload_n 1, 1) := by decide +kernel
theorem dX2_tell_2 : decode cX2_tell 2 = .ok (.invokevirtual 47, 3) := by decide +kernel
theorem dX2_tell_5 : decode cX2_tell 5 = .ok (.ifCond .ne 5, 3) := by decide +kernel
theorem dX2_tell_8 : decode cX2_tell 8 = .ok (.iconst (-1), 1) := by decide +kernel
theorem dX2_tell_9 : decode cX2_tell 9 = .ok (.ireturn, 1) := by decide +kernel
theorem dX2_tell_10 : decode cX2_tell 10 = .ok (.iload_n 2, 1) := by decide +kernel
theorem dX2_tell_11 : decode cX2_tell 11 = .ok (.tableswitch 107 0 6 #[41, 48, 55, 62, 69, 76, 83], 41) := by decide +kernel
theorem dX2_tell_52 : decode cX2_tell 52 = .ok (.aload_n 0, 1) := by decide +kernel
theorem dX2_tell_53 : decode cX2_tell 53 = .ok (.getfield 22, 3) := by decide +kernel
theorem dX2_tell_56 : decode cX2_tell 56 = .ok (.iload_n 1, 1) := by decide +kernel
theorem dX2_tell_57 : decode cX2_tell 57 = .ok (.iaload, 1) := by decide +kernel
theorem dX2_tell_58 : decode cX2_tell 58 = .ok (.ireturn, 1) := by decide +kernel
theorem dX2_tell_59 : decode cX2_tell 59 = .ok (.aload_n 0, 1) := by decide +kernel
theorem dX2_tell_60 : decode cX2_tell 60 = .ok (.getfield 25, 3) := by decide +kernel
theorem dX2_tell_63 : decode cX2_tell 63 = .ok (.iload_n 1, 1) := by decide +kernel
theorem dX2_tell_64 : decode cX2_tell 64 = .ok (.iaload, 1) := by decide +kernel
theorem dX2_tell_65 : decode cX2_tell 65 = .ok (.ireturn, 1) := by decide +kernel
theorem dX2_tell_66 : decode cX2_tell 66 = .ok (.aload_n 0, 1) := by decide +kernel
theorem dX2_tell_67 : decode cX2_tell 67 = .ok (.getfield 28, 3) := by decide +kernel
theorem dX2_tell_70 : decode cX2_tell 70 = .ok (.iload_n 1, 1) := by decide +kernel
theorem dX2_tell_71 : decode cX2_tell 71 = .ok (.iaload, 1) := by decide +kernel
theorem dX2_tell_72 : decode cX2_tell 72 = .ok (.ireturn, 1) := by decide +kernel
theorem dX2_tell_73 : decode cX2_tell 73 = .ok (.aload_n 0, 1) := by decide +kernel
theorem dX2_tell_74 : decode cX2_tell 74 = .ok (.getfield 31, 3) := by decide +kernel
theorem dX2_tell_77 : decode cX2_tell 77 = .ok (.iload_n 1, 1) := by decide +kernel
theorem dX2_tell_78 : decode cX2_tell 78 = .ok (.iaload, 1) := by decide +kernel
theorem dX2_tell_79 : decode cX2_tell 79 = .ok (.ireturn, 1) := by decide +kernel
theorem dX2_tell_80 : decode cX2_tell 80 = .ok (.aload_n 0, 1) := by decide +kernel
theorem dX2_tell_81 : decode cX2_tell 81 = .ok (.getfield 34, 3) := by decide +kernel
theorem dX2_tell_84 : decode cX2_tell 84 = .ok (.iload_n 1, 1) := by decide +kernel
theorem dX2_tell_85 : decode cX2_tell 85 = .ok (.iaload, 1) := by decide +kernel
theorem dX2_tell_86 : decode cX2_tell 86 = .ok (.ireturn, 1) := by decide +kernel
theorem dX2_tell_87 : decode cX2_tell 87 = .ok (.aload_n 0, 1) := by decide +kernel
theorem dX2_tell_88 : decode cX2_tell 88 = .ok (.getfield 37, 3) := by decide +kernel
theorem dX2_tell_91 : decode cX2_tell 91 = .ok (.iload_n 1, 1) := by decide +kernel
theorem dX2_tell_92 : decode cX2_tell 92 = .ok (.iaload, 1) := by decide +kernel
theorem dX2_tell_93 : decode cX2_tell 93 = .ok (.ireturn, 1) := by decide +kernel
theorem dX2_tell_94 : decode cX2_tell 94 = .ok (.aload_n 0, 1) := by decide +kernel
theorem dX2_tell_95 : decode cX2_tell 95 = .ok (.iload_n 1, 1) := by decide +kernel
theorem dX2_tell_96 : decode cX2_tell 96 = .ok (.invokevirtual 50, 3) := by decide +kernel
theorem dX2_tell_99 : decode cX2_tell 99 = .ok (.ifCond .eq 17, 3) := by decide +kernel
theorem dX2_tell_102 : decode cX2_tell 102 = .ok (.iload_n 3, 1) := by decide +kernel
theorem dX2_tell_103 : decode cX2_tell 103 = .ok (.aload_n 0, 1) := by decide +kernel
theorem dX2_tell_104 : decode cX2_tell 104 = .ok (.getfield 31, 3) := by decide +kernel
theorem dX2_tell_107 : decode cX2_tell 107 = .ok (.iload_n 1, 1) := by decide +kernel
theorem dX2_tell_108 : decode cX2_tell 108 = .ok (.iaload, 1) := by decide +kernel
theorem dX2_tell_109 : decode cX2_tell 109 = .ok (.if_icmp .le 7, 3) := by decide +kernel
theorem dX2_tell_112 : decode cX2_tell 112 = .ok (.iconst 1, 1) := by decide +kernel
theorem dX2_tell_113 : decode cX2_tell 113 = .ok (.goto 4, 3) := by decide +kernel
theorem dX2_tell_116 : decode cX2_tell 116 = .ok (.iconst 0, 1) := by decide +kernel
theorem dX2_tell_117 : decode cX2_tell 117 = .ok (.ireturn, 1) := by decide +kernel
theorem dX2_tell_118 : decode cX2_tell 118 = .ok (.iconst (-1), 1) := by decide +kernel
theorem dX2_tell_119 : decode cX2_tell 119 = .ok (.ireturn, 1) := by decide +kernel
def f2_tell_j117 (k0_j117 : Int32) (s2_j117 : OS) : Option (Int32) := some k0_j117
def f2_tell_j116 (s2_j116 : OS) : Option (Int32) := f2_tell_j117 ((0 : Int32)) s2_j116
def f2_tell (a1 : Int32) (a2 : Int32) (a3 : Int32) (s2 : OS) : Option (Int32) := Option.bind (f2_hasLoan a1 s2) fun q_2 => if q_2 = 0 then (some ((-1 : Int32))) else (if a2 = 0 then (chk (inb a1 100) (nm (s2.1 4 a1.toNatClampNeg) fun y_57 => some y_57)) else if a2 = 1 then (chk (inb a1 100) (nm (s2.1 5 a1.toNatClampNeg) fun y_64 => some y_64)) else if a2 = 2 then (chk (inb a1 100) (nm (s2.1 6 a1.toNatClampNeg) fun y_71 => some y_71)) else if a2 = 3 then (chk (inb a1 100) (nm (s2.1 7 a1.toNatClampNeg) fun y_78 => some y_78)) else if a2 = 4 then (chk (inb a1 100) (nm (s2.1 8 a1.toNatClampNeg) fun y_85 => some y_85)) else if a2 = 5 then (chk (inb a1 100) (nm (s2.1 9 a1.toNatClampNeg) fun y_92 => some y_92)) else if a2 = 6 then (Option.bind (f2_isOut a1 s2) fun q_96 => if q_96 = 0 then (f2_tell_j116 s2) else (chk (inb a1 100) (nm (s2.1 7 a1.toNatClampNeg) fun y_108 => if a3 ≤ y_108 then (f2_tell_j116 s2) else (f2_tell_j117 ((1 : Int32)) s2)))) else (some ((-1 : Int32))))
set_option maxHeartbeats 4000000 in
set_option maxRecDepth 100000 in
theorem m2_tell (l : Launch) (D : va_G) (ad : Nat → Nat) (cy : Nat → ClassId) (sz : Nat) (s0 s1 s2 s3 s4 s5 s6 s7 s8 s9 s10 : OS) (a1 : Int32) (a2 : Int32) (a3 : Int32) (r : Int32) (h : f2_tell a1 a2 a3 s2 = some r) : Met l yX2_tell (wsOf yX2_tell cX2_tell 4 (some .int)) (rmL 2) (va_Pc ([.ref (ad 2), .int a1, .int a2, .int a3] : List Value) (PreG D cy (cellsC ad cy s0 s1 s2 s3 s4 s5 s6 s7 s8 s9 s10) sz (NC ad))) (QcI D ad 67 (cellsC ad cy s0 s1 s2 s3 s4 s5 s6 s7 s8 s9 s10) (r) sz) 0 0 (Afr ad 67 sz) := by
  refine metG (own := RX2) (by decide) rfl (Nat.le_of_ble_eq_true rfl) fstC ?_ sz
  intro p e s m below meth c ls C0 hw hl
  obtain ⟨hx, hb, hml, hown, hts, hr, hlk, hK, hN⟩ := C0
  have hl : lv_has ls 4 [(0, .ref (ad 2)), (1, .int a1), (2, .int a2), (3, .int a3)] := hl
  generalize hQ : MQ below (QcI D ad 67 (cellsC ad cy s0 s1 s2 s3 s4 s5 s6 s7 s8 s9 s10) (r) s.heap.size) ([.ref (ad 2), .int a1, .int a2, .int a3] : List Value).toArray s 0 0 (Afr ad 67 s.heap.size) = Q
  obtain ⟨H, hH⟩ : ∃ H : Heap, H = s.heap := ⟨_, rfl⟩
  obtain ⟨locs, hlc⟩ : ∃ L : List Loc, L = [] := ⟨_, rfl⟩
  have hw : Wd D (cellsC ad cy s0 s1 s2 s3 s4 s5 s6 s7 s8 s9 s10) (Afr ad 67 s.heap.size) s.heap H locs := by rw [hH, hlc]; exact hw
  suffices h0 : W p l e (rmL 2) s m ([.ref (ad 2), .int a1, .int a2, .int a3] : List Value).toArray below meth c H locs 0 0 Q (F0 m 0 ls []) by rw [hH, hlc] at h0; exact h0
  clear hH hlc
  unfold f2_tell at h
  have hJ_117 : ∀ (k0_j117 : Int32) (H : Heap) (locs : List Loc) (ls : Array Slot), f2_tell_j117 k0_j117 s2 = some r → Wd D (cellsC ad cy s0 s1 s2 s3 s4 s5 s6 s7 s8 s9 s10) (Afr ad 67 s.heap.size) s.heap H locs → lv_has ls 4 [] → W p l e (rmL 2) s m ([.ref (ad 2), .int a1, .int a2, .int a3] : List Value).toArray below meth c H locs 0 0 Q (F0 m 117 ls [.int k0_j117]) := by
    intro k0_j117 H locs ls h hw hl
    unfold f2_tell_j117 at h
    have h := Option.some.inj h
    subst h
    rw [← hQ]
    exact retI hx hb hr hlk hw rfl dX2_tell_117
  have hJ_116 : ∀  (H : Heap) (locs : List Loc) (ls : Array Slot), f2_tell_j116 s2 = some r → Wd D (cellsC ad cy s0 s1 s2 s3 s4 s5 s6 s7 s8 s9 s10) (Afr ad 67 s.heap.size) s.heap H locs → lv_has ls 4 [] → W p l e (rmL 2) s m ([.ref (ad 2), .int a1, .int a2, .int a3] : List Value).toArray below meth c H locs 0 0 Q (F0 m 116 ls []) := by
    intro  H locs ls h hw hl
    unfold f2_tell_j116 at h
    refine lv_iconst (v := 0) hx hb dX2_tell_116 (by decide) ?_
    exact hJ_117 ((0 : Int32)) H locs ls h hw (lv_sub hl [] rfl)
  refine lv_aload_n hx hb dX2_tell_0 rfl (lv_at hl 0 rfl) ?_
  refine lv_iload_n hx hb dX2_tell_1 rfl (lv_at hl 1 rfl) ?_
  obtain ⟨q_2, h_2, h⟩ := bnd_e h
  have pg_2 := preG (av := [.ref (ad 2), .int a1]) hK hw.1 hw.2.1 (NC_keep hN hw.2.2) NC_blind
  refine endI (mc := 0) (ms := 0) (va_runV (As := [.int a1]) (rest := []) ⟨hx, hb, hml, hown, hts⟩ (m2_hasLoan l D ad cy H.size s0 s1 s2 s3 s4 s5 s6 s7 s8 s9 s10 a1 q_2 h_2) (wX2_47 0 hts ⟨Nat.le_of_ble_eq_true rfl, Nat.le_of_ble_eq_true rfl⟩) ⟨pg_2.1, va_recv hK hw.1 (ci := 2) (q0 := 2) rfl eC_2, pg_2.2⟩ rfl rfl hl.1 rfl (lv_room (Nat.le_of_ble_eq_true rfl)) dX2_tell_2 ⟨Nat.le_refl _, Nat.le_refl _⟩) hw.2.2 (afr_in hw.2.2) (fun H locs hw => ?_)
  refine lv_if_ne (tgt := 10) hx hb dX2_tell_5 (by decide) (fun c_5 => ?_) (fun c_5 => ?_)
  · have h := ite_f c_5 h
    refine lv_iload_n hx hb dX2_tell_10 rfl (lv_at hl 2 rfl) ?_
    have q_11 : ∀ tgt : Nat, W p l e (rmL 2) s m ([.ref (ad 2), .int a1, .int a2, .int a3] : List Value).toArray below meth c H locs 0 0 Q (F0 m tgt ls []) → W p l e (rmL 2) s m ([.ref (ad 2), .int a1, .int a2, .int a3] : List Value).toArray below meth c H locs 0 0 Q (F0 m tgt ls []) := fun _ z => z
    by_cases c_11_0 : a2 = 0
    · have h := ite_t c_11_0 h
      refine lv_tableIn (off := 41) (tgt := 52) hx hb dX2_tell_11 (by rw [c_11_0]; decide) (by rw [c_11_0]; decide) (by rw [c_11_0]; rfl) (by decide) ?_
      refine lv_aload_n hx hb dX2_tell_52 rfl (lv_at hl 0 rfl) ?_
      refine gX2_22 hx hb hts hown hK hw dX2_tell_53 ?_
      refine lv_iload_n hx hb dX2_tell_56 rfl (lv_at hl 1 rfl) ?_
      obtain ⟨hi_57, h⟩ := chk_e h
      obtain ⟨y_57, e_57, h⟩ := nam_e h
      refine lC27 hx hb hK hw hi_57 e_57 dX2_tell_57 ?_
      have h := Option.some.inj h
      subst h
      rw [← hQ]
      exact retI hx hb hr hlk hw rfl dX2_tell_58
    have h := ite_f c_11_0 h
    by_cases c_11_1 : a2 = 1
    · have h := ite_t c_11_1 h
      refine lv_tableIn (off := 48) (tgt := 59) hx hb dX2_tell_11 (by rw [c_11_1]; decide) (by rw [c_11_1]; decide) (by rw [c_11_1]; rfl) (by decide) ?_
      refine lv_aload_n hx hb dX2_tell_59 rfl (lv_at hl 0 rfl) ?_
      refine gX2_25 hx hb hts hown hK hw dX2_tell_60 ?_
      refine lv_iload_n hx hb dX2_tell_63 rfl (lv_at hl 1 rfl) ?_
      obtain ⟨hi_64, h⟩ := chk_e h
      obtain ⟨y_64, e_64, h⟩ := nam_e h
      refine lC28 hx hb hK hw hi_64 e_64 dX2_tell_64 ?_
      have h := Option.some.inj h
      subst h
      rw [← hQ]
      exact retI hx hb hr hlk hw rfl dX2_tell_65
    have h := ite_f c_11_1 h
    by_cases c_11_2 : a2 = 2
    · have h := ite_t c_11_2 h
      refine lv_tableIn (off := 55) (tgt := 66) hx hb dX2_tell_11 (by rw [c_11_2]; decide) (by rw [c_11_2]; decide) (by rw [c_11_2]; rfl) (by decide) ?_
      refine lv_aload_n hx hb dX2_tell_66 rfl (lv_at hl 0 rfl) ?_
      refine gX2_28 hx hb hts hown hK hw dX2_tell_67 ?_
      refine lv_iload_n hx hb dX2_tell_70 rfl (lv_at hl 1 rfl) ?_
      obtain ⟨hi_71, h⟩ := chk_e h
      obtain ⟨y_71, e_71, h⟩ := nam_e h
      refine lC29 hx hb hK hw hi_71 e_71 dX2_tell_71 ?_
      have h := Option.some.inj h
      subst h
      rw [← hQ]
      exact retI hx hb hr hlk hw rfl dX2_tell_72
    have h := ite_f c_11_2 h
    by_cases c_11_3 : a2 = 3
    · have h := ite_t c_11_3 h
      refine lv_tableIn (off := 62) (tgt := 73) hx hb dX2_tell_11 (by rw [c_11_3]; decide) (by rw [c_11_3]; decide) (by rw [c_11_3]; rfl) (by decide) ?_
      refine lv_aload_n hx hb dX2_tell_73 rfl (lv_at hl 0 rfl) ?_
      refine gX2_31 hx hb hts hown hK hw dX2_tell_74 ?_
      refine lv_iload_n hx hb dX2_tell_77 rfl (lv_at hl 1 rfl) ?_
      obtain ⟨hi_78, h⟩ := chk_e h
      obtain ⟨y_78, e_78, h⟩ := nam_e h
      refine lC30 hx hb hK hw hi_78 e_78 dX2_tell_78 ?_
      have h := Option.some.inj h
      subst h
      rw [← hQ]
      exact retI hx hb hr hlk hw rfl dX2_tell_79
    have h := ite_f c_11_3 h
    by_cases c_11_4 : a2 = 4
    · have h := ite_t c_11_4 h
      refine lv_tableIn (off := 69) (tgt := 80) hx hb dX2_tell_11 (by rw [c_11_4]; decide) (by rw [c_11_4]; decide) (by rw [c_11_4]; rfl) (by decide) ?_
      refine lv_aload_n hx hb dX2_tell_80 rfl (lv_at hl 0 rfl) ?_
      refine gX2_34 hx hb hts hown hK hw dX2_tell_81 ?_
      refine lv_iload_n hx hb dX2_tell_84 rfl (lv_at hl 1 rfl) ?_
      obtain ⟨hi_85, h⟩ := chk_e h
      obtain ⟨y_85, e_85, h⟩ := nam_e h
      refine lC31 hx hb hK hw hi_85 e_85 dX2_tell_85 ?_
      have h := Option.some.inj h
      subst h
      rw [← hQ]
      exact retI hx hb hr hlk hw rfl dX2_tell_86
    have h := ite_f c_11_4 h
    by_cases c_11_5 : a2 = 5
    · have h := ite_t c_11_5 h
      refine lv_tableIn (off := 76) (tgt := 87) hx hb dX2_tell_11 (by rw [c_11_5]; decide) (by rw [c_11_5]; decide) (by rw [c_11_5]; rfl) (by decide) ?_
      refine lv_aload_n hx hb dX2_tell_87 rfl (lv_at hl 0 rfl) ?_
      refine gX2_37 hx hb hts hown hK hw dX2_tell_88 ?_
      refine lv_iload_n hx hb dX2_tell_91 rfl (lv_at hl 1 rfl) ?_
      obtain ⟨hi_92, h⟩ := chk_e h
      obtain ⟨y_92, e_92, h⟩ := nam_e h
      refine lC32 hx hb hK hw hi_92 e_92 dX2_tell_92 ?_
      have h := Option.some.inj h
      subst h
      rw [← hQ]
      exact retI hx hb hr hlk hw rfl dX2_tell_93
    have h := ite_f c_11_5 h
    by_cases c_11_6 : a2 = 6
    · have h := ite_t c_11_6 h
      refine lv_tableIn (off := 83) (tgt := 94) hx hb dX2_tell_11 (by rw [c_11_6]; decide) (by rw [c_11_6]; decide) (by rw [c_11_6]; rfl) (by decide) ?_
      refine lv_aload_n hx hb dX2_tell_94 rfl (lv_at hl 0 rfl) ?_
      refine lv_iload_n hx hb dX2_tell_95 rfl (lv_at hl 1 rfl) ?_
      obtain ⟨q_96, h_96, h⟩ := bnd_e h
      have pg_96 := preG (av := [.ref (ad 2), .int a1]) hK hw.1 hw.2.1 (NC_keep hN hw.2.2) NC_blind
      refine endI (mc := 0) (ms := 0) (va_runV (As := [.int a1]) (rest := []) ⟨hx, hb, hml, hown, hts⟩ (m2_isOut l D ad cy H.size s0 s1 s2 s3 s4 s5 s6 s7 s8 s9 s10 a1 q_96 h_96) (wX2_50 1 hts ⟨Nat.le_of_ble_eq_true rfl, Nat.le_of_ble_eq_true rfl⟩) ⟨pg_96.1, va_recv hK hw.1 (ci := 2) (q0 := 2) rfl eC_2, pg_96.2⟩ rfl rfl hl.1 rfl (lv_room (Nat.le_of_ble_eq_true rfl)) dX2_tell_96 ⟨Nat.le_refl _, Nat.le_refl _⟩) hw.2.2 (afr_in hw.2.2) (fun H locs hw => ?_)
      refine lv_if_eq (tgt := 116) hx hb dX2_tell_99 (by decide) (fun c_99 => ?_) (fun c_99 => ?_)
      · have h := ite_t c_99 h
        exact hJ_116  H locs ls h hw (lv_sub hl [] rfl)
      · have h := ite_f c_99 h
        refine lv_iload_n hx hb dX2_tell_102 rfl (lv_at hl 3 rfl) ?_
        refine lv_aload_n hx hb dX2_tell_103 rfl (lv_at hl 0 rfl) ?_
        refine gX2_31 hx hb hts hown hK hw dX2_tell_104 ?_
        refine lv_iload_n hx hb dX2_tell_107 rfl (lv_at hl 1 rfl) ?_
        obtain ⟨hi_108, h⟩ := chk_e h
        obtain ⟨y_108, e_108, h⟩ := nam_e h
        refine lC30 hx hb hK hw hi_108 e_108 dX2_tell_108 ?_
        refine lv_icmp_le (tgt := 116) hx hb dX2_tell_109 (by decide) (fun c_109 => ?_) (fun c_109 => ?_)
        · have h := ite_t c_109 h
          exact hJ_116  H locs ls h hw (lv_sub hl [] rfl)
        · have h := ite_f c_109 h
          refine lv_iconst (v := 1) hx hb dX2_tell_112 (by decide) ?_
          refine lv_goto (tgt := 117) hx hb dX2_tell_113 (by decide) ?_
          exact hJ_117 ((1 : Int32)) H locs ls h hw (lv_sub hl [] rfl)
    have h := ite_f c_11_6 h
    refine lv_tableOut (tgt := 118) hx hb dX2_tell_11 (by have := lv_neT c_11_0 (a := 0) rfl; have := lv_neT c_11_1 (a := 1) rfl; have := lv_neT c_11_2 (a := 2) rfl; have := lv_neT c_11_3 (a := 3) rfl; have := lv_neT c_11_4 (a := 4) rfl; have := lv_neT c_11_5 (a := 5) rfl; have := lv_neT c_11_6 (a := 6) rfl; omega) (by decide) ?_
    refine lv_iconst (v := (-1)) hx hb dX2_tell_118 (by decide) ?_
    have h := Option.some.inj h
    subst h
    rw [← hQ]
    exact retI hx hb hr hlk hw rfl dX2_tell_119
  · have h := ite_t c_5 h
    refine lv_iconst (v := (-1)) hx hb dX2_tell_8 (by decide) ?_
    have h := Option.some.inj h
    subst h
    rw [← hQ]
    exact retI hx hb hr hlk hw rfl dX2_tell_9
theorem dX7_size_0 : decode cX7_size 0 = .ok (.aload_n 0, 1) := by decide +kernel
theorem dX7_size_1 : decode cX7_size 1 = .ok (.getfield 24, 3) := by decide +kernel
theorem dX7_size_4 : decode cX7_size 4 = .ok (.ireturn, 1) := by decide +kernel
def f7_size (s7 : OS) : Option (Int32) := some ((s7.1 0 4))
set_option maxHeartbeats 4000000 in
set_option maxRecDepth 100000 in
theorem m7_size (l : Launch) (D : va_G) (ad : Nat → Nat) (cy : Nat → ClassId) (sz : Nat) (s0 s1 s2 s3 s4 s5 s6 s7 s8 s9 s10 : OS) (r : Int32) (h : f7_size s7 = some r) : Met l yX7_size (wsOf yX7_size cX7_size 1 (some .int)) (rmL 0) (va_Pc ([.ref (ad 7)] : List Value) (PreG D cy (cellsC ad cy s0 s1 s2 s3 s4 s5 s6 s7 s8 s9 s10) sz (NC ad))) (QcI D ad 67 (cellsC ad cy s0 s1 s2 s3 s4 s5 s6 s7 s8 s9 s10) (r) sz) 0 0 (Afr ad 67 sz) := by
  refine metG (own := RX7) (by decide) rfl (Nat.le_of_ble_eq_true rfl) fstC ?_ sz
  intro p e s m below meth c ls C0 hw hl
  obtain ⟨hx, hb, hml, hown, hts, hr, hlk, hK, hN⟩ := C0
  have hl : lv_has ls 1 [(0, .ref (ad 7))] := hl
  generalize hQ : MQ below (QcI D ad 67 (cellsC ad cy s0 s1 s2 s3 s4 s5 s6 s7 s8 s9 s10) (r) s.heap.size) ([.ref (ad 7)] : List Value).toArray s 0 0 (Afr ad 67 s.heap.size) = Q
  obtain ⟨H, hH⟩ : ∃ H : Heap, H = s.heap := ⟨_, rfl⟩
  obtain ⟨locs, hlc⟩ : ∃ L : List Loc, L = [] := ⟨_, rfl⟩
  have hw : Wd D (cellsC ad cy s0 s1 s2 s3 s4 s5 s6 s7 s8 s9 s10) (Afr ad 67 s.heap.size) s.heap H locs := by rw [hH, hlc]; exact hw
  suffices h0 : W p l e (rmL 0) s m ([.ref (ad 7)] : List Value).toArray below meth c H locs 0 0 Q (F0 m 0 ls []) by rw [hH, hlc] at h0; exact h0
  clear hH hlc
  unfold f7_size at h
  refine lv_aload_n hx hb dX7_size_0 rfl (lv_at hl 0 rfl) ?_
  refine gX7_24 hx hb hts hown hK hw dX7_size_1 ?_
  have h := Option.some.inj h
  subst h
  rw [← hQ]
  exact retI hx hb hr hlk hw rfl dX7_size_4
theorem dX7_tell_0 : decode cX7_tell 0 = .ok (.sipush (-1000), 3) := by decide +kernel
theorem dX7_tell_3 : decode cX7_tell 3 = .ok (.istore 4, 2) := by decide +kernel
theorem dX7_tell_5 : decode cX7_tell 5 = .ok (.sipush 1000, 3) := by decide +kernel
theorem dX7_tell_8 : decode cX7_tell 8 = .ok (.istore 5, 2) := by decide +kernel
theorem dX7_tell_10 : decode cX7_tell 10 = .ok (.iconst 0, 1) := by decide +kernel
theorem dX7_tell_11 : decode cX7_tell 11 = .ok (.istore 6, 2) := by decide +kernel
theorem dX7_tell_13 : decode cX7_tell 13 = .ok (.iload 6, 2) := by decide +kernel
theorem dX7_tell_15 : decode cX7_tell 15 = .ok (.aload_n 0, 1) := by decide +kernel
theorem dX7_tell_16 : decode cX7_tell 16 = .ok (.getfield 24, 3) := by decide +kernel
theorem dX7_tell_19 : decode cX7_tell 19 = .ok (.if_icmp .ge 67, 3) := by decide +kernel
theorem dX7_tell_22 : decode cX7_tell 22 = .ok (.iload 6, 2) := by decide +kernel
theorem dX7_tell_24 : decode cX7_tell 24 = .ok (.sipush 200, 3) := by decide +kernel
theorem dX7_tell_27 : decode cX7_tell 27 = .ok (.if_icmp .ge 59, 3) := by decide +kernel
theorem dX7_tell_30 : decode cX7_tell 30 = .ok (.aload_n 0, 1) := by decide +kernel
theorem dX7_tell_31 : decode cX7_tell 31 = .ok (.getfield 11, 3) := by decide +kernel
theorem dX7_tell_34 : decode cX7_tell 34 = .ok (.iload 6, 2) := by decide +kernel
theorem dX7_tell_36 : decode cX7_tell 36 = .ok (.iaload, 1) := by decide +kernel
theorem dX7_tell_37 : decode cX7_tell 37 = .ok (.iload_n 1, 1) := by decide +kernel
theorem dX7_tell_38 : decode cX7_tell 38 = .ok (.if_icmp .ne 42, 3) := by decide +kernel
theorem dX7_tell_41 : decode cX7_tell 41 = .ok (.aload_n 0, 1) := by decide +kernel
theorem dX7_tell_42 : decode cX7_tell 42 = .ok (.getfield 15, 3) := by decide +kernel
theorem dX7_tell_45 : decode cX7_tell 45 = .ok (.iload 6, 2) := by decide +kernel
theorem dX7_tell_47 : decode cX7_tell 47 = .ok (.iaload, 1) := by decide +kernel
theorem dX7_tell_48 : decode cX7_tell 48 = .ok (.iload_n 2, 1) := by decide +kernel
theorem dX7_tell_49 : decode cX7_tell 49 = .ok (.if_icmp .gt 31, 3) := by decide +kernel
theorem dX7_tell_52 : decode cX7_tell 52 = .ok (.iload 4, 2) := by decide +kernel
theorem dX7_tell_54 : decode cX7_tell 54 = .ok (.aload_n 0, 1) := by decide +kernel
theorem dX7_tell_55 : decode cX7_tell 55 = .ok (.getfield 18, 3) := by decide +kernel
theorem dX7_tell_58 : decode cX7_tell 58 = .ok (.iload 6, 2) := by decide +kernel
theorem dX7_tell_60 : decode cX7_tell 60 = .ok (.iaload, 1) := by decide +kernel
theorem dX7_tell_61 : decode cX7_tell 61 = .ok (.invokestatic 28, 3) := by decide +kernel
theorem dX7_tell_64 : decode cX7_tell 64 = .ok (.istore 4, 2) := by decide +kernel
theorem dX7_tell_66 : decode cX7_tell 66 = .ok (.iload 5, 2) := by decide +kernel
theorem dX7_tell_68 : decode cX7_tell 68 = .ok (.aload_n 0, 1) := by decide +kernel
theorem dX7_tell_69 : decode cX7_tell 69 = .ok (.getfield 21, 3) := by decide +kernel
theorem dX7_tell_72 : decode cX7_tell 72 = .ok (.iload 6, 2) := by decide +kernel
theorem dX7_tell_74 : decode cX7_tell 74 = .ok (.iaload, 1) := by decide +kernel
theorem dX7_tell_75 : decode cX7_tell 75 = .ok (.invokestatic 34, 3) := by decide +kernel
theorem dX7_tell_78 : decode cX7_tell 78 = .ok (.istore 5, 2) := by decide +kernel
theorem dX7_tell_80 : decode cX7_tell 80 = .ok (.iinc 6 1, 3) := by decide +kernel
theorem dX7_tell_83 : decode cX7_tell 83 = .ok (.goto (-70), 3) := by decide +kernel
theorem dX7_tell_86 : decode cX7_tell 86 = .ok (.iload_n 3, 1) := by decide +kernel
theorem dX7_tell_87 : decode cX7_tell 87 = .ok (.tableswitch 76 0 2 #[25, 44, 60], 25) := by decide +kernel
theorem dX7_tell_112 : decode cX7_tell 112 = .ok (.iload 4, 2) := by decide +kernel
theorem dX7_tell_114 : decode cX7_tell 114 = .ok (.iload 5, 2) := by decide +kernel
theorem dX7_tell_116 : decode cX7_tell 116 = .ok (.if_icmp .le 7, 3) := by decide +kernel
theorem dX7_tell_119 : decode cX7_tell 119 = .ok (.iconst 0, 1) := by decide +kernel
theorem dX7_tell_120 : decode cX7_tell 120 = .ok (.goto 10, 3) := by decide +kernel
theorem dX7_tell_123 : decode cX7_tell 123 = .ok (.iload 5, 2) := by decide +kernel
theorem dX7_tell_125 : decode cX7_tell 125 = .ok (.iload 4, 2) := by decide +kernel
theorem dX7_tell_127 : decode cX7_tell 127 = .ok (.isub, 1) := by decide +kernel
theorem dX7_tell_128 : decode cX7_tell 128 = .ok (.iconst 1, 1) := by decide +kernel
theorem dX7_tell_129 : decode cX7_tell 129 = .ok (.iadd, 1) := by decide +kernel
theorem dX7_tell_130 : decode cX7_tell 130 = .ok (.ireturn, 1) := by decide +kernel
theorem dX7_tell_131 : decode cX7_tell 131 = .ok (.iload 4, 2) := by decide +kernel
theorem dX7_tell_133 : decode cX7_tell 133 = .ok (.iload 5, 2) := by decide +kernel
theorem dX7_tell_135 : decode cX7_tell 135 = .ok (.if_icmp .le 9, 3) := by decide +kernel
theorem dX7_tell_138 : decode cX7_tell 138 = .ok (.sipush (-2000), 3) := by decide +kernel
theorem dX7_tell_141 : decode cX7_tell 141 = .ok (.goto 5, 3) := by decide +kernel
theorem dX7_tell_144 : decode cX7_tell 144 = .ok (.iload 4, 2) := by decide +kernel
theorem dX7_tell_146 : decode cX7_tell 146 = .ok (.ireturn, 1) := by decide +kernel
theorem dX7_tell_147 : decode cX7_tell 147 = .ok (.iload 4, 2) := by decide +kernel
theorem dX7_tell_149 : decode cX7_tell 149 = .ok (.iload 5, 2) := by decide +kernel
theorem dX7_tell_151 : decode cX7_tell 151 = .ok (.if_icmp .le 9, 3) := by decide +kernel
theorem dX7_tell_154 : decode cX7_tell 154 = .ok (.sipush (-2000), 3) := by decide +kernel
theorem dX7_tell_157 : decode cX7_tell 157 = .ok (.goto 5, 3) := by decide +kernel
theorem dX7_tell_160 : decode cX7_tell 160 = .ok (.iload 5, 2) := by decide +kernel
theorem dX7_tell_162 : decode cX7_tell 162 = .ok (.ireturn, 1) := by decide +kernel
theorem dX7_tell_163 : decode cX7_tell 163 = .ok (.sipush (-2000), 3) := by decide +kernel
theorem dX7_tell_166 : decode cX7_tell 166 = .ok (.ireturn, 1) := by decide +kernel
noncomputable def f7_tell_j162 (k0_j162 : Int32) (s7_j162 : OS) : Option (Int32) := some k0_j162
noncomputable def f7_tell_j146 (k0_j146 : Int32) (s7_j146 : OS) : Option (Int32) := some k0_j146
noncomputable def f7_tell_j130 (k0_j130 : Int32) (s7_j130 : OS) : Option (Int32) := some k0_j130
noncomputable def f7_tell_j86 (v3_j86 : Int32) (v4_j86 : Int32) (v5_j86 : Int32) (s7_j86 : OS) : Option (Int32) := if v3_j86 = 0 then (if v4_j86 ≤ v5_j86 then (f7_tell_j130 (((v5_j86 - v4_j86) + (1 : Int32))) s7_j86) else (f7_tell_j130 ((0 : Int32)) s7_j86)) else if v3_j86 = 1 then (if v4_j86 ≤ v5_j86 then (f7_tell_j146 v4_j86 s7_j86) else (f7_tell_j146 ((-2000 : Int32)) s7_j86)) else if v3_j86 = 2 then (if v4_j86 ≤ v5_j86 then (f7_tell_j162 v5_j86 s7_j86) else (f7_tell_j162 ((-2000 : Int32)) s7_j86)) else (some ((-2000 : Int32)))
noncomputable def f7_tell_j80 (v1_j80 : Int32) (v2_j80 : Int32) (v3_j80 : Int32) (v4_j80 : Int32) (v5_j80 : Int32) (v6_j80 : Int32) (s7_j80 : OS) : Option ((Int32 × Int32 × Int32) ⊕ (Int32)) := nm (v6_j80 + (1 : Int32)) fun n_80 => some (Sum.inl (v4_j80, v5_j80, n_80))
noncomputable def f7_tell_l13 (v1_i13 : Int32) (v2_i13 : Int32) (v3_i13 : Int32) (s7_i13 : OS) : Int32 × Int32 × Int32 → Option ((Int32 × Int32 × Int32) ⊕ (Int32)) := fun t_13 => if (s7_i13.1 0 4) ≤ t_13.2.2 then (Option.map Sum.inr (f7_tell_j86 v3_i13 t_13.1 t_13.2.1 s7_i13)) else (if (200 : Int32) ≤ t_13.2.2 then (Option.map Sum.inr (f7_tell_j86 v3_i13 t_13.1 t_13.2.1 s7_i13)) else (chk (inb t_13.2.2 200) (nm (s7_i13.1 1 t_13.2.2.toNatClampNeg) fun y_36 => if y_36 = v1_i13 then (chk (inb t_13.2.2 200) (nm (s7_i13.1 2 t_13.2.2.toNatClampNeg) fun y_47 => if v2_i13 < y_47 then (f7_tell_j80 v1_i13 v2_i13 v3_i13 t_13.1 t_13.2.1 t_13.2.2 s7_i13) else (chk (inb t_13.2.2 200) (nm (s7_i13.1 3 t_13.2.2.toNatClampNeg) fun y_60 => nm ((if t_13.1 < y_60 then y_60 else t_13.1)) fun n_64 => chk (inb t_13.2.2 200) (nm (s7_i13.1 4 t_13.2.2.toNatClampNeg) fun y_74 => nm ((if y_74 < t_13.2.1 then y_74 else t_13.2.1)) fun n_78 => f7_tell_j80 v1_i13 v2_i13 v3_i13 n_64 n_78 t_13.2.2 s7_i13))))) else (f7_tell_j80 v1_i13 v2_i13 v3_i13 t_13.1 t_13.2.1 t_13.2.2 s7_i13))))
noncomputable def f7_tell (a1 : Int32) (a2 : Int32) (a3 : Int32) (s7 : OS) : Option (Int32) := loop (f7_tell_l13 a1 a2 a3 s7) ((-1000 : Int32), (1000 : Int32), (0 : Int32))
set_option maxHeartbeats 4000000 in
set_option maxRecDepth 100000 in
theorem m7_tell (l : Launch) (D : va_G) (ad : Nat → Nat) (cy : Nat → ClassId) (sz : Nat) (s0 s1 s2 s3 s4 s5 s6 s7 s8 s9 s10 : OS) (a1 : Int32) (a2 : Int32) (a3 : Int32) (r : Int32) (h : f7_tell a1 a2 a3 s7 = some r) : Met l yX7_tell (wsOf yX7_tell cX7_tell 7 (some .int)) (rmL 1) (va_Pc ([.ref (ad 7), .int a1, .int a2, .int a3] : List Value) (PreG D cy (cellsC ad cy s0 s1 s2 s3 s4 s5 s6 s7 s8 s9 s10) sz (NC ad))) (QcI D ad 67 (cellsC ad cy s0 s1 s2 s3 s4 s5 s6 s7 s8 s9 s10) (r) sz) 0 0 (Afr ad 67 sz) := by
  refine metG (own := RX7) (by decide) rfl (Nat.le_of_ble_eq_true rfl) fstC ?_ sz
  intro p e s m below meth c ls C0 hw hl
  obtain ⟨hx, hb, hml, hown, hts, hr, hlk, hK, hN⟩ := C0
  have hl : lv_has ls 7 [(0, .ref (ad 7)), (1, .int a1), (2, .int a2), (3, .int a3)] := hl
  generalize hQ : MQ below (QcI D ad 67 (cellsC ad cy s0 s1 s2 s3 s4 s5 s6 s7 s8 s9 s10) (r) s.heap.size) ([.ref (ad 7), .int a1, .int a2, .int a3] : List Value).toArray s 0 0 (Afr ad 67 s.heap.size) = Q
  obtain ⟨H, hH⟩ : ∃ H : Heap, H = s.heap := ⟨_, rfl⟩
  obtain ⟨locs, hlc⟩ : ∃ L : List Loc, L = [] := ⟨_, rfl⟩
  have hw : Wd D (cellsC ad cy s0 s1 s2 s3 s4 s5 s6 s7 s8 s9 s10) (Afr ad 67 s.heap.size) s.heap H locs := by rw [hH, hlc]; exact hw
  suffices h0 : W p l e (rmL 1) s m ([.ref (ad 7), .int a1, .int a2, .int a3] : List Value).toArray below meth c H locs 0 0 Q (F0 m 0 ls []) by rw [hH, hlc] at h0; exact h0
  clear hH hlc
  unfold f7_tell at h
  have hJ_162 : ∀ (k0_j162 : Int32) (H : Heap) (locs : List Loc) (ls : Array Slot), f7_tell_j162 k0_j162 s7 = some r → Wd D (cellsC ad cy s0 s1 s2 s3 s4 s5 s6 s7 s8 s9 s10) (Afr ad 67 s.heap.size) s.heap H locs → lv_has ls 7 [] → W p l e (rmL 1) s m ([.ref (ad 7), .int a1, .int a2, .int a3] : List Value).toArray below meth c H locs 0 0 Q (F0 m 162 ls [.int k0_j162]) := by
    intro k0_j162 H locs ls h hw hl
    unfold f7_tell_j162 at h
    have h := Option.some.inj h
    subst h
    rw [← hQ]
    exact retI hx hb hr hlk hw rfl dX7_tell_162
  have hJ_146 : ∀ (k0_j146 : Int32) (H : Heap) (locs : List Loc) (ls : Array Slot), f7_tell_j146 k0_j146 s7 = some r → Wd D (cellsC ad cy s0 s1 s2 s3 s4 s5 s6 s7 s8 s9 s10) (Afr ad 67 s.heap.size) s.heap H locs → lv_has ls 7 [] → W p l e (rmL 1) s m ([.ref (ad 7), .int a1, .int a2, .int a3] : List Value).toArray below meth c H locs 0 0 Q (F0 m 146 ls [.int k0_j146]) := by
    intro k0_j146 H locs ls h hw hl
    unfold f7_tell_j146 at h
    have h := Option.some.inj h
    subst h
    rw [← hQ]
    exact retI hx hb hr hlk hw rfl dX7_tell_146
  have hJ_130 : ∀ (k0_j130 : Int32) (H : Heap) (locs : List Loc) (ls : Array Slot), f7_tell_j130 k0_j130 s7 = some r → Wd D (cellsC ad cy s0 s1 s2 s3 s4 s5 s6 s7 s8 s9 s10) (Afr ad 67 s.heap.size) s.heap H locs → lv_has ls 7 [] → W p l e (rmL 1) s m ([.ref (ad 7), .int a1, .int a2, .int a3] : List Value).toArray below meth c H locs 0 0 Q (F0 m 130 ls [.int k0_j130]) := by
    intro k0_j130 H locs ls h hw hl
    unfold f7_tell_j130 at h
    have h := Option.some.inj h
    subst h
    rw [← hQ]
    exact retI hx hb hr hlk hw rfl dX7_tell_130
  have hJ_86 : ∀ (v3_j86 : Int32) (v4_j86 : Int32) (v5_j86 : Int32) (H : Heap) (locs : List Loc) (ls : Array Slot), f7_tell_j86 v3_j86 v4_j86 v5_j86 s7 = some r → Wd D (cellsC ad cy s0 s1 s2 s3 s4 s5 s6 s7 s8 s9 s10) (Afr ad 67 s.heap.size) s.heap H locs → lv_has ls 7 [(3, .int v3_j86), (4, .int v4_j86), (5, .int v5_j86)] → W p l e (rmL 1) s m ([.ref (ad 7), .int a1, .int a2, .int a3] : List Value).toArray below meth c H locs 0 0 Q (F0 m 86 ls []) := by
    intro v3_j86 v4_j86 v5_j86 H locs ls h hw hl
    unfold f7_tell_j86 at h
    refine lv_iload_n hx hb dX7_tell_86 rfl (lv_at hl 0 rfl) ?_
    have q_87 : ∀ tgt : Nat, W p l e (rmL 1) s m ([.ref (ad 7), .int a1, .int a2, .int a3] : List Value).toArray below meth c H locs 0 0 Q (F0 m tgt ls []) → W p l e (rmL 1) s m ([.ref (ad 7), .int a1, .int a2, .int a3] : List Value).toArray below meth c H locs 0 0 Q (F0 m tgt ls []) := fun _ z => z
    by_cases c_87_0 : v3_j86 = 0
    · have h := ite_t c_87_0 h
      refine lv_tableIn (off := 25) (tgt := 112) hx hb dX7_tell_87 (by rw [c_87_0]; decide) (by rw [c_87_0]; decide) (by rw [c_87_0]; rfl) (by decide) ?_
      refine lv_iload hx hb dX7_tell_112 (lv_at hl 1 rfl) ?_
      refine lv_iload hx hb dX7_tell_114 (lv_at hl 2 rfl) ?_
      refine lv_icmp_le (tgt := 123) hx hb dX7_tell_116 (by decide) (fun c_116 => ?_) (fun c_116 => ?_)
      · have h := ite_t c_116 h
        refine lv_iload hx hb dX7_tell_123 (lv_at hl 2 rfl) ?_
        refine lv_iload hx hb dX7_tell_125 (lv_at hl 1 rfl) ?_
        refine lv_isub hx hb dX7_tell_127 ?_
        refine lv_iconst (v := 1) hx hb dX7_tell_128 (by decide) ?_
        refine lv_iadd hx hb dX7_tell_129 ?_
        exact hJ_130 (((v5_j86 - v4_j86) + (1 : Int32))) H locs ls h hw (lv_sub hl [] rfl)
      · have h := ite_f c_116 h
        refine lv_iconst (v := 0) hx hb dX7_tell_119 (by decide) ?_
        refine lv_goto (tgt := 130) hx hb dX7_tell_120 (by decide) ?_
        exact hJ_130 ((0 : Int32)) H locs ls h hw (lv_sub hl [] rfl)
    have h := ite_f c_87_0 h
    by_cases c_87_1 : v3_j86 = 1
    · have h := ite_t c_87_1 h
      refine lv_tableIn (off := 44) (tgt := 131) hx hb dX7_tell_87 (by rw [c_87_1]; decide) (by rw [c_87_1]; decide) (by rw [c_87_1]; rfl) (by decide) ?_
      refine lv_iload hx hb dX7_tell_131 (lv_at hl 1 rfl) ?_
      refine lv_iload hx hb dX7_tell_133 (lv_at hl 2 rfl) ?_
      refine lv_icmp_le (tgt := 144) hx hb dX7_tell_135 (by decide) (fun c_135 => ?_) (fun c_135 => ?_)
      · have h := ite_t c_135 h
        refine lv_iload hx hb dX7_tell_144 (lv_at hl 1 rfl) ?_
        exact hJ_146 v4_j86 H locs ls h hw (lv_sub hl [] rfl)
      · have h := ite_f c_135 h
        refine lv_sipush (v := (-2000)) hx hb dX7_tell_138 (by decide) ?_
        refine lv_goto (tgt := 146) hx hb dX7_tell_141 (by decide) ?_
        exact hJ_146 ((-2000 : Int32)) H locs ls h hw (lv_sub hl [] rfl)
    have h := ite_f c_87_1 h
    by_cases c_87_2 : v3_j86 = 2
    · have h := ite_t c_87_2 h
      refine lv_tableIn (off := 60) (tgt := 147) hx hb dX7_tell_87 (by rw [c_87_2]; decide) (by rw [c_87_2]; decide) (by rw [c_87_2]; rfl) (by decide) ?_
      refine lv_iload hx hb dX7_tell_147 (lv_at hl 1 rfl) ?_
      refine lv_iload hx hb dX7_tell_149 (lv_at hl 2 rfl) ?_
      refine lv_icmp_le (tgt := 160) hx hb dX7_tell_151 (by decide) (fun c_151 => ?_) (fun c_151 => ?_)
      · have h := ite_t c_151 h
        refine lv_iload hx hb dX7_tell_160 (lv_at hl 2 rfl) ?_
        exact hJ_162 v5_j86 H locs ls h hw (lv_sub hl [] rfl)
      · have h := ite_f c_151 h
        refine lv_sipush (v := (-2000)) hx hb dX7_tell_154 (by decide) ?_
        refine lv_goto (tgt := 162) hx hb dX7_tell_157 (by decide) ?_
        exact hJ_162 ((-2000 : Int32)) H locs ls h hw (lv_sub hl [] rfl)
    have h := ite_f c_87_2 h
    refine lv_tableOut (tgt := 163) hx hb dX7_tell_87 (by have := lv_neT c_87_0 (a := 0) rfl; have := lv_neT c_87_1 (a := 1) rfl; have := lv_neT c_87_2 (a := 2) rfl; omega) (by decide) ?_
    refine lv_sipush (v := (-2000)) hx hb dX7_tell_163 (by decide) ?_
    have h := Option.some.inj h
    subst h
    rw [← hQ]
    exact retI hx hb hr hlk hw rfl dX7_tell_166
  refine lv_sipush (v := (-1000)) hx hb dX7_tell_0 (by decide) ?_
  refine lv_istore (lv' := [(4, .int ((-1000 : Int32))), (0, .ref (ad 7)), (1, .int a1), (2, .int a2), (3, .int a3)]) hx hb dX7_tell_3 hl (by decide) rfl (fun ls hl => ?_)
  refine lv_sipush (v := 1000) hx hb dX7_tell_5 (by decide) ?_
  refine lv_istore (lv' := [(5, .int ((1000 : Int32))), (4, .int ((-1000 : Int32))), (0, .ref (ad 7)), (1, .int a1), (2, .int a2), (3, .int a3)]) hx hb dX7_tell_8 hl (by decide) rfl (fun ls hl => ?_)
  refine lv_iconst (v := 0) hx hb dX7_tell_10 (by decide) ?_
  refine lv_istore (lv' := [(6, .int ((0 : Int32))), (5, .int ((1000 : Int32))), (4, .int ((-1000 : Int32))), (0, .ref (ad 7)), (1, .int a1), (2, .int a2), (3, .int a3)]) hx hb dX7_tell_11 hl (by decide) rfl (fun ls hl => ?_)
  obtain ⟨n_13, hn_13⟩ := loop_e h
  have hL_13 : ∀ (n : Nat) (t_13 : Int32 × Int32 × Int32) (H : Heap) (locs : List Loc) (ls : Array Slot), loopN (f7_tell_l13 a1 a2 a3 s7) n t_13 = some r → Wd D (cellsC ad cy s0 s1 s2 s3 s4 s5 s6 s7 s8 s9 s10) (Afr ad 67 s.heap.size) s.heap H locs → lv_has ls 7 [(4, .int t_13.1), (5, .int t_13.2.1), (6, .int t_13.2.2), (1, .int a1), (2, .int a2), (3, .int a3), (0, .ref (ad 7))] → W p l e (rmL 1) s m ([.ref (ad 7), .int a1, .int a2, .int a3] : List Value).toArray below meth c H locs 0 0 Q (F0 m 13 ls []) := by
    intro n
    induction n with
    | zero => intro t_13 H locs ls hn; cases hn
    | succ n ih_13 =>
      intro t_13 H locs ls hn hw hl
      obtain ⟨x_13, h, hx_13⟩ := loopN_e hn
      unfold f7_tell_l13 at h
      have hJ_80 : ∀ (v4_j80 : Int32) (v5_j80 : Int32) (v6_j80 : Int32) (H : Heap) (locs : List Loc) (ls : Array Slot), f7_tell_j80 a1 a2 a3 v4_j80 v5_j80 v6_j80 s7 = some x_13 → Wd D (cellsC ad cy s0 s1 s2 s3 s4 s5 s6 s7 s8 s9 s10) (Afr ad 67 s.heap.size) s.heap H locs → lv_has ls 7 [(0, .ref (ad 7)), (1, .int a1), (2, .int a2), (3, .int a3), (4, .int v4_j80), (5, .int v5_j80), (6, .int v6_j80)] → W p l e (rmL 1) s m ([.ref (ad 7), .int a1, .int a2, .int a3] : List Value).toArray below meth c H locs 0 0 Q (F0 m 80 ls []) := by
        intro v4_j80 v5_j80 v6_j80 H locs ls h hw hl
        unfold f7_tell_j80 at h
        obtain ⟨n_80, e_80, h⟩ := nam_e h
        refine lv_iinc (v := n_80) (lv' := [(6, .int n_80), (0, .ref (ad 7)), (1, .int a1), (2, .int a2), (3, .int a3), (4, .int v4_j80), (5, .int v5_j80)]) hx hb dX7_tell_80 hl (k := 6) rfl (by rw [e_80]; rfl) (by decide) rfl (fun ls hl => ?_)
        refine lv_goto (tgt := 13) hx hb dX7_tell_83 (by decide) ?_
        exact ih_13 (v4_j80, v5_j80, n_80) H locs ls (nx_l hx_13 h) hw (lv_sub hl [5, 6, 0, 2, 3, 4, 1] rfl)
      refine lv_iload hx hb dX7_tell_13 (lv_at hl 2 rfl) ?_
      refine lv_aload_n hx hb dX7_tell_15 rfl (lv_at hl 6 rfl) ?_
      refine gX7_24 hx hb hts hown hK hw dX7_tell_16 ?_
      refine lv_icmp_ge (tgt := 86) hx hb dX7_tell_19 (by decide) (fun c_19 => ?_) (fun c_19 => ?_)
      · have h := ite_t c_19 h
        have h := nx_m hx_13 h
        exact hJ_86 a3 t_13.1 t_13.2.1 H locs ls h hw (lv_sub hl [5, 0, 1] rfl)
      · have h := ite_f c_19 h
        refine lv_iload hx hb dX7_tell_22 (lv_at hl 2 rfl) ?_
        refine lv_sipush (v := 200) hx hb dX7_tell_24 (by decide) ?_
        refine lv_icmp_ge (tgt := 86) hx hb dX7_tell_27 (by decide) (fun c_27 => ?_) (fun c_27 => ?_)
        · have h := ite_t c_27 h
          have h := nx_m hx_13 h
          exact hJ_86 a3 t_13.1 t_13.2.1 H locs ls h hw (lv_sub hl [5, 0, 1] rfl)
        · have h := ite_f c_27 h
          refine lv_aload_n hx hb dX7_tell_30 rfl (lv_at hl 6 rfl) ?_
          refine gX7_11 hx hb hts hown hK hw dX7_tell_31 ?_
          refine lv_iload hx hb dX7_tell_34 (lv_at hl 2 rfl) ?_
          obtain ⟨hi_36, h⟩ := chk_e h
          obtain ⟨y_36, e_36, h⟩ := nam_e h
          refine lC55 hx hb hK hw hi_36 e_36 dX7_tell_36 ?_
          refine lv_iload_n hx hb dX7_tell_37 rfl (lv_at hl 3 rfl) ?_
          refine lv_icmp_ne (tgt := 80) hx hb dX7_tell_38 (by decide) (fun c_38 => ?_) (fun c_38 => ?_)
          · have h := ite_f c_38 h
            exact hJ_80 t_13.1 t_13.2.1 t_13.2.2 H locs ls h hw (lv_sub hl [6, 3, 4, 5, 0, 1, 2] rfl)
          · have h := ite_t c_38 h
            refine lv_aload_n hx hb dX7_tell_41 rfl (lv_at hl 6 rfl) ?_
            refine gX7_15 hx hb hts hown hK hw dX7_tell_42 ?_
            refine lv_iload hx hb dX7_tell_45 (lv_at hl 2 rfl) ?_
            obtain ⟨hi_47, h⟩ := chk_e h
            obtain ⟨y_47, e_47, h⟩ := nam_e h
            refine lC56 hx hb hK hw hi_47 e_47 dX7_tell_47 ?_
            refine lv_iload_n hx hb dX7_tell_48 rfl (lv_at hl 4 rfl) ?_
            refine lv_icmp_gt (tgt := 80) hx hb dX7_tell_49 (by decide) (fun c_49 => ?_) (fun c_49 => ?_)
            · have h := ite_t c_49 h
              exact hJ_80 t_13.1 t_13.2.1 t_13.2.2 H locs ls h hw (lv_sub hl [6, 3, 4, 5, 0, 1, 2] rfl)
            · have h := ite_f c_49 h
              refine lv_iload hx hb dX7_tell_52 (lv_at hl 0 rfl) ?_
              refine lv_aload_n hx hb dX7_tell_54 rfl (lv_at hl 6 rfl) ?_
              refine gX7_18 hx hb hts hown hK hw dX7_tell_55 ?_
              refine lv_iload hx hb dX7_tell_58 (lv_at hl 2 rfl) ?_
              obtain ⟨hi_60, h⟩ := chk_e h
              obtain ⟨y_60, e_60, h⟩ := nam_e h
              refine lC57 hx hb hK hw hi_60 e_60 dX7_tell_60 ?_
              refine va_mmax hx hb (hml.trans hl.1.symm) hown (hts _ (wd_4 (w := .methodLink RX7 28 Lib.Math.max.name) (i := 217) (by decide +kernel) rfl)) (hts _ (wd_3 (w := .static Lib.Math.max.name) (i := 173) (by decide +kernel) rfl)) (hts _ (wd_1 (w := .initialized "java/lang/Math") (i := 15) (by decide +kernel) rfl)) (hts _ (wd_3 (w := .code Lib.Math.max.name Lib.Math.max.code 2 (some .int)) (i := 174) (by decide +kernel) rfl)) (Nat.le_of_ble_eq_true rfl) (Nat.le_of_ble_eq_true rfl) (Nat.zero_le _) (Nat.zero_le _) dX7_tell_61 ?_
              obtain ⟨n_64, e_64, h⟩ := nam_e h
              refine topI e_64 ?_
              refine lv_istore (lv' := [(4, .int n_64), (5, .int t_13.2.1), (6, .int t_13.2.2), (1, .int a1), (2, .int a2), (3, .int a3), (0, .ref (ad 7))]) hx hb dX7_tell_64 hl (by decide) rfl (fun ls hl => ?_)
              refine lv_iload hx hb dX7_tell_66 (lv_at hl 1 rfl) ?_
              refine lv_aload_n hx hb dX7_tell_68 rfl (lv_at hl 6 rfl) ?_
              refine gX7_21 hx hb hts hown hK hw dX7_tell_69 ?_
              refine lv_iload hx hb dX7_tell_72 (lv_at hl 2 rfl) ?_
              obtain ⟨hi_74, h⟩ := chk_e h
              obtain ⟨y_74, e_74, h⟩ := nam_e h
              refine lC58 hx hb hK hw hi_74 e_74 dX7_tell_74 ?_
              refine va_mmin hx hb (hml.trans hl.1.symm) hown (hts _ (wd_4 (w := .methodLink RX7 34 Lib.Math.min.name) (i := 218) (by decide +kernel) rfl)) (hts _ (wd_3 (w := .static Lib.Math.min.name) (i := 176) (by decide +kernel) rfl)) (hts _ (wd_1 (w := .initialized "java/lang/Math") (i := 15) (by decide +kernel) rfl)) (hts _ (wd_3 (w := .code Lib.Math.min.name Lib.Math.min.code 2 (some .int)) (i := 177) (by decide +kernel) rfl)) (Nat.le_of_ble_eq_true rfl) (Nat.le_of_ble_eq_true rfl) (Nat.zero_le _) (Nat.zero_le _) dX7_tell_75 ?_
              obtain ⟨n_78, e_78, h⟩ := nam_e h
              refine topI e_78 ?_
              refine lv_istore (lv' := [(5, .int n_78), (4, .int n_64), (6, .int t_13.2.2), (1, .int a1), (2, .int a2), (3, .int a3), (0, .ref (ad 7))]) hx hb dX7_tell_78 hl (by decide) rfl (fun ls hl => ?_)
              exact hJ_80 n_64 n_78 t_13.2.2 H locs ls h hw (lv_sub hl [6, 3, 4, 5, 1, 0, 2] rfl)
  exact hL_13 n_13 ((-1000 : Int32), (1000 : Int32), (0 : Int32)) H locs ls hn_13 hw (lv_sub hl [2, 1, 0, 4, 5, 6, 3] rfl)
theorem dX7_add_0 : decode cX7_add 0 = .ok (.aload_n 0, 1) := by decide +kernel
theorem dX7_add_1 : decode cX7_add 1 = .ok (.getfield 24, 3) := by decide +kernel
theorem dX7_add_4 : decode cX7_add 4 = .ok (.ifCond .lt 13, 3) := by decide +kernel
theorem dX7_add_7 : decode cX7_add 7 = .ok (.aload_n 0, 1) := by decide +kernel
theorem dX7_add_8 : decode cX7_add 8 = .ok (.getfield 24, 3) := by decide +kernel
theorem dX7_add_11 : decode cX7_add 11 = .ok (.sipush 200, 3) := by decide +kernel
theorem dX7_add_14 : decode cX7_add 14 = .ok (.if_icmp .lt 4, 3) := by decide +kernel
theorem dX7_add_17 : decode cX7_add 17 = .ok (.return_, 1) := by decide +kernel
theorem dX7_add_18 : decode cX7_add 18 = .ok (.aload_n 0, 1) := by decide +kernel
theorem dX7_add_19 : decode cX7_add 19 = .ok (.getfield 11, 3) := by decide +kernel
theorem dX7_add_22 : decode cX7_add 22 = .ok (.aload_n 0, 1) := by decide +kernel
theorem dX7_add_23 : decode cX7_add 23 = .ok (.getfield 24, 3) := by decide +kernel
theorem dX7_add_26 : decode cX7_add 26 = .ok (.iload_n 1, 1) := by decide +kernel
theorem dX7_add_27 : decode cX7_add 27 = .ok (.iastore, 1) := by decide +kernel
theorem dX7_add_28 : decode cX7_add 28 = .ok (.aload_n 0, 1) := by decide +kernel
theorem dX7_add_29 : decode cX7_add 29 = .ok (.getfield 15, 3) := by decide +kernel
theorem dX7_add_32 : decode cX7_add 32 = .ok (.aload_n 0, 1) := by decide +kernel
theorem dX7_add_33 : decode cX7_add 33 = .ok (.getfield 24, 3) := by decide +kernel
theorem dX7_add_36 : decode cX7_add 36 = .ok (.iload_n 2, 1) := by decide +kernel
theorem dX7_add_37 : decode cX7_add 37 = .ok (.iastore, 1) := by decide +kernel
theorem dX7_add_38 : decode cX7_add 38 = .ok (.aload_n 0, 1) := by decide +kernel
theorem dX7_add_39 : decode cX7_add 39 = .ok (.getfield 18, 3) := by decide +kernel
theorem dX7_add_42 : decode cX7_add 42 = .ok (.aload_n 0, 1) := by decide +kernel
theorem dX7_add_43 : decode cX7_add 43 = .ok (.getfield 24, 3) := by decide +kernel
theorem dX7_add_46 : decode cX7_add 46 = .ok (.iload_n 3, 1) := by decide +kernel
theorem dX7_add_47 : decode cX7_add 47 = .ok (.iastore, 1) := by decide +kernel
theorem dX7_add_48 : decode cX7_add 48 = .ok (.aload_n 0, 1) := by decide +kernel
theorem dX7_add_49 : decode cX7_add 49 = .ok (.getfield 21, 3) := by decide +kernel
theorem dX7_add_52 : decode cX7_add 52 = .ok (.aload_n 0, 1) := by decide +kernel
theorem dX7_add_53 : decode cX7_add 53 = .ok (.getfield 24, 3) := by decide +kernel
theorem dX7_add_56 : decode cX7_add 56 = .ok (.iload 4, 2) := by decide +kernel
theorem dX7_add_58 : decode cX7_add 58 = .ok (.iastore, 1) := by decide +kernel
theorem dX7_add_59 : decode cX7_add 59 = .ok (.aload_n 0, 1) := by decide +kernel
theorem dX7_add_60 : decode cX7_add 60 = .ok (.dup, 1) := by decide +kernel
theorem dX7_add_61 : decode cX7_add 61 = .ok (.getfield 24, 3) := by decide +kernel
theorem dX7_add_64 : decode cX7_add 64 = .ok (.iconst 1, 1) := by decide +kernel
theorem dX7_add_65 : decode cX7_add 65 = .ok (.iadd, 1) := by decide +kernel
theorem dX7_add_66 : decode cX7_add 66 = .ok (.putfield 24, 3) := by decide +kernel
theorem dX7_add_69 : decode cX7_add 69 = .ok (.return_, 1) := by decide +kernel
def f7_add_j17 (s7_j17 : OS) : Option (OS) := some s7_j17
def f7_add (a1 : Int32) (a2 : Int32) (a3 : Int32) (a4 : Int32) (s7 : OS) : Option (OS) := if (s7.1 0 4) < 0 then (f7_add_j17 s7) else (if (s7.1 0 4) < (200 : Int32) then (chk (inb ((s7.1 0 4)) 200) (nm (wI s7 1 ((s7.1 0 4)).toNatClampNeg a1) fun s7_27 => chk (inb ((s7_27.1 0 4)) 200) (nm (wI s7_27 2 ((s7_27.1 0 4)).toNatClampNeg a2) fun s7_37 => chk (inb ((s7_37.1 0 4)) 200) (nm (wI s7_37 3 ((s7_37.1 0 4)).toNatClampNeg a3) fun s7_47 => chk (inb ((s7_47.1 0 4)) 200) (nm (wI s7_47 4 ((s7_47.1 0 4)).toNatClampNeg a4) fun s7_58 => nm (wI s7_58 0 4 (((s7_58.1 0 4) + (1 : Int32)))) fun s7_66 => some s7_66))))) else (f7_add_j17 s7))
set_option maxHeartbeats 4000000 in
set_option maxRecDepth 100000 in
theorem m7_add (l : Launch) (D : va_G) (ad : Nat → Nat) (cy : Nat → ClassId) (sz : Nat) (s0 s1 s2 s3 s4 s5 s6 s7 s8 s9 s10 : OS) (a1 : Int32) (a2 : Int32) (a3 : Int32) (a4 : Int32) (r : OS) (h : f7_add a1 a2 a3 a4 s7 = some r) : Met l yX7_add (wsOf yX7_add cX7_add 5 none) (rmL 0) (va_Pc ([.ref (ad 7), .int a1, .int a2, .int a3, .int a4] : List Value) (PreG D cy (cellsC ad cy s0 s1 s2 s3 s4 s5 s6 s7 s8 s9 s10) sz (NC ad))) (QcV D ad 67 (cellsC ad cy s0 s1 s2 s3 s4 s5 s6 r s8 s9 s10) sz) 0 0 (Afr ad 67 sz) := by
  refine metG (own := RX7) (by decide) rfl (Nat.le_of_ble_eq_true rfl) fstC ?_ sz
  intro p e s m below meth c ls C0 hw hl
  obtain ⟨hx, hb, hml, hown, hts, hr, hlk, hK, hN⟩ := C0
  have hl : lv_has ls 5 [(0, .ref (ad 7)), (1, .int a1), (2, .int a2), (3, .int a3), (4, .int a4)] := hl
  generalize hQ : MQ below (QcV D ad 67 (cellsC ad cy s0 s1 s2 s3 s4 s5 s6 r s8 s9 s10) s.heap.size) ([.ref (ad 7), .int a1, .int a2, .int a3, .int a4] : List Value).toArray s 0 0 (Afr ad 67 s.heap.size) = Q
  obtain ⟨H, hH⟩ : ∃ H : Heap, H = s.heap := ⟨_, rfl⟩
  obtain ⟨locs, hlc⟩ : ∃ L : List Loc, L = [] := ⟨_, rfl⟩
  have hw : Wd D (cellsC ad cy s0 s1 s2 s3 s4 s5 s6 s7 s8 s9 s10) (Afr ad 67 s.heap.size) s.heap H locs := by rw [hH, hlc]; exact hw
  suffices h0 : W p l e (rmL 0) s m ([.ref (ad 7), .int a1, .int a2, .int a3, .int a4] : List Value).toArray below meth c H locs 0 0 Q (F0 m 0 ls []) by rw [hH, hlc] at h0; exact h0
  clear hH hlc
  unfold f7_add at h
  have hJ_17 : ∀ (s7_j17 : OS) (H : Heap) (locs : List Loc) (ls : Array Slot), f7_add_j17 s7_j17 = some r → Wd D (cellsC ad cy s0 s1 s2 s3 s4 s5 s6 s7_j17 s8 s9 s10) (Afr ad 67 s.heap.size) s.heap H locs → lv_has ls 5 [] → W p l e (rmL 0) s m ([.ref (ad 7), .int a1, .int a2, .int a3, .int a4] : List Value).toArray below meth c H locs 0 0 Q (F0 m 17 ls []) := by
    intro s7_j17 H locs ls h hw hl
    unfold f7_add_j17 at h
    have h := Option.some.inj h
    subst h
    rw [← hQ]
    exact retV hx hb hr hlk hw dX7_add_17
  refine lv_aload_n hx hb dX7_add_0 rfl (lv_at hl 0 rfl) ?_
  refine gX7_24 hx hb hts hown hK hw dX7_add_1 ?_
  refine lv_if_lt (tgt := 17) hx hb dX7_add_4 (by decide) (fun c_4 => ?_) (fun c_4 => ?_)
  · have h := ite_t c_4 h
    exact hJ_17 s7 H locs ls h hw (lv_sub hl [] rfl)
  · have h := ite_f c_4 h
    refine lv_aload_n hx hb dX7_add_7 rfl (lv_at hl 0 rfl) ?_
    refine gX7_24 hx hb hts hown hK hw dX7_add_8 ?_
    refine lv_sipush (v := 200) hx hb dX7_add_11 (by decide) ?_
    refine lv_icmp_lt (tgt := 18) hx hb dX7_add_14 (by decide) (fun c_14 => ?_) (fun c_14 => ?_)
    · have h := ite_t c_14 h
      refine lv_aload_n hx hb dX7_add_18 rfl (lv_at hl 0 rfl) ?_
      refine gX7_11 hx hb hts hown hK hw dX7_add_19 ?_
      refine lv_aload_n hx hb dX7_add_22 rfl (lv_at hl 0 rfl) ?_
      refine gX7_24 hx hb hts hown hK hw dX7_add_23 ?_
      refine lv_iload_n hx hb dX7_add_26 rfl (lv_at hl 1 rfl) ?_
      obtain ⟨hi_27, h⟩ := chk_e h
      obtain ⟨s7_27, e_27, h⟩ := nam_e h
      refine aC55 hx hb hK hw hi_27 e_27 dX7_add_27 (fun H locs hw => ?_)
      refine lv_aload_n hx hb dX7_add_28 rfl (lv_at hl 0 rfl) ?_
      refine gX7_15 hx hb hts hown hK hw dX7_add_29 ?_
      refine lv_aload_n hx hb dX7_add_32 rfl (lv_at hl 0 rfl) ?_
      refine gX7_24 hx hb hts hown hK hw dX7_add_33 ?_
      refine lv_iload_n hx hb dX7_add_36 rfl (lv_at hl 2 rfl) ?_
      obtain ⟨hi_37, h⟩ := chk_e h
      obtain ⟨s7_37, e_37, h⟩ := nam_e h
      refine aC56 hx hb hK hw hi_37 e_37 dX7_add_37 (fun H locs hw => ?_)
      refine lv_aload_n hx hb dX7_add_38 rfl (lv_at hl 0 rfl) ?_
      refine gX7_18 hx hb hts hown hK hw dX7_add_39 ?_
      refine lv_aload_n hx hb dX7_add_42 rfl (lv_at hl 0 rfl) ?_
      refine gX7_24 hx hb hts hown hK hw dX7_add_43 ?_
      refine lv_iload_n hx hb dX7_add_46 rfl (lv_at hl 3 rfl) ?_
      obtain ⟨hi_47, h⟩ := chk_e h
      obtain ⟨s7_47, e_47, h⟩ := nam_e h
      refine aC57 hx hb hK hw hi_47 e_47 dX7_add_47 (fun H locs hw => ?_)
      refine lv_aload_n hx hb dX7_add_48 rfl (lv_at hl 0 rfl) ?_
      refine gX7_21 hx hb hts hown hK hw dX7_add_49 ?_
      refine lv_aload_n hx hb dX7_add_52 rfl (lv_at hl 0 rfl) ?_
      refine gX7_24 hx hb hts hown hK hw dX7_add_53 ?_
      refine lv_iload hx hb dX7_add_56 (lv_at hl 4 rfl) ?_
      obtain ⟨hi_58, h⟩ := chk_e h
      obtain ⟨s7_58, e_58, h⟩ := nam_e h
      refine aC58 hx hb hK hw hi_58 e_58 dX7_add_58 (fun H locs hw => ?_)
      refine lv_aload_n hx hb dX7_add_59 rfl (lv_at hl 0 rfl) ?_
      refine lv_dup hx hb dX7_add_60 rfl ?_
      refine gX7_24 hx hb hts hown hK hw dX7_add_61 ?_
      refine lv_iconst (v := 1) hx hb dX7_add_64 (by decide) ?_
      refine lv_iadd hx hb dX7_add_65 ?_
      obtain ⟨s7_66, e_66, h⟩ := nam_e h
      refine pX7_24 hx hb hts hown hK hw e_66 dX7_add_66 (fun H locs hw => ?_)
      have h := Option.some.inj h
      subst h
      rw [← hQ]
      exact retV hx hb hr hlk hw dX7_add_69
    · have h := ite_f c_14 h
      exact hJ_17 s7 H locs ls h hw (lv_sub hl [] rfl)
theorem dX7_hasRoom_0 : decode cX7_hasRoom 0 = .ok (.aload_n 0, 1) := by decide +kernel
theorem dX7_hasRoom_1 : decode cX7_hasRoom 1 = .ok (.getfield 24, 3) := by decide +kernel
theorem dX7_hasRoom_4 : decode cX7_hasRoom 4 = .ok (.sipush 200, 3) := by decide +kernel
theorem dX7_hasRoom_7 : decode cX7_hasRoom 7 = .ok (.if_icmp .ge 7, 3) := by decide +kernel
theorem dX7_hasRoom_10 : decode cX7_hasRoom 10 = .ok (.iconst 1, 1) := by decide +kernel
theorem dX7_hasRoom_11 : decode cX7_hasRoom 11 = .ok (.goto 4, 3) := by decide +kernel
theorem dX7_hasRoom_14 : decode cX7_hasRoom 14 = .ok (.iconst 0, 1) := by decide +kernel
theorem dX7_hasRoom_15 : decode cX7_hasRoom 15 = .ok (.ireturn, 1) := by decide +kernel
def f7_hasRoom_j15 (k0_j15 : Int32) (s7_j15 : OS) : Option (Int32) := chk (isB k0_j15) (some k0_j15)
def f7_hasRoom (s7 : OS) : Option (Int32) := if (200 : Int32) ≤ (s7.1 0 4) then (f7_hasRoom_j15 ((0 : Int32)) s7) else (f7_hasRoom_j15 ((1 : Int32)) s7)
set_option maxHeartbeats 4000000 in
set_option maxRecDepth 100000 in
theorem m7_hasRoom (l : Launch) (D : va_G) (ad : Nat → Nat) (cy : Nat → ClassId) (sz : Nat) (s0 s1 s2 s3 s4 s5 s6 s7 s8 s9 s10 : OS) (r : Int32) (h : f7_hasRoom s7 = some r) : Met l yX7_hasRoom (wsOf yX7_hasRoom cX7_hasRoom 1 (some .boolean)) (rmL 0) (va_Pc ([.ref (ad 7)] : List Value) (PreG D cy (cellsC ad cy s0 s1 s2 s3 s4 s5 s6 s7 s8 s9 s10) sz (NC ad))) (QcI D ad 67 (cellsC ad cy s0 s1 s2 s3 s4 s5 s6 s7 s8 s9 s10) (r) sz) 0 0 (Afr ad 67 sz) := by
  refine metG (own := RX7) (by decide) rfl (Nat.le_of_ble_eq_true rfl) fstC ?_ sz
  intro p e s m below meth c ls C0 hw hl
  obtain ⟨hx, hb, hml, hown, hts, hr, hlk, hK, hN⟩ := C0
  have hl : lv_has ls 1 [(0, .ref (ad 7))] := hl
  generalize hQ : MQ below (QcI D ad 67 (cellsC ad cy s0 s1 s2 s3 s4 s5 s6 s7 s8 s9 s10) (r) s.heap.size) ([.ref (ad 7)] : List Value).toArray s 0 0 (Afr ad 67 s.heap.size) = Q
  obtain ⟨H, hH⟩ : ∃ H : Heap, H = s.heap := ⟨_, rfl⟩
  obtain ⟨locs, hlc⟩ : ∃ L : List Loc, L = [] := ⟨_, rfl⟩
  have hw : Wd D (cellsC ad cy s0 s1 s2 s3 s4 s5 s6 s7 s8 s9 s10) (Afr ad 67 s.heap.size) s.heap H locs := by rw [hH, hlc]; exact hw
  suffices h0 : W p l e (rmL 0) s m ([.ref (ad 7)] : List Value).toArray below meth c H locs 0 0 Q (F0 m 0 ls []) by rw [hH, hlc] at h0; exact h0
  clear hH hlc
  unfold f7_hasRoom at h
  have hJ_15 : ∀ (k0_j15 : Int32) (H : Heap) (locs : List Loc) (ls : Array Slot), f7_hasRoom_j15 k0_j15 s7 = some r → Wd D (cellsC ad cy s0 s1 s2 s3 s4 s5 s6 s7 s8 s9 s10) (Afr ad 67 s.heap.size) s.heap H locs → lv_has ls 1 [] → W p l e (rmL 0) s m ([.ref (ad 7)] : List Value).toArray below meth c H locs 0 0 Q (F0 m 15 ls [.int k0_j15]) := by
    intro k0_j15 H locs ls h hw hl
    unfold f7_hasRoom_j15 at h
    obtain ⟨hz_15, h⟩ := chk_e h
    have h := Option.some.inj h
    subst h
    rw [← hQ]
    exact retI hx hb hr hlk hw (narB hz_15) dX7_hasRoom_15
  refine lv_aload_n hx hb dX7_hasRoom_0 rfl (lv_at hl 0 rfl) ?_
  refine gX7_24 hx hb hts hown hK hw dX7_hasRoom_1 ?_
  refine lv_sipush (v := 200) hx hb dX7_hasRoom_4 (by decide) ?_
  refine lv_icmp_ge (tgt := 14) hx hb dX7_hasRoom_7 (by decide) (fun c_7 => ?_) (fun c_7 => ?_)
  · have h := ite_t c_7 h
    refine lv_iconst (v := 0) hx hb dX7_hasRoom_14 (by decide) ?_
    exact hJ_15 ((0 : Int32)) H locs ls h hw (lv_sub hl [] rfl)
  · have h := ite_f c_7 h
    refine lv_iconst (v := 1) hx hb dX7_hasRoom_10 (by decide) ?_
    refine lv_goto (tgt := 15) hx hb dX7_hasRoom_11 (by decide) ?_
    exact hJ_15 ((1 : Int32)) H locs ls h hw (lv_sub hl [] rfl)
