theorem dX11_factor_0 : decode cX11_factor 0 = .ok (.aload_n 0, 1) := by decide +kernel
theorem dX11_factor_1 : decode cX11_factor 1 = .ok (.invokevirtual 294, 3) := by decide +kernel
theorem dX11_factor_4 : decode cX11_factor 4 = .ok (.ifCond .eq 19, 3) := by decide +kernel
theorem dX11_factor_7 : decode cX11_factor 7 = .ok (.aload_n 0, 1) := by decide +kernel
theorem dX11_factor_8 : decode cX11_factor 8 = .ok (.invokevirtual 314, 3) := by decide +kernel
theorem dX11_factor_11 : decode cX11_factor 11 = .ok (.bipush 91, 2) := by decide +kernel
theorem dX11_factor_13 : decode cX11_factor 13 = .ok (.if_icmp .ne 10, 3) := by decide +kernel
theorem dX11_factor_16 : decode cX11_factor 16 = .ok (.aload_n 0, 1) := by decide +kernel
theorem dX11_factor_17 : decode cX11_factor 17 = .ok (.invokevirtual 340, 3) := by decide +kernel
theorem dX11_factor_20 : decode cX11_factor 20 = .ok (.goto (-20), 3) := by decide +kernel
theorem dX11_factor_23 : decode cX11_factor 23 = .ok (.aload_n 0, 1) := by decide +kernel
theorem dX11_factor_24 : decode cX11_factor 24 = .ok (.invokevirtual 294, 3) := by decide +kernel
theorem dX11_factor_27 : decode cX11_factor 27 = .ok (.ifCond .ne 4, 3) := by decide +kernel
theorem dX11_factor_30 : decode cX11_factor 30 = .ok (.return_, 1) := by decide +kernel
theorem dX11_factor_31 : decode cX11_factor 31 = .ok (.aload_n 0, 1) := by decide +kernel
theorem dX11_factor_32 : decode cX11_factor 32 = .ok (.invokevirtual 325, 3) := by decide +kernel
theorem dX11_factor_35 : decode cX11_factor 35 = .ok (.ifCond .eq 18, 3) := by decide +kernel
theorem dX11_factor_38 : decode cX11_factor 38 = .ok (.aload_n 0, 1) := by decide +kernel
theorem dX11_factor_39 : decode cX11_factor 39 = .ok (.iconst 0, 1) := by decide +kernel
theorem dX11_factor_40 : decode cX11_factor 40 = .ok (.aload_n 0, 1) := by decide +kernel
theorem dX11_factor_41 : decode cX11_factor 41 = .ok (.ldc_w 343, 3) := by decide +kernel
theorem dX11_factor_44 : decode cX11_factor 44 = .ok (.invokevirtual 344, 3) := by decide +kernel
theorem dX11_factor_47 : decode cX11_factor 47 = .ok (.invokevirtual 337, 3) := by decide +kernel
theorem dX11_factor_50 : decode cX11_factor 50 = .ok (.goto 44, 3) := by decide +kernel
theorem dX11_factor_53 : decode cX11_factor 53 = .ok (.aload_n 0, 1) := by decide +kernel
theorem dX11_factor_54 : decode cX11_factor 54 = .ok (.invokevirtual 314, 3) := by decide +kernel
theorem dX11_factor_57 : decode cX11_factor 57 = .ok (.invokestatic 347, 3) := by decide +kernel
theorem dX11_factor_60 : decode cX11_factor 60 = .ok (.ifCond .eq 25, 3) := by decide +kernel
theorem dX11_factor_63 : decode cX11_factor 63 = .ok (.aload_n 0, 1) := by decide +kernel
theorem dX11_factor_64 : decode cX11_factor 64 = .ok (.iconst 1, 1) := by decide +kernel
theorem dX11_factor_65 : decode cX11_factor 65 = .ok (.aload_n 0, 1) := by decide +kernel
theorem dX11_factor_66 : decode cX11_factor 66 = .ok (.invokevirtual 314, 3) := by decide +kernel
theorem dX11_factor_69 : decode cX11_factor 69 = .ok (.invokevirtual 337, 3) := by decide +kernel
theorem dX11_factor_72 : decode cX11_factor 72 = .ok (.aload_n 0, 1) := by decide +kernel
theorem dX11_factor_73 : decode cX11_factor 73 = .ok (.dup, 1) := by decide +kernel
theorem dX11_factor_74 : decode cX11_factor 74 = .ok (.getfield 285, 3) := by decide +kernel
theorem dX11_factor_77 : decode cX11_factor 77 = .ok (.iconst 1, 1) := by decide +kernel
theorem dX11_factor_78 : decode cX11_factor 78 = .ok (.iadd, 1) := by decide +kernel
theorem dX11_factor_79 : decode cX11_factor 79 = .ok (.putfield 285, 3) := by decide +kernel
theorem dX11_factor_82 : decode cX11_factor 82 = .ok (.goto 12, 3) := by decide +kernel
theorem dX11_factor_85 : decode cX11_factor 85 = .ok (.aload_n 0, 1) := by decide +kernel
theorem dX11_factor_86 : decode cX11_factor 86 = .ok (.iconst 1, 1) := by decide +kernel
theorem dX11_factor_87 : decode cX11_factor 87 = .ok (.aload_n 0, 1) := by decide +kernel
theorem dX11_factor_88 : decode cX11_factor 88 = .ok (.getfield 285, 3) := by decide +kernel
theorem dX11_factor_91 : decode cX11_factor 91 = .ok (.invokevirtual 310, 3) := by decide +kernel
theorem dX11_factor_94 : decode cX11_factor 94 = .ok (.return_, 1) := by decide +kernel
noncomputable def f11_factor_j94 (s11_j94 : OS) : Option (OS) := some s11_j94
noncomputable def f11_factor_j23 (s11_j23 : OS) : Option (OS) := Option.bind (f11_isGood s11_j23) fun q_24 => if q_24 = 0 then (some s11_j23) else (Option.bind (f11_seesDigit s11_j23) fun q_32 => if q_32 = 0 then (Option.bind (f11_here s11_j23) fun q_54 => Option.bind (f11_isValue q_54) fun q_57 => if q_57 = 0 then (Option.bind (f11_wrongs ((1 : Int32)) ((s11_j23.1 0 43)) s11_j23) fun q_91 => f11_factor_j94 q_91) else (Option.bind (f11_here s11_j23) fun q_66 => Option.bind (f11_emit ((1 : Int32)) q_66 s11_j23) fun q_69 => nm (wI q_69 0 43 (((q_69.1 0 43) + (1 : Int32)))) fun s11_79 => f11_factor_j94 s11_79)) else (Option.bind (f11_reads ((999999 : Int32)) s11_j23) fun q_44 => Option.bind (f11_emit ((0 : Int32)) q_44.1 q_44.2) fun q_47 => f11_factor_j94 q_47))
noncomputable def f11_factor_l0  : OS → Option ((OS) ⊕ (OS)) := fun t_0 => Option.bind (f11_isGood t_0) fun q_1 => if q_1 = 0 then (Option.map Sum.inr (f11_factor_j23 t_0)) else (Option.bind (f11_here t_0) fun q_8 => if q_8 = (91 : Int32) then (Option.bind (f11_opens t_0) fun q_17 => some (Sum.inl q_17)) else (Option.map Sum.inr (f11_factor_j23 t_0)))
noncomputable def f11_factor (s11 : OS) : Option (OS) := loop (f11_factor_l0) s11
set_option maxHeartbeats 4000000 in
set_option maxRecDepth 100000 in
theorem m11_factor (l : Launch) (D : va_G) (ad : Nat → Nat) (cy : Nat → ClassId) (sz : Nat) (s11 : OS) (r : OS) (h : f11_factor s11 = some r) : Met l yX11_factor (wsOf yX11_factor cX11_factor 1 none) (rmL 3) (va_Pc ([.ref (ad 0)] : List Value) (PreG D cy (cellsM ad cy s11) sz NM)) (QcV D ad 66 (cellsM ad cy r) sz) 0 0 (Afr ad 66 sz) := by
  refine metG (own := RX11) (by decide) rfl (Nat.le_of_ble_eq_true rfl) fstM ?_ sz
  intro p e s m below meth c ls C0 hw hl
  obtain ⟨hx, hb, hml, hown, hts, hr, hlk, hK, hN⟩ := C0
  have hl : lv_has ls 1 [(0, .ref (ad 0))] := hl
  generalize hQ : MQ below (QcV D ad 66 (cellsM ad cy r) s.heap.size) ([.ref (ad 0)] : List Value).toArray s 0 0 (Afr ad 66 s.heap.size) = Q
  obtain ⟨H, hH⟩ : ∃ H : Heap, H = s.heap := ⟨_, rfl⟩
  obtain ⟨locs, hlc⟩ : ∃ L : List Loc, L = [] := ⟨_, rfl⟩
  have hw : Wd D (cellsM ad cy s11) (Afr ad 66 s.heap.size) s.heap H locs := by rw [hH, hlc]; exact hw
  suffices h0 : W p l e (rmL 3) s m ([.ref (ad 0)] : List Value).toArray below meth c H locs 0 0 Q (F0 m 0 ls []) by rw [hH, hlc] at h0; exact h0
  clear hH hlc
  unfold f11_factor at h
  have hJ_94 : ∀ (s11_j94 : OS) (H : Heap) (locs : List Loc) (ls : Array Slot), f11_factor_j94 s11_j94 = some r → Wd D (cellsM ad cy s11_j94) (Afr ad 66 s.heap.size) s.heap H locs → lv_has ls 1 [] → W p l e (rmL 3) s m ([.ref (ad 0)] : List Value).toArray below meth c H locs 0 0 Q (F0 m 94 ls []) := by
    intro s11_j94 H locs ls h hw hl
    unfold f11_factor_j94 at h
    have h := Option.some.inj h
    subst h
    rw [← hQ]
    exact retV hx hb hr hlk hw dX11_factor_94
  have hJ_23 : ∀ (s11_j23 : OS) (H : Heap) (locs : List Loc) (ls : Array Slot), f11_factor_j23 s11_j23 = some r → Wd D (cellsM ad cy s11_j23) (Afr ad 66 s.heap.size) s.heap H locs → lv_has ls 1 [(0, .ref (ad 0))] → W p l e (rmL 3) s m ([.ref (ad 0)] : List Value).toArray below meth c H locs 0 0 Q (F0 m 23 ls []) := by
    intro s11_j23 H locs ls h hw hl
    unfold f11_factor_j23 at h
    refine lv_aload_n hx hb dX11_factor_23 rfl (lv_at hl 0 rfl) ?_
    obtain ⟨q_24, h_24, h⟩ := bnd_e h
    have pg_24 := preG (av := [.ref (ad 0)]) hK hw.1 hw.2.1 NM_keep NM_blind
    refine endI (mc := 0) (ms := 0) (va_runV (As := []) (rest := []) ⟨hx, hb, hml, hown, hts⟩ (m11_isGood l D ad cy H.size s11_j23 q_24 h_24) (wX11_294 0 hts ⟨Nat.le_of_ble_eq_true rfl, Nat.le_of_ble_eq_true rfl⟩) ⟨pg_24.1, va_recv hK hw.1 (ci := 11) (q0 := 0) rfl eM_0, pg_24.2⟩ rfl rfl hl.1 rfl (lv_room (Nat.le_of_ble_eq_true rfl)) dX11_factor_24 ⟨Nat.le_refl _, Nat.le_refl _⟩) hw.2.2 (afr_in hw.2.2) (fun H locs hw => ?_)
    refine lv_if_ne (tgt := 31) hx hb dX11_factor_27 (by decide) (fun c_27 => ?_) (fun c_27 => ?_)
    · have h := ite_f c_27 h
      refine lv_aload_n hx hb dX11_factor_31 rfl (lv_at hl 0 rfl) ?_
      obtain ⟨q_32, h_32, h⟩ := bnd_e h
      have pg_32 := preG (av := [.ref (ad 0)]) hK hw.1 hw.2.1 NM_keep NM_blind
      refine endI (mc := 0) (ms := 0) (va_runV (As := []) (rest := []) ⟨hx, hb, hml, hown, hts⟩ (m11_seesDigit l D ad cy H.size s11_j23 q_32 h_32) (wX11_325 1 hts ⟨Nat.le_of_ble_eq_true rfl, Nat.le_of_ble_eq_true rfl⟩) ⟨pg_32.1, va_recv hK hw.1 (ci := 11) (q0 := 0) rfl eM_0, pg_32.2⟩ rfl rfl hl.1 rfl (lv_room (Nat.le_of_ble_eq_true rfl)) dX11_factor_32 ⟨Nat.le_refl _, Nat.le_refl _⟩) hw.2.2 (afr_in hw.2.2) (fun H locs hw => ?_)
      refine lv_if_eq (tgt := 53) hx hb dX11_factor_35 (by decide) (fun c_35 => ?_) (fun c_35 => ?_)
      · have h := ite_t c_35 h
        refine lv_aload_n hx hb dX11_factor_53 rfl (lv_at hl 0 rfl) ?_
        obtain ⟨q_54, h_54, h⟩ := bnd_e h
        have pg_54 := preG (av := [.ref (ad 0)]) hK hw.1 hw.2.1 NM_keep NM_blind
        refine endI (mc := 0) (ms := 0) (va_runV (As := []) (rest := []) ⟨hx, hb, hml, hown, hts⟩ (m11_here l D ad cy H.size s11_j23 q_54 h_54) (wX11_314 0 hts ⟨Nat.le_of_ble_eq_true rfl, Nat.le_of_ble_eq_true rfl⟩) ⟨pg_54.1, va_recv hK hw.1 (ci := 11) (q0 := 0) rfl eM_0, pg_54.2⟩ rfl rfl hl.1 rfl (lv_room (Nat.le_of_ble_eq_true rfl)) dX11_factor_54 ⟨Nat.le_refl _, Nat.le_refl _⟩) hw.2.2 (afr_in hw.2.2) (fun H locs hw => ?_)
        obtain ⟨q_57, h_57, h⟩ := bnd_e h
        have pg_57 := preG (av := [.int q_54]) hK hw.1 hw.2.1 NM_keep NM_blind
        refine endI (mc := 0) (ms := 0) (va_runS (As := [.int q_54]) (rest := []) ⟨hx, hb, hml, hown, hts⟩ (m11_isValue l D ad cy H.size s11_j23 q_54 q_57 h_57) (wX11_347 0 hts ⟨Nat.le_of_ble_eq_true rfl, Nat.le_of_ble_eq_true rfl⟩) pg_57 rfl rfl hl.1 rfl (lv_room (Nat.le_of_ble_eq_true rfl)) dX11_factor_57 ⟨Nat.le_refl _, Nat.le_refl _⟩) hw.2.2 (afr_in hw.2.2) (fun H locs hw => ?_)
        refine lv_if_eq (tgt := 85) hx hb dX11_factor_60 (by decide) (fun c_60 => ?_) (fun c_60 => ?_)
        · have h := ite_t c_60 h
          refine lv_aload_n hx hb dX11_factor_85 rfl (lv_at hl 0 rfl) ?_
          refine lv_iconst (v := 1) hx hb dX11_factor_86 (by decide) ?_
          refine lv_aload_n hx hb dX11_factor_87 rfl (lv_at hl 0 rfl) ?_
          refine gX11_285 hx hb hts hown hK hw dX11_factor_88 ?_
          obtain ⟨q_91, h_91, h⟩ := bnd_e h
          have pg_91 := preG (av := [.ref (ad 0), .int ((1 : Int32)), .int ((s11_j23.1 0 43))]) hK hw.1 hw.2.1 NM_keep NM_blind
          refine endV (mc := 0) (ms := 0) (va_runV (As := [.int ((1 : Int32)), .int ((s11_j23.1 0 43))]) (rest := []) ⟨hx, hb, hml, hown, hts⟩ (m11_wrongs l D ad cy H.size s11_j23 ((1 : Int32)) ((s11_j23.1 0 43)) q_91 h_91) (wX11_310 0 hts ⟨Nat.le_of_ble_eq_true rfl, Nat.le_of_ble_eq_true rfl⟩) ⟨pg_91.1, va_recv hK hw.1 (ci := 11) (q0 := 0) rfl eM_0, pg_91.2⟩ rfl rfl hl.1 rfl (lv_room (Nat.le_of_ble_eq_true rfl)) dX11_factor_91 ⟨Nat.le_refl _, Nat.le_refl _⟩) hw.2.2 (afr_in hw.2.2) (fun H locs hw => ?_)
          exact hJ_94 q_91 H locs ls h hw (lv_sub hl [] rfl)
        · have h := ite_f c_60 h
          refine lv_aload_n hx hb dX11_factor_63 rfl (lv_at hl 0 rfl) ?_
          refine lv_iconst (v := 1) hx hb dX11_factor_64 (by decide) ?_
          refine lv_aload_n hx hb dX11_factor_65 rfl (lv_at hl 0 rfl) ?_
          obtain ⟨q_66, h_66, h⟩ := bnd_e h
          have pg_66 := preG (av := [.ref (ad 0)]) hK hw.1 hw.2.1 NM_keep NM_blind
          refine endI (mc := 0) (ms := 0) (va_runV (As := []) (rest := [.int ((1 : Int32)), .ref (ad 0)]) ⟨hx, hb, hml, hown, hts⟩ (m11_here l D ad cy H.size s11_j23 q_66 h_66) (wX11_314 0 hts ⟨Nat.le_of_ble_eq_true rfl, Nat.le_of_ble_eq_true rfl⟩) ⟨pg_66.1, va_recv hK hw.1 (ci := 11) (q0 := 0) rfl eM_0, pg_66.2⟩ rfl rfl hl.1 rfl (lv_room (Nat.le_of_ble_eq_true rfl)) dX11_factor_66 ⟨Nat.le_refl _, Nat.le_refl _⟩) hw.2.2 (afr_in hw.2.2) (fun H locs hw => ?_)
          obtain ⟨q_69, h_69, h⟩ := bnd_e h
          have pg_69 := preG (av := [.ref (ad 0), .int ((1 : Int32)), .int q_66]) hK hw.1 hw.2.1 NM_keep NM_blind
          refine endV (mc := 0) (ms := 0) (va_runV (As := [.int ((1 : Int32)), .int q_66]) (rest := []) ⟨hx, hb, hml, hown, hts⟩ (m11_emit l D ad cy H.size s11_j23 ((1 : Int32)) q_66 q_69 h_69) (wX11_337 1 hts ⟨Nat.le_of_ble_eq_true rfl, Nat.le_of_ble_eq_true rfl⟩) ⟨pg_69.1, va_recv hK hw.1 (ci := 11) (q0 := 0) rfl eM_0, pg_69.2⟩ rfl rfl hl.1 rfl (lv_room (Nat.le_of_ble_eq_true rfl)) dX11_factor_69 ⟨Nat.le_refl _, Nat.le_refl _⟩) hw.2.2 (afr_in hw.2.2) (fun H locs hw => ?_)
          refine lv_aload_n hx hb dX11_factor_72 rfl (lv_at hl 0 rfl) ?_
          refine lv_dup hx hb dX11_factor_73 rfl ?_
          refine gX11_285 hx hb hts hown hK hw dX11_factor_74 ?_
          refine lv_iconst (v := 1) hx hb dX11_factor_77 (by decide) ?_
          refine lv_iadd hx hb dX11_factor_78 ?_
          obtain ⟨s11_79, e_79, h⟩ := nam_e h
          refine pX11_285 hx hb hts hown hK hw e_79 dX11_factor_79 (fun H locs hw => ?_)
          refine lv_goto (tgt := 94) hx hb dX11_factor_82 (by decide) ?_
          exact hJ_94 s11_79 H locs ls h hw (lv_sub hl [] rfl)
      · have h := ite_f c_35 h
        refine lv_aload_n hx hb dX11_factor_38 rfl (lv_at hl 0 rfl) ?_
        refine lv_iconst (v := 0) hx hb dX11_factor_39 (by decide) ?_
        refine lv_aload_n hx hb dX11_factor_40 rfl (lv_at hl 0 rfl) ?_
        refine lv_ldcw (v := 999999) hx hb hown (hts _ (wd_7 (w := .constant RX11 343 999999) (i := 193) (by decide +kernel) rfl)) dX11_factor_41 ?_
        obtain ⟨q_44, h_44, h⟩ := bnd_e h
        have pg_44 := preG (av := [.ref (ad 0), .int ((999999 : Int32))]) hK hw.1 hw.2.1 NM_keep NM_blind
        refine endI (mc := 0) (ms := 0) (va_runV (As := [.int ((999999 : Int32))]) (rest := [.int ((0 : Int32)), .ref (ad 0)]) ⟨hx, hb, hml, hown, hts⟩ (m11_reads l D ad cy H.size s11_j23 ((999999 : Int32)) q_44 h_44) (wX11_344 2 hts ⟨Nat.le_of_ble_eq_true rfl, Nat.le_of_ble_eq_true rfl⟩) ⟨pg_44.1, va_recv hK hw.1 (ci := 11) (q0 := 0) rfl eM_0, pg_44.2⟩ rfl rfl hl.1 rfl (lv_room (Nat.le_of_ble_eq_true rfl)) dX11_factor_44 ⟨Nat.le_refl _, Nat.le_refl _⟩) hw.2.2 (afr_in hw.2.2) (fun H locs hw => ?_)
        obtain ⟨q_47, h_47, h⟩ := bnd_e h
        have pg_47 := preG (av := [.ref (ad 0), .int ((0 : Int32)), .int q_44.1]) hK hw.1 hw.2.1 NM_keep NM_blind
        refine endV (mc := 0) (ms := 0) (va_runV (As := [.int ((0 : Int32)), .int q_44.1]) (rest := []) ⟨hx, hb, hml, hown, hts⟩ (m11_emit l D ad cy H.size q_44.2 ((0 : Int32)) q_44.1 q_47 h_47) (wX11_337 1 hts ⟨Nat.le_of_ble_eq_true rfl, Nat.le_of_ble_eq_true rfl⟩) ⟨pg_47.1, va_recv hK hw.1 (ci := 11) (q0 := 0) rfl eM_0, pg_47.2⟩ rfl rfl hl.1 rfl (lv_room (Nat.le_of_ble_eq_true rfl)) dX11_factor_47 ⟨Nat.le_refl _, Nat.le_refl _⟩) hw.2.2 (afr_in hw.2.2) (fun H locs hw => ?_)
        refine lv_goto (tgt := 94) hx hb dX11_factor_50 (by decide) ?_
        exact hJ_94 q_47 H locs ls h hw (lv_sub hl [] rfl)
    · have h := ite_t c_27 h
      have h := Option.some.inj h
      subst h
      rw [← hQ]
      exact retV hx hb hr hlk hw dX11_factor_30
  obtain ⟨n_0, hn_0⟩ := loop_e h
  have hL_0 : ∀ (n : Nat) (t_0 : OS) (H : Heap) (locs : List Loc) (ls : Array Slot), loopN (f11_factor_l0) n t_0 = some r → Wd D (cellsM ad cy t_0) (Afr ad 66 s.heap.size) s.heap H locs → lv_has ls 1 [(0, .ref (ad 0))] → W p l e (rmL 3) s m ([.ref (ad 0)] : List Value).toArray below meth c H locs 0 0 Q (F0 m 0 ls []) := by
    intro n
    induction n with
    | zero => intro t_0 H locs ls hn; cases hn
    | succ n ih_0 =>
      intro t_0 H locs ls hn hw hl
      obtain ⟨x_0, h, hx_0⟩ := loopN_e hn
      unfold f11_factor_l0 at h
      refine lv_aload_n hx hb dX11_factor_0 rfl (lv_at hl 0 rfl) ?_
      obtain ⟨q_1, h_1, h⟩ := bnd_e h
      have pg_1 := preG (av := [.ref (ad 0)]) hK hw.1 hw.2.1 NM_keep NM_blind
      refine endI (mc := 0) (ms := 0) (va_runV (As := []) (rest := []) ⟨hx, hb, hml, hown, hts⟩ (m11_isGood l D ad cy H.size t_0 q_1 h_1) (wX11_294 0 hts ⟨Nat.le_of_ble_eq_true rfl, Nat.le_of_ble_eq_true rfl⟩) ⟨pg_1.1, va_recv hK hw.1 (ci := 11) (q0 := 0) rfl eM_0, pg_1.2⟩ rfl rfl hl.1 rfl (lv_room (Nat.le_of_ble_eq_true rfl)) dX11_factor_1 ⟨Nat.le_refl _, Nat.le_refl _⟩) hw.2.2 (afr_in hw.2.2) (fun H locs hw => ?_)
      refine lv_if_eq (tgt := 23) hx hb dX11_factor_4 (by decide) (fun c_4 => ?_) (fun c_4 => ?_)
      · have h := ite_t c_4 h
        have h := nx_m hx_0 h
        exact hJ_23 t_0 H locs ls h hw (lv_sub hl [0] rfl)
      · have h := ite_f c_4 h
        refine lv_aload_n hx hb dX11_factor_7 rfl (lv_at hl 0 rfl) ?_
        obtain ⟨q_8, h_8, h⟩ := bnd_e h
        have pg_8 := preG (av := [.ref (ad 0)]) hK hw.1 hw.2.1 NM_keep NM_blind
        refine endI (mc := 0) (ms := 0) (va_runV (As := []) (rest := []) ⟨hx, hb, hml, hown, hts⟩ (m11_here l D ad cy H.size t_0 q_8 h_8) (wX11_314 0 hts ⟨Nat.le_of_ble_eq_true rfl, Nat.le_of_ble_eq_true rfl⟩) ⟨pg_8.1, va_recv hK hw.1 (ci := 11) (q0 := 0) rfl eM_0, pg_8.2⟩ rfl rfl hl.1 rfl (lv_room (Nat.le_of_ble_eq_true rfl)) dX11_factor_8 ⟨Nat.le_refl _, Nat.le_refl _⟩) hw.2.2 (afr_in hw.2.2) (fun H locs hw => ?_)
        refine lv_bipush (v := 91) hx hb dX11_factor_11 (by decide) ?_
        refine lv_icmp_ne (tgt := 23) hx hb dX11_factor_13 (by decide) (fun c_13 => ?_) (fun c_13 => ?_)
        · have h := ite_f c_13 h
          have h := nx_m hx_0 h
          exact hJ_23 t_0 H locs ls h hw (lv_sub hl [0] rfl)
        · have h := ite_t c_13 h
          refine lv_aload_n hx hb dX11_factor_16 rfl (lv_at hl 0 rfl) ?_
          obtain ⟨q_17, h_17, h⟩ := bnd_e h
          have pg_17 := preG (av := [.ref (ad 0)]) hK hw.1 hw.2.1 NM_keep NM_blind
          refine endV (mc := 0) (ms := 0) (va_runV (As := []) (rest := []) ⟨hx, hb, hml, hown, hts⟩ (m11_opens l D ad cy H.size t_0 q_17 h_17) (wX11_340 1 hts ⟨Nat.le_of_ble_eq_true rfl, Nat.le_of_ble_eq_true rfl⟩) ⟨pg_17.1, va_recv hK hw.1 (ci := 11) (q0 := 0) rfl eM_0, pg_17.2⟩ rfl rfl hl.1 rfl (lv_room (Nat.le_of_ble_eq_true rfl)) dX11_factor_17 ⟨Nat.le_refl _, Nat.le_refl _⟩) hw.2.2 (afr_in hw.2.2) (fun H locs hw => ?_)
          refine lv_goto (tgt := 0) hx hb dX11_factor_20 (by decide) ?_
          exact ih_0 q_17 H locs ls (nx_l hx_0 h) hw (lv_sub hl [0] rfl)
  exact hL_0 n_0 s11 H locs ls hn_0 hw (lv_sub hl [0] rfl)
theorem dX11_isPlus_0 : decode cX11_isPlus 0 = .ok (.iload_n 0, 1) := by decide +kernel
theorem dX11_isPlus_1 : decode cX11_isPlus 1 = .ok (.bipush 43, 2) := by decide +kernel
theorem dX11_isPlus_3 : decode cX11_isPlus 3 = .ok (.if_icmp .eq 9, 3) := by decide +kernel
theorem dX11_isPlus_6 : decode cX11_isPlus 6 = .ok (.iload_n 0, 1) := by decide +kernel
theorem dX11_isPlus_7 : decode cX11_isPlus 7 = .ok (.bipush 45, 2) := by decide +kernel
theorem dX11_isPlus_9 : decode cX11_isPlus 9 = .ok (.if_icmp .ne 7, 3) := by decide +kernel
theorem dX11_isPlus_12 : decode cX11_isPlus 12 = .ok (.iconst 1, 1) := by decide +kernel
theorem dX11_isPlus_13 : decode cX11_isPlus 13 = .ok (.goto 4, 3) := by decide +kernel
theorem dX11_isPlus_16 : decode cX11_isPlus 16 = .ok (.iconst 0, 1) := by decide +kernel
theorem dX11_isPlus_17 : decode cX11_isPlus 17 = .ok (.ireturn, 1) := by decide +kernel
def f11_isPlus_j17 (k0_j17 : Int32) : Option (Int32) := chk (isB k0_j17) (some k0_j17)
def f11_isPlus_j12  : Option (Int32) := f11_isPlus_j17 ((1 : Int32))
def f11_isPlus (a0 : Int32) : Option (Int32) := if a0 = (43 : Int32) then f11_isPlus_j12 else (if a0 = (45 : Int32) then f11_isPlus_j12 else (f11_isPlus_j17 ((0 : Int32))))
set_option maxHeartbeats 4000000 in
set_option maxRecDepth 100000 in
theorem m11_isPlus (l : Launch) (D : va_G) (ad : Nat → Nat) (cy : Nat → ClassId) (sz : Nat) (s11 : OS) (a0 : Int32) (r : Int32) (h : f11_isPlus a0 = some r) : Met l yX11_isPlus (wsOf yX11_isPlus cX11_isPlus 1 (some .boolean)) (rmL 0) (va_Pc ([.int a0] : List Value) (PreG D cy (cellsM ad cy s11) sz NM)) (QcI D ad 66 (cellsM ad cy s11) (r) sz) 0 0 (Afr ad 66 sz) := by
  refine metG (own := RX11) (by decide) rfl (Nat.le_of_ble_eq_true rfl) fstM ?_ sz
  intro p e s m below meth c ls C0 hw hl
  obtain ⟨hx, hb, hml, hown, hts, hr, hlk, hK, hN⟩ := C0
  have hl : lv_has ls 1 [(0, .int a0)] := hl
  generalize hQ : MQ below (QcI D ad 66 (cellsM ad cy s11) (r) s.heap.size) ([.int a0] : List Value).toArray s 0 0 (Afr ad 66 s.heap.size) = Q
  obtain ⟨H, hH⟩ : ∃ H : Heap, H = s.heap := ⟨_, rfl⟩
  obtain ⟨locs, hlc⟩ : ∃ L : List Loc, L = [] := ⟨_, rfl⟩
  have hw : Wd D (cellsM ad cy s11) (Afr ad 66 s.heap.size) s.heap H locs := by rw [hH, hlc]; exact hw
  suffices h0 : W p l e (rmL 0) s m ([.int a0] : List Value).toArray below meth c H locs 0 0 Q (F0 m 0 ls []) by rw [hH, hlc] at h0; exact h0
  clear hH hlc
  unfold f11_isPlus at h
  have hJ_17 : ∀ (k0_j17 : Int32) (H : Heap) (locs : List Loc) (ls : Array Slot), f11_isPlus_j17 k0_j17 = some r → Wd D (cellsM ad cy s11) (Afr ad 66 s.heap.size) s.heap H locs → lv_has ls 1 [] → W p l e (rmL 0) s m ([.int a0] : List Value).toArray below meth c H locs 0 0 Q (F0 m 17 ls [.int k0_j17]) := by
    intro k0_j17 H locs ls h hw hl
    unfold f11_isPlus_j17 at h
    obtain ⟨hz_17, h⟩ := chk_e h
    have h := Option.some.inj h
    subst h
    rw [← hQ]
    exact retI hx hb hr hlk hw (narB hz_17) dX11_isPlus_17
  have hJ_12 : ∀  (H : Heap) (locs : List Loc) (ls : Array Slot), f11_isPlus_j12 = some r → Wd D (cellsM ad cy s11) (Afr ad 66 s.heap.size) s.heap H locs → lv_has ls 1 [] → W p l e (rmL 0) s m ([.int a0] : List Value).toArray below meth c H locs 0 0 Q (F0 m 12 ls []) := by
    intro  H locs ls h hw hl
    unfold f11_isPlus_j12 at h
    refine lv_iconst (v := 1) hx hb dX11_isPlus_12 (by decide) ?_
    refine lv_goto (tgt := 17) hx hb dX11_isPlus_13 (by decide) ?_
    exact hJ_17 ((1 : Int32)) H locs ls h hw (lv_sub hl [] rfl)
  refine lv_iload_n hx hb dX11_isPlus_0 rfl (lv_at hl 0 rfl) ?_
  refine lv_bipush (v := 43) hx hb dX11_isPlus_1 (by decide) ?_
  refine lv_icmp_eq (tgt := 12) hx hb dX11_isPlus_3 (by decide) (fun c_3 => ?_) (fun c_3 => ?_)
  · have h := ite_t c_3 h
    exact hJ_12  H locs ls h hw (lv_sub hl [] rfl)
  · have h := ite_f c_3 h
    refine lv_iload_n hx hb dX11_isPlus_6 rfl (lv_at hl 0 rfl) ?_
    refine lv_bipush (v := 45) hx hb dX11_isPlus_7 (by decide) ?_
    refine lv_icmp_ne (tgt := 16) hx hb dX11_isPlus_9 (by decide) (fun c_9 => ?_) (fun c_9 => ?_)
    · have h := ite_f c_9 h
      refine lv_iconst (v := 0) hx hb dX11_isPlus_16 (by decide) ?_
      exact hJ_17 ((0 : Int32)) H locs ls h hw (lv_sub hl [] rfl)
    · have h := ite_t c_9 h
      exact hJ_12  H locs ls h hw (lv_sub hl [] rfl)
theorem dX11_isSign_0 : decode cX11_isSign 0 = .ok (.iload_n 0, 1) := by decide +kernel
theorem dX11_isSign_1 : decode cX11_isSign 1 = .ok (.bipush 60, 2) := by decide +kernel
theorem dX11_isSign_3 : decode cX11_isSign 3 = .ok (.if_icmp .eq 15, 3) := by decide +kernel
theorem dX11_isSign_6 : decode cX11_isSign 6 = .ok (.iload_n 0, 1) := by decide +kernel
theorem dX11_isSign_7 : decode cX11_isSign 7 = .ok (.bipush 62, 2) := by decide +kernel
theorem dX11_isSign_9 : decode cX11_isSign 9 = .ok (.if_icmp .eq 9, 3) := by decide +kernel
theorem dX11_isSign_12 : decode cX11_isSign 12 = .ok (.iload_n 0, 1) := by decide +kernel
theorem dX11_isSign_13 : decode cX11_isSign 13 = .ok (.bipush 61, 2) := by decide +kernel
theorem dX11_isSign_15 : decode cX11_isSign 15 = .ok (.if_icmp .ne 7, 3) := by decide +kernel
theorem dX11_isSign_18 : decode cX11_isSign 18 = .ok (.iconst 1, 1) := by decide +kernel
theorem dX11_isSign_19 : decode cX11_isSign 19 = .ok (.goto 4, 3) := by decide +kernel
theorem dX11_isSign_22 : decode cX11_isSign 22 = .ok (.iconst 0, 1) := by decide +kernel
theorem dX11_isSign_23 : decode cX11_isSign 23 = .ok (.ireturn, 1) := by decide +kernel
def f11_isSign_j23 (k0_j23 : Int32) : Option (Int32) := chk (isB k0_j23) (some k0_j23)
def f11_isSign_j18  : Option (Int32) := f11_isSign_j23 ((1 : Int32))
def f11_isSign (a0 : Int32) : Option (Int32) := if a0 = (60 : Int32) then f11_isSign_j18 else (if a0 = (62 : Int32) then f11_isSign_j18 else (if a0 = (61 : Int32) then f11_isSign_j18 else (f11_isSign_j23 ((0 : Int32)))))
set_option maxHeartbeats 4000000 in
set_option maxRecDepth 100000 in
theorem m11_isSign (l : Launch) (D : va_G) (ad : Nat → Nat) (cy : Nat → ClassId) (sz : Nat) (s11 : OS) (a0 : Int32) (r : Int32) (h : f11_isSign a0 = some r) : Met l yX11_isSign (wsOf yX11_isSign cX11_isSign 1 (some .boolean)) (rmL 0) (va_Pc ([.int a0] : List Value) (PreG D cy (cellsM ad cy s11) sz NM)) (QcI D ad 66 (cellsM ad cy s11) (r) sz) 0 0 (Afr ad 66 sz) := by
  refine metG (own := RX11) (by decide) rfl (Nat.le_of_ble_eq_true rfl) fstM ?_ sz
  intro p e s m below meth c ls C0 hw hl
  obtain ⟨hx, hb, hml, hown, hts, hr, hlk, hK, hN⟩ := C0
  have hl : lv_has ls 1 [(0, .int a0)] := hl
  generalize hQ : MQ below (QcI D ad 66 (cellsM ad cy s11) (r) s.heap.size) ([.int a0] : List Value).toArray s 0 0 (Afr ad 66 s.heap.size) = Q
  obtain ⟨H, hH⟩ : ∃ H : Heap, H = s.heap := ⟨_, rfl⟩
  obtain ⟨locs, hlc⟩ : ∃ L : List Loc, L = [] := ⟨_, rfl⟩
  have hw : Wd D (cellsM ad cy s11) (Afr ad 66 s.heap.size) s.heap H locs := by rw [hH, hlc]; exact hw
  suffices h0 : W p l e (rmL 0) s m ([.int a0] : List Value).toArray below meth c H locs 0 0 Q (F0 m 0 ls []) by rw [hH, hlc] at h0; exact h0
  clear hH hlc
  unfold f11_isSign at h
  have hJ_23 : ∀ (k0_j23 : Int32) (H : Heap) (locs : List Loc) (ls : Array Slot), f11_isSign_j23 k0_j23 = some r → Wd D (cellsM ad cy s11) (Afr ad 66 s.heap.size) s.heap H locs → lv_has ls 1 [] → W p l e (rmL 0) s m ([.int a0] : List Value).toArray below meth c H locs 0 0 Q (F0 m 23 ls [.int k0_j23]) := by
    intro k0_j23 H locs ls h hw hl
    unfold f11_isSign_j23 at h
    obtain ⟨hz_23, h⟩ := chk_e h
    have h := Option.some.inj h
    subst h
    rw [← hQ]
    exact retI hx hb hr hlk hw (narB hz_23) dX11_isSign_23
  have hJ_18 : ∀  (H : Heap) (locs : List Loc) (ls : Array Slot), f11_isSign_j18 = some r → Wd D (cellsM ad cy s11) (Afr ad 66 s.heap.size) s.heap H locs → lv_has ls 1 [] → W p l e (rmL 0) s m ([.int a0] : List Value).toArray below meth c H locs 0 0 Q (F0 m 18 ls []) := by
    intro  H locs ls h hw hl
    unfold f11_isSign_j18 at h
    refine lv_iconst (v := 1) hx hb dX11_isSign_18 (by decide) ?_
    refine lv_goto (tgt := 23) hx hb dX11_isSign_19 (by decide) ?_
    exact hJ_23 ((1 : Int32)) H locs ls h hw (lv_sub hl [] rfl)
  refine lv_iload_n hx hb dX11_isSign_0 rfl (lv_at hl 0 rfl) ?_
  refine lv_bipush (v := 60) hx hb dX11_isSign_1 (by decide) ?_
  refine lv_icmp_eq (tgt := 18) hx hb dX11_isSign_3 (by decide) (fun c_3 => ?_) (fun c_3 => ?_)
  · have h := ite_t c_3 h
    exact hJ_18  H locs ls h hw (lv_sub hl [] rfl)
  · have h := ite_f c_3 h
    refine lv_iload_n hx hb dX11_isSign_6 rfl (lv_at hl 0 rfl) ?_
    refine lv_bipush (v := 62) hx hb dX11_isSign_7 (by decide) ?_
    refine lv_icmp_eq (tgt := 18) hx hb dX11_isSign_9 (by decide) (fun c_9 => ?_) (fun c_9 => ?_)
    · have h := ite_t c_9 h
      exact hJ_18  H locs ls h hw (lv_sub hl [] rfl)
    · have h := ite_f c_9 h
      refine lv_iload_n hx hb dX11_isSign_12 rfl (lv_at hl 0 rfl) ?_
      refine lv_bipush (v := 61) hx hb dX11_isSign_13 (by decide) ?_
      refine lv_icmp_ne (tgt := 22) hx hb dX11_isSign_15 (by decide) (fun c_15 => ?_) (fun c_15 => ?_)
      · have h := ite_f c_15 h
        refine lv_iconst (v := 0) hx hb dX11_isSign_22 (by decide) ?_
        exact hJ_23 ((0 : Int32)) H locs ls h hw (lv_sub hl [] rfl)
      · have h := ite_t c_15 h
        exact hJ_18  H locs ls h hw (lv_sub hl [] rfl)
theorem dX11_isTimes_0 : decode cX11_isTimes 0 = .ok (.iload_n 0, 1) := by decide +kernel
theorem dX11_isTimes_1 : decode cX11_isTimes 1 = .ok (.bipush 42, 2) := by decide +kernel
theorem dX11_isTimes_3 : decode cX11_isTimes 3 = .ok (.if_icmp .eq 15, 3) := by decide +kernel
theorem dX11_isTimes_6 : decode cX11_isTimes 6 = .ok (.iload_n 0, 1) := by decide +kernel
theorem dX11_isTimes_7 : decode cX11_isTimes 7 = .ok (.bipush 47, 2) := by decide +kernel
theorem dX11_isTimes_9 : decode cX11_isTimes 9 = .ok (.if_icmp .eq 9, 3) := by decide +kernel
theorem dX11_isTimes_12 : decode cX11_isTimes 12 = .ok (.iload_n 0, 1) := by decide +kernel
theorem dX11_isTimes_13 : decode cX11_isTimes 13 = .ok (.bipush 37, 2) := by decide +kernel
theorem dX11_isTimes_15 : decode cX11_isTimes 15 = .ok (.if_icmp .ne 7, 3) := by decide +kernel
theorem dX11_isTimes_18 : decode cX11_isTimes 18 = .ok (.iconst 1, 1) := by decide +kernel
theorem dX11_isTimes_19 : decode cX11_isTimes 19 = .ok (.goto 4, 3) := by decide +kernel
theorem dX11_isTimes_22 : decode cX11_isTimes 22 = .ok (.iconst 0, 1) := by decide +kernel
theorem dX11_isTimes_23 : decode cX11_isTimes 23 = .ok (.ireturn, 1) := by decide +kernel
def f11_isTimes_j23 (k0_j23 : Int32) : Option (Int32) := chk (isB k0_j23) (some k0_j23)
def f11_isTimes_j18  : Option (Int32) := f11_isTimes_j23 ((1 : Int32))
def f11_isTimes (a0 : Int32) : Option (Int32) := if a0 = (42 : Int32) then f11_isTimes_j18 else (if a0 = (47 : Int32) then f11_isTimes_j18 else (if a0 = (37 : Int32) then f11_isTimes_j18 else (f11_isTimes_j23 ((0 : Int32)))))
set_option maxHeartbeats 4000000 in
set_option maxRecDepth 100000 in
theorem m11_isTimes (l : Launch) (D : va_G) (ad : Nat → Nat) (cy : Nat → ClassId) (sz : Nat) (s11 : OS) (a0 : Int32) (r : Int32) (h : f11_isTimes a0 = some r) : Met l yX11_isTimes (wsOf yX11_isTimes cX11_isTimes 1 (some .boolean)) (rmL 0) (va_Pc ([.int a0] : List Value) (PreG D cy (cellsM ad cy s11) sz NM)) (QcI D ad 66 (cellsM ad cy s11) (r) sz) 0 0 (Afr ad 66 sz) := by
  refine metG (own := RX11) (by decide) rfl (Nat.le_of_ble_eq_true rfl) fstM ?_ sz
  intro p e s m below meth c ls C0 hw hl
  obtain ⟨hx, hb, hml, hown, hts, hr, hlk, hK, hN⟩ := C0
  have hl : lv_has ls 1 [(0, .int a0)] := hl
  generalize hQ : MQ below (QcI D ad 66 (cellsM ad cy s11) (r) s.heap.size) ([.int a0] : List Value).toArray s 0 0 (Afr ad 66 s.heap.size) = Q
  obtain ⟨H, hH⟩ : ∃ H : Heap, H = s.heap := ⟨_, rfl⟩
  obtain ⟨locs, hlc⟩ : ∃ L : List Loc, L = [] := ⟨_, rfl⟩
  have hw : Wd D (cellsM ad cy s11) (Afr ad 66 s.heap.size) s.heap H locs := by rw [hH, hlc]; exact hw
  suffices h0 : W p l e (rmL 0) s m ([.int a0] : List Value).toArray below meth c H locs 0 0 Q (F0 m 0 ls []) by rw [hH, hlc] at h0; exact h0
  clear hH hlc
  unfold f11_isTimes at h
  have hJ_23 : ∀ (k0_j23 : Int32) (H : Heap) (locs : List Loc) (ls : Array Slot), f11_isTimes_j23 k0_j23 = some r → Wd D (cellsM ad cy s11) (Afr ad 66 s.heap.size) s.heap H locs → lv_has ls 1 [] → W p l e (rmL 0) s m ([.int a0] : List Value).toArray below meth c H locs 0 0 Q (F0 m 23 ls [.int k0_j23]) := by
    intro k0_j23 H locs ls h hw hl
    unfold f11_isTimes_j23 at h
    obtain ⟨hz_23, h⟩ := chk_e h
    have h := Option.some.inj h
    subst h
    rw [← hQ]
    exact retI hx hb hr hlk hw (narB hz_23) dX11_isTimes_23
  have hJ_18 : ∀  (H : Heap) (locs : List Loc) (ls : Array Slot), f11_isTimes_j18 = some r → Wd D (cellsM ad cy s11) (Afr ad 66 s.heap.size) s.heap H locs → lv_has ls 1 [] → W p l e (rmL 0) s m ([.int a0] : List Value).toArray below meth c H locs 0 0 Q (F0 m 18 ls []) := by
    intro  H locs ls h hw hl
    unfold f11_isTimes_j18 at h
    refine lv_iconst (v := 1) hx hb dX11_isTimes_18 (by decide) ?_
    refine lv_goto (tgt := 23) hx hb dX11_isTimes_19 (by decide) ?_
    exact hJ_23 ((1 : Int32)) H locs ls h hw (lv_sub hl [] rfl)
  refine lv_iload_n hx hb dX11_isTimes_0 rfl (lv_at hl 0 rfl) ?_
  refine lv_bipush (v := 42) hx hb dX11_isTimes_1 (by decide) ?_
  refine lv_icmp_eq (tgt := 18) hx hb dX11_isTimes_3 (by decide) (fun c_3 => ?_) (fun c_3 => ?_)
  · have h := ite_t c_3 h
    exact hJ_18  H locs ls h hw (lv_sub hl [] rfl)
  · have h := ite_f c_3 h
    refine lv_iload_n hx hb dX11_isTimes_6 rfl (lv_at hl 0 rfl) ?_
    refine lv_bipush (v := 47) hx hb dX11_isTimes_7 (by decide) ?_
    refine lv_icmp_eq (tgt := 18) hx hb dX11_isTimes_9 (by decide) (fun c_9 => ?_) (fun c_9 => ?_)
    · have h := ite_t c_9 h
      exact hJ_18  H locs ls h hw (lv_sub hl [] rfl)
    · have h := ite_f c_9 h
      refine lv_iload_n hx hb dX11_isTimes_12 rfl (lv_at hl 0 rfl) ?_
      refine lv_bipush (v := 37) hx hb dX11_isTimes_13 (by decide) ?_
      refine lv_icmp_ne (tgt := 22) hx hb dX11_isTimes_15 (by decide) (fun c_15 => ?_) (fun c_15 => ?_)
      · have h := ite_f c_15 h
        refine lv_iconst (v := 0) hx hb dX11_isTimes_22 (by decide) ?_
        exact hJ_23 ((0 : Int32)) H locs ls h hw (lv_sub hl [] rfl)
      · have h := ite_t c_15 h
        exact hJ_18  H locs ls h hw (lv_sub hl [] rfl)
theorem dX11_sums_0 : decode cX11_sums 0 = .ok (.aload_n 0, 1) := by decide +kernel
theorem dX11_sums_1 : decode cX11_sums 1 = .ok (.invokevirtual 328, 3) := by decide +kernel
theorem dX11_sums_4 : decode cX11_sums 4 = .ok (.invokestatic 331, 3) := by decide +kernel
theorem dX11_sums_7 : decode cX11_sums 7 = .ok (.ifCond .ne 17, 3) := by decide +kernel
theorem dX11_sums_10 : decode cX11_sums 10 = .ok (.iload_n 1, 1) := by decide +kernel
theorem dX11_sums_11 : decode cX11_sums 11 = .ok (.ifCond .eq 35, 3) := by decide +kernel
theorem dX11_sums_14 : decode cX11_sums 14 = .ok (.aload_n 0, 1) := by decide +kernel
theorem dX11_sums_15 : decode cX11_sums 15 = .ok (.invokevirtual 328, 3) := by decide +kernel
theorem dX11_sums_18 : decode cX11_sums 18 = .ok (.invokestatic 334, 3) := by decide +kernel
theorem dX11_sums_21 : decode cX11_sums 21 = .ok (.ifCond .eq 25, 3) := by decide +kernel
theorem dX11_sums_24 : decode cX11_sums 24 = .ok (.aload_n 0, 1) := by decide +kernel
theorem dX11_sums_25 : decode cX11_sums 25 = .ok (.aload_n 0, 1) := by decide +kernel
theorem dX11_sums_26 : decode cX11_sums 26 = .ok (.invokevirtual 328, 3) := by decide +kernel
theorem dX11_sums_29 : decode cX11_sums 29 = .ok (.iconst 0, 1) := by decide +kernel
theorem dX11_sums_30 : decode cX11_sums 30 = .ok (.invokevirtual 337, 3) := by decide +kernel
theorem dX11_sums_33 : decode cX11_sums 33 = .ok (.aload_n 0, 1) := by decide +kernel
theorem dX11_sums_34 : decode cX11_sums 34 = .ok (.dup, 1) := by decide +kernel
theorem dX11_sums_35 : decode cX11_sums 35 = .ok (.getfield 304, 3) := by decide +kernel
theorem dX11_sums_38 : decode cX11_sums 38 = .ok (.iconst 1, 1) := by decide +kernel
theorem dX11_sums_39 : decode cX11_sums 39 = .ok (.isub, 1) := by decide +kernel
theorem dX11_sums_40 : decode cX11_sums 40 = .ok (.putfield 304, 3) := by decide +kernel
theorem dX11_sums_43 : decode cX11_sums 43 = .ok (.goto (-43), 3) := by decide +kernel
theorem dX11_sums_46 : decode cX11_sums 46 = .ok (.return_, 1) := by decide +kernel
noncomputable def f11_sums_j46 (s11_j46 : OS) : Option (OS) := some s11_j46
noncomputable def f11_sums_j24 (v1_j24 : Int32) (s11_j24 : OS) : Option ((OS) ⊕ (OS)) := Option.bind (f11_top s11_j24) fun q_26 => Option.bind (f11_emit q_26 ((0 : Int32)) s11_j24) fun q_30 => nm (wI q_30 0 49 (((q_30.1 0 49) - (1 : Int32)))) fun s11_40 => some (Sum.inl s11_40)
noncomputable def f11_sums_l0 (v1_i0 : Int32) : OS → Option ((OS) ⊕ (OS)) := fun t_0 => Option.bind (f11_top t_0) fun q_1 => Option.bind (f11_isTimes q_1) fun q_4 => if q_4 = 0 then (if v1_i0 = 0 then (Option.map Sum.inr (f11_sums_j46 t_0)) else (Option.bind (f11_top t_0) fun q_15 => Option.bind (f11_isPlus q_15) fun q_18 => if q_18 = 0 then (Option.map Sum.inr (f11_sums_j46 t_0)) else (f11_sums_j24 v1_i0 t_0))) else (f11_sums_j24 v1_i0 t_0)
noncomputable def f11_sums (a1 : Int32) (s11 : OS) : Option (OS) := loop (f11_sums_l0 a1) s11
set_option maxHeartbeats 4000000 in
set_option maxRecDepth 100000 in
theorem m11_sums (l : Launch) (D : va_G) (ad : Nat → Nat) (cy : Nat → ClassId) (sz : Nat) (s11 : OS) (a1 : Int32) (r : OS) (h : f11_sums a1 s11 = some r) : Met l yX11_sums (wsOf yX11_sums cX11_sums 2 none) (rmL 2) (va_Pc ([.ref (ad 0), .int a1] : List Value) (PreG D cy (cellsM ad cy s11) sz NM)) (QcV D ad 66 (cellsM ad cy r) sz) 0 0 (Afr ad 66 sz) := by
  refine metG (own := RX11) (by decide) rfl (Nat.le_of_ble_eq_true rfl) fstM ?_ sz
  intro p e s m below meth c ls C0 hw hl
  obtain ⟨hx, hb, hml, hown, hts, hr, hlk, hK, hN⟩ := C0
  have hl : lv_has ls 2 [(0, .ref (ad 0)), (1, .int a1)] := hl
  generalize hQ : MQ below (QcV D ad 66 (cellsM ad cy r) s.heap.size) ([.ref (ad 0), .int a1] : List Value).toArray s 0 0 (Afr ad 66 s.heap.size) = Q
  obtain ⟨H, hH⟩ : ∃ H : Heap, H = s.heap := ⟨_, rfl⟩
  obtain ⟨locs, hlc⟩ : ∃ L : List Loc, L = [] := ⟨_, rfl⟩
  have hw : Wd D (cellsM ad cy s11) (Afr ad 66 s.heap.size) s.heap H locs := by rw [hH, hlc]; exact hw
  suffices h0 : W p l e (rmL 2) s m ([.ref (ad 0), .int a1] : List Value).toArray below meth c H locs 0 0 Q (F0 m 0 ls []) by rw [hH, hlc] at h0; exact h0
  clear hH hlc
  unfold f11_sums at h
  have hJ_46 : ∀ (s11_j46 : OS) (H : Heap) (locs : List Loc) (ls : Array Slot), f11_sums_j46 s11_j46 = some r → Wd D (cellsM ad cy s11_j46) (Afr ad 66 s.heap.size) s.heap H locs → lv_has ls 2 [] → W p l e (rmL 2) s m ([.ref (ad 0), .int a1] : List Value).toArray below meth c H locs 0 0 Q (F0 m 46 ls []) := by
    intro s11_j46 H locs ls h hw hl
    unfold f11_sums_j46 at h
    have h := Option.some.inj h
    subst h
    rw [← hQ]
    exact retV hx hb hr hlk hw dX11_sums_46
  obtain ⟨n_0, hn_0⟩ := loop_e h
  have hL_0 : ∀ (n : Nat) (t_0 : OS) (H : Heap) (locs : List Loc) (ls : Array Slot), loopN (f11_sums_l0 a1) n t_0 = some r → Wd D (cellsM ad cy t_0) (Afr ad 66 s.heap.size) s.heap H locs → lv_has ls 2 [(1, .int a1), (0, .ref (ad 0))] → W p l e (rmL 2) s m ([.ref (ad 0), .int a1] : List Value).toArray below meth c H locs 0 0 Q (F0 m 0 ls []) := by
    intro n
    induction n with
    | zero => intro t_0 H locs ls hn; cases hn
    | succ n ih_0 =>
      intro t_0 H locs ls hn hw hl
      obtain ⟨x_0, h, hx_0⟩ := loopN_e hn
      unfold f11_sums_l0 at h
      have hJ_24 : ∀ (s11_j24 : OS) (H : Heap) (locs : List Loc) (ls : Array Slot), f11_sums_j24 a1 s11_j24 = some x_0 → Wd D (cellsM ad cy s11_j24) (Afr ad 66 s.heap.size) s.heap H locs → lv_has ls 2 [(0, .ref (ad 0)), (1, .int a1)] → W p l e (rmL 2) s m ([.ref (ad 0), .int a1] : List Value).toArray below meth c H locs 0 0 Q (F0 m 24 ls []) := by
        intro s11_j24 H locs ls h hw hl
        unfold f11_sums_j24 at h
        refine lv_aload_n hx hb dX11_sums_24 rfl (lv_at hl 0 rfl) ?_
        refine lv_aload_n hx hb dX11_sums_25 rfl (lv_at hl 0 rfl) ?_
        obtain ⟨q_26, h_26, h⟩ := bnd_e h
        have pg_26 := preG (av := [.ref (ad 0)]) hK hw.1 hw.2.1 NM_keep NM_blind
        refine endI (mc := 0) (ms := 0) (va_runV (As := []) (rest := [.ref (ad 0)]) ⟨hx, hb, hml, hown, hts⟩ (m11_top l D ad cy H.size s11_j24 q_26 h_26) (wX11_328 0 hts ⟨Nat.le_of_ble_eq_true rfl, Nat.le_of_ble_eq_true rfl⟩) ⟨pg_26.1, va_recv hK hw.1 (ci := 11) (q0 := 0) rfl eM_0, pg_26.2⟩ rfl rfl hl.1 rfl (lv_room (Nat.le_of_ble_eq_true rfl)) dX11_sums_26 ⟨Nat.le_refl _, Nat.le_refl _⟩) hw.2.2 (afr_in hw.2.2) (fun H locs hw => ?_)
        refine lv_iconst (v := 0) hx hb dX11_sums_29 (by decide) ?_
        obtain ⟨q_30, h_30, h⟩ := bnd_e h
        have pg_30 := preG (av := [.ref (ad 0), .int q_26, .int ((0 : Int32))]) hK hw.1 hw.2.1 NM_keep NM_blind
        refine endV (mc := 0) (ms := 0) (va_runV (As := [.int q_26, .int ((0 : Int32))]) (rest := []) ⟨hx, hb, hml, hown, hts⟩ (m11_emit l D ad cy H.size s11_j24 q_26 ((0 : Int32)) q_30 h_30) (wX11_337 1 hts ⟨Nat.le_of_ble_eq_true rfl, Nat.le_of_ble_eq_true rfl⟩) ⟨pg_30.1, va_recv hK hw.1 (ci := 11) (q0 := 0) rfl eM_0, pg_30.2⟩ rfl rfl hl.1 rfl (lv_room (Nat.le_of_ble_eq_true rfl)) dX11_sums_30 ⟨Nat.le_refl _, Nat.le_refl _⟩) hw.2.2 (afr_in hw.2.2) (fun H locs hw => ?_)
        refine lv_aload_n hx hb dX11_sums_33 rfl (lv_at hl 0 rfl) ?_
        refine lv_dup hx hb dX11_sums_34 rfl ?_
        refine gX11_304 hx hb hts hown hK hw dX11_sums_35 ?_
        refine lv_iconst (v := 1) hx hb dX11_sums_38 (by decide) ?_
        refine lv_isub hx hb dX11_sums_39 ?_
        obtain ⟨s11_40, e_40, h⟩ := nam_e h
        refine pX11_304 hx hb hts hown hK hw e_40 dX11_sums_40 (fun H locs hw => ?_)
        refine lv_goto (tgt := 0) hx hb dX11_sums_43 (by decide) ?_
        exact ih_0 s11_40 H locs ls (nx_l hx_0 h) hw (lv_sub hl [1, 0] rfl)
      refine lv_aload_n hx hb dX11_sums_0 rfl (lv_at hl 1 rfl) ?_
      obtain ⟨q_1, h_1, h⟩ := bnd_e h
      have pg_1 := preG (av := [.ref (ad 0)]) hK hw.1 hw.2.1 NM_keep NM_blind
      refine endI (mc := 0) (ms := 0) (va_runV (As := []) (rest := []) ⟨hx, hb, hml, hown, hts⟩ (m11_top l D ad cy H.size t_0 q_1 h_1) (wX11_328 0 hts ⟨Nat.le_of_ble_eq_true rfl, Nat.le_of_ble_eq_true rfl⟩) ⟨pg_1.1, va_recv hK hw.1 (ci := 11) (q0 := 0) rfl eM_0, pg_1.2⟩ rfl rfl hl.1 rfl (lv_room (Nat.le_of_ble_eq_true rfl)) dX11_sums_1 ⟨Nat.le_refl _, Nat.le_refl _⟩) hw.2.2 (afr_in hw.2.2) (fun H locs hw => ?_)
      obtain ⟨q_4, h_4, h⟩ := bnd_e h
      have pg_4 := preG (av := [.int q_1]) hK hw.1 hw.2.1 NM_keep NM_blind
      refine endI (mc := 0) (ms := 0) (va_runS (As := [.int q_1]) (rest := []) ⟨hx, hb, hml, hown, hts⟩ (m11_isTimes l D ad cy H.size t_0 q_1 q_4 h_4) (wX11_331 0 hts ⟨Nat.le_of_ble_eq_true rfl, Nat.le_of_ble_eq_true rfl⟩) pg_4 rfl rfl hl.1 rfl (lv_room (Nat.le_of_ble_eq_true rfl)) dX11_sums_4 ⟨Nat.le_refl _, Nat.le_refl _⟩) hw.2.2 (afr_in hw.2.2) (fun H locs hw => ?_)
      refine lv_if_ne (tgt := 24) hx hb dX11_sums_7 (by decide) (fun c_7 => ?_) (fun c_7 => ?_)
      · have h := ite_f c_7 h
        exact hJ_24 t_0 H locs ls h hw (lv_sub hl [1, 0] rfl)
      · have h := ite_t c_7 h
        refine lv_iload_n hx hb dX11_sums_10 rfl (lv_at hl 0 rfl) ?_
        refine lv_if_eq (tgt := 46) hx hb dX11_sums_11 (by decide) (fun c_11 => ?_) (fun c_11 => ?_)
        · have h := ite_t c_11 h
          have h := nx_m hx_0 h
          exact hJ_46 t_0 H locs ls h hw (lv_sub hl [] rfl)
        · have h := ite_f c_11 h
          refine lv_aload_n hx hb dX11_sums_14 rfl (lv_at hl 1 rfl) ?_
          obtain ⟨q_15, h_15, h⟩ := bnd_e h
          have pg_15 := preG (av := [.ref (ad 0)]) hK hw.1 hw.2.1 NM_keep NM_blind
          refine endI (mc := 0) (ms := 0) (va_runV (As := []) (rest := []) ⟨hx, hb, hml, hown, hts⟩ (m11_top l D ad cy H.size t_0 q_15 h_15) (wX11_328 0 hts ⟨Nat.le_of_ble_eq_true rfl, Nat.le_of_ble_eq_true rfl⟩) ⟨pg_15.1, va_recv hK hw.1 (ci := 11) (q0 := 0) rfl eM_0, pg_15.2⟩ rfl rfl hl.1 rfl (lv_room (Nat.le_of_ble_eq_true rfl)) dX11_sums_15 ⟨Nat.le_refl _, Nat.le_refl _⟩) hw.2.2 (afr_in hw.2.2) (fun H locs hw => ?_)
          obtain ⟨q_18, h_18, h⟩ := bnd_e h
          have pg_18 := preG (av := [.int q_15]) hK hw.1 hw.2.1 NM_keep NM_blind
          refine endI (mc := 0) (ms := 0) (va_runS (As := [.int q_15]) (rest := []) ⟨hx, hb, hml, hown, hts⟩ (m11_isPlus l D ad cy H.size t_0 q_15 q_18 h_18) (wX11_334 0 hts ⟨Nat.le_of_ble_eq_true rfl, Nat.le_of_ble_eq_true rfl⟩) pg_18 rfl rfl hl.1 rfl (lv_room (Nat.le_of_ble_eq_true rfl)) dX11_sums_18 ⟨Nat.le_refl _, Nat.le_refl _⟩) hw.2.2 (afr_in hw.2.2) (fun H locs hw => ?_)
          refine lv_if_eq (tgt := 46) hx hb dX11_sums_21 (by decide) (fun c_21 => ?_) (fun c_21 => ?_)
          · have h := ite_t c_21 h
            have h := nx_m hx_0 h
            exact hJ_46 t_0 H locs ls h hw (lv_sub hl [] rfl)
          · have h := ite_f c_21 h
            exact hJ_24 t_0 H locs ls h hw (lv_sub hl [1, 0] rfl)
  exact hL_0 n_0 s11 H locs ls hn_0 hw (lv_sub hl [1, 0] rfl)
theorem dX11_goesOn_0 : decode cX11_goesOn 0 = .ok (.aload_n 0, 1) := by decide +kernel
theorem dX11_goesOn_1 : decode cX11_goesOn 1 = .ok (.invokevirtual 314, 3) := by decide +kernel
theorem dX11_goesOn_4 : decode cX11_goesOn 4 = .ok (.istore_n 1, 1) := by decide +kernel
theorem dX11_goesOn_5 : decode cX11_goesOn 5 = .ok (.iload_n 1, 1) := by decide +kernel
theorem dX11_goesOn_6 : decode cX11_goesOn 6 = .ok (.invokestatic 331, 3) := by decide +kernel
theorem dX11_goesOn_9 : decode cX11_goesOn 9 = .ok (.ifCond .ne 10, 3) := by decide +kernel
theorem dX11_goesOn_12 : decode cX11_goesOn 12 = .ok (.iload_n 1, 1) := by decide +kernel
theorem dX11_goesOn_13 : decode cX11_goesOn 13 = .ok (.invokestatic 334, 3) := by decide +kernel
theorem dX11_goesOn_16 : decode cX11_goesOn 16 = .ok (.ifCond .eq 18, 3) := by decide +kernel
theorem dX11_goesOn_19 : decode cX11_goesOn 19 = .ok (.aload_n 0, 1) := by decide +kernel
theorem dX11_goesOn_20 : decode cX11_goesOn 20 = .ok (.iload_n 1, 1) := by decide +kernel
theorem dX11_goesOn_21 : decode cX11_goesOn 21 = .ok (.invokestatic 334, 3) := by decide +kernel
theorem dX11_goesOn_24 : decode cX11_goesOn 24 = .ok (.invokevirtual 350, 3) := by decide +kernel
theorem dX11_goesOn_27 : decode cX11_goesOn 27 = .ok (.aload_n 0, 1) := by decide +kernel
theorem dX11_goesOn_28 : decode cX11_goesOn 28 = .ok (.iload_n 1, 1) := by decide +kernel
theorem dX11_goesOn_29 : decode cX11_goesOn 29 = .ok (.invokevirtual 318, 3) := by decide +kernel
theorem dX11_goesOn_32 : decode cX11_goesOn 32 = .ok (.iconst 1, 1) := by decide +kernel
theorem dX11_goesOn_33 : decode cX11_goesOn 33 = .ok (.ireturn, 1) := by decide +kernel
theorem dX11_goesOn_34 : decode cX11_goesOn 34 = .ok (.aload_n 0, 1) := by decide +kernel
theorem dX11_goesOn_35 : decode cX11_goesOn 35 = .ok (.iconst 1, 1) := by decide +kernel
theorem dX11_goesOn_36 : decode cX11_goesOn 36 = .ok (.invokevirtual 350, 3) := by decide +kernel
theorem dX11_goesOn_39 : decode cX11_goesOn 39 = .ok (.iload_n 1, 1) := by decide +kernel
theorem dX11_goesOn_40 : decode cX11_goesOn 40 = .ok (.bipush 93, 2) := by decide +kernel
theorem dX11_goesOn_42 : decode cX11_goesOn 42 = .ok (.if_icmp .ne 60, 3) := by decide +kernel
theorem dX11_goesOn_45 : decode cX11_goesOn 45 = .ok (.aload_n 0, 1) := by decide +kernel
theorem dX11_goesOn_46 : decode cX11_goesOn 46 = .ok (.invokevirtual 328, 3) := by decide +kernel
theorem dX11_goesOn_49 : decode cX11_goesOn 49 = .ok (.bipush 91, 2) := by decide +kernel
theorem dX11_goesOn_51 : decode cX11_goesOn 51 = .ok (.if_icmp .eq 14, 3) := by decide +kernel
theorem dX11_goesOn_54 : decode cX11_goesOn 54 = .ok (.aload_n 0, 1) := by decide +kernel
theorem dX11_goesOn_55 : decode cX11_goesOn 55 = .ok (.iconst 1, 1) := by decide +kernel
theorem dX11_goesOn_56 : decode cX11_goesOn 56 = .ok (.aload_n 0, 1) := by decide +kernel
theorem dX11_goesOn_57 : decode cX11_goesOn 57 = .ok (.getfield 285, 3) := by decide +kernel
theorem dX11_goesOn_60 : decode cX11_goesOn 60 = .ok (.invokevirtual 310, 3) := by decide +kernel
theorem dX11_goesOn_63 : decode cX11_goesOn 63 = .ok (.iconst 0, 1) := by decide +kernel
theorem dX11_goesOn_64 : decode cX11_goesOn 64 = .ok (.ireturn, 1) := by decide +kernel
theorem dX11_goesOn_65 : decode cX11_goesOn 65 = .ok (.aload_n 0, 1) := by decide +kernel
theorem dX11_goesOn_66 : decode cX11_goesOn 66 = .ok (.dup, 1) := by decide +kernel
theorem dX11_goesOn_67 : decode cX11_goesOn 67 = .ok (.getfield 304, 3) := by decide +kernel
theorem dX11_goesOn_70 : decode cX11_goesOn 70 = .ok (.iconst 1, 1) := by decide +kernel
theorem dX11_goesOn_71 : decode cX11_goesOn 71 = .ok (.isub, 1) := by decide +kernel
theorem dX11_goesOn_72 : decode cX11_goesOn 72 = .ok (.putfield 304, 3) := by decide +kernel
theorem dX11_goesOn_75 : decode cX11_goesOn 75 = .ok (.aload_n 0, 1) := by decide +kernel
theorem dX11_goesOn_76 : decode cX11_goesOn 76 = .ok (.dup, 1) := by decide +kernel
theorem dX11_goesOn_77 : decode cX11_goesOn 77 = .ok (.getfield 307, 3) := by decide +kernel
theorem dX11_goesOn_80 : decode cX11_goesOn 80 = .ok (.iconst 1, 1) := by decide +kernel
theorem dX11_goesOn_81 : decode cX11_goesOn 81 = .ok (.isub, 1) := by decide +kernel
theorem dX11_goesOn_82 : decode cX11_goesOn 82 = .ok (.putfield 307, 3) := by decide +kernel
theorem dX11_goesOn_85 : decode cX11_goesOn 85 = .ok (.aload_n 0, 1) := by decide +kernel
theorem dX11_goesOn_86 : decode cX11_goesOn 86 = .ok (.dup, 1) := by decide +kernel
theorem dX11_goesOn_87 : decode cX11_goesOn 87 = .ok (.getfield 285, 3) := by decide +kernel
theorem dX11_goesOn_90 : decode cX11_goesOn 90 = .ok (.iconst 1, 1) := by decide +kernel
theorem dX11_goesOn_91 : decode cX11_goesOn 91 = .ok (.iadd, 1) := by decide +kernel
theorem dX11_goesOn_92 : decode cX11_goesOn 92 = .ok (.putfield 285, 3) := by decide +kernel
theorem dX11_goesOn_95 : decode cX11_goesOn 95 = .ok (.aload_n 0, 1) := by decide +kernel
theorem dX11_goesOn_96 : decode cX11_goesOn 96 = .ok (.iconst 1, 1) := by decide +kernel
theorem dX11_goesOn_97 : decode cX11_goesOn 97 = .ok (.putfield 354, 3) := by decide +kernel
theorem dX11_goesOn_100 : decode cX11_goesOn 100 = .ok (.iconst 1, 1) := by decide +kernel
theorem dX11_goesOn_101 : decode cX11_goesOn 101 = .ok (.ireturn, 1) := by decide +kernel
theorem dX11_goesOn_102 : decode cX11_goesOn 102 = .ok (.iload_n 1, 1) := by decide +kernel
theorem dX11_goesOn_103 : decode cX11_goesOn 103 = .ok (.invokestatic 358, 3) := by decide +kernel
theorem dX11_goesOn_106 : decode cX11_goesOn 106 = .ok (.ifCond .eq 38, 3) := by decide +kernel
theorem dX11_goesOn_109 : decode cX11_goesOn 109 = .ok (.aload_n 0, 1) := by decide +kernel
theorem dX11_goesOn_110 : decode cX11_goesOn 110 = .ok (.invokevirtual 328, 3) := by decide +kernel
theorem dX11_goesOn_113 : decode cX11_goesOn 113 = .ok (.bipush 91, 2) := by decide +kernel
theorem dX11_goesOn_115 : decode cX11_goesOn 115 = .ok (.if_icmp .eq 13, 3) := by decide +kernel
theorem dX11_goesOn_118 : decode cX11_goesOn 118 = .ok (.aload_n 0, 1) := by decide +kernel
theorem dX11_goesOn_119 : decode cX11_goesOn 119 = .ok (.invokevirtual 328, 3) := by decide +kernel
theorem dX11_goesOn_122 : decode cX11_goesOn 122 = .ok (.invokestatic 358, 3) := by decide +kernel
theorem dX11_goesOn_125 : decode cX11_goesOn 125 = .ok (.ifCond .eq 12, 3) := by decide +kernel
theorem dX11_goesOn_128 : decode cX11_goesOn 128 = .ok (.aload_n 0, 1) := by decide +kernel
theorem dX11_goesOn_129 : decode cX11_goesOn 129 = .ok (.iconst 1, 1) := by decide +kernel
theorem dX11_goesOn_130 : decode cX11_goesOn 130 = .ok (.aload_n 0, 1) := by decide +kernel
theorem dX11_goesOn_131 : decode cX11_goesOn 131 = .ok (.getfield 285, 3) := by decide +kernel
theorem dX11_goesOn_134 : decode cX11_goesOn 134 = .ok (.invokevirtual 310, 3) := by decide +kernel
theorem dX11_goesOn_137 : decode cX11_goesOn 137 = .ok (.aload_n 0, 1) := by decide +kernel
theorem dX11_goesOn_138 : decode cX11_goesOn 138 = .ok (.iload_n 1, 1) := by decide +kernel
theorem dX11_goesOn_139 : decode cX11_goesOn 139 = .ok (.invokevirtual 318, 3) := by decide +kernel
theorem dX11_goesOn_142 : decode cX11_goesOn 142 = .ok (.iconst 1, 1) := by decide +kernel
theorem dX11_goesOn_143 : decode cX11_goesOn 143 = .ok (.ireturn, 1) := by decide +kernel
theorem dX11_goesOn_144 : decode cX11_goesOn 144 = .ok (.aload_n 0, 1) := by decide +kernel
theorem dX11_goesOn_145 : decode cX11_goesOn 145 = .ok (.invokevirtual 328, 3) := by decide +kernel
theorem dX11_goesOn_148 : decode cX11_goesOn 148 = .ok (.invokestatic 358, 3) := by decide +kernel
theorem dX11_goesOn_151 : decode cX11_goesOn 151 = .ok (.ifCond .eq 25, 3) := by decide +kernel
theorem dX11_goesOn_154 : decode cX11_goesOn 154 = .ok (.aload_n 0, 1) := by decide +kernel
theorem dX11_goesOn_155 : decode cX11_goesOn 155 = .ok (.aload_n 0, 1) := by decide +kernel
theorem dX11_goesOn_156 : decode cX11_goesOn 156 = .ok (.invokevirtual 328, 3) := by decide +kernel
theorem dX11_goesOn_159 : decode cX11_goesOn 159 = .ok (.iconst 0, 1) := by decide +kernel
theorem dX11_goesOn_160 : decode cX11_goesOn 160 = .ok (.invokevirtual 337, 3) := by decide +kernel
theorem dX11_goesOn_163 : decode cX11_goesOn 163 = .ok (.aload_n 0, 1) := by decide +kernel
theorem dX11_goesOn_164 : decode cX11_goesOn 164 = .ok (.dup, 1) := by decide +kernel
theorem dX11_goesOn_165 : decode cX11_goesOn 165 = .ok (.getfield 304, 3) := by decide +kernel
theorem dX11_goesOn_168 : decode cX11_goesOn 168 = .ok (.iconst 1, 1) := by decide +kernel
theorem dX11_goesOn_169 : decode cX11_goesOn 169 = .ok (.isub, 1) := by decide +kernel
theorem dX11_goesOn_170 : decode cX11_goesOn 170 = .ok (.putfield 304, 3) := by decide +kernel
theorem dX11_goesOn_173 : decode cX11_goesOn 173 = .ok (.goto 12, 3) := by decide +kernel
theorem dX11_goesOn_176 : decode cX11_goesOn 176 = .ok (.aload_n 0, 1) := by decide +kernel
theorem dX11_goesOn_177 : decode cX11_goesOn 177 = .ok (.iconst 1, 1) := by decide +kernel
theorem dX11_goesOn_178 : decode cX11_goesOn 178 = .ok (.aload_n 0, 1) := by decide +kernel
theorem dX11_goesOn_179 : decode cX11_goesOn 179 = .ok (.getfield 285, 3) := by decide +kernel
theorem dX11_goesOn_182 : decode cX11_goesOn 182 = .ok (.invokevirtual 310, 3) := by decide +kernel
theorem dX11_goesOn_185 : decode cX11_goesOn 185 = .ok (.iconst 0, 1) := by decide +kernel
theorem dX11_goesOn_186 : decode cX11_goesOn 186 = .ok (.ireturn, 1) := by decide +kernel
noncomputable def f11_goesOn_j185 (s11_j185 : OS) : Option (Int32 × OS) := some ((0 : Int32), s11_j185)
noncomputable def f11_goesOn_j137 (v1_j137 : Int32) (s11_j137 : OS) : Option (Int32 × OS) := Option.bind (f11_puts v1_j137 s11_j137) fun q_139 => some ((1 : Int32), q_139)
noncomputable def f11_goesOn_j128 (v1_j128 : Int32) (s11_j128 : OS) : Option (Int32 × OS) := Option.bind (f11_wrongs ((1 : Int32)) ((s11_j128.1 0 43)) s11_j128) fun q_134 => f11_goesOn_j137 v1_j128 q_134
noncomputable def f11_goesOn_j19 (v1_j19 : Int32) (s11_j19 : OS) : Option (Int32 × OS) := Option.bind (f11_isPlus v1_j19) fun q_21 => Option.bind (f11_sums q_21 s11_j19) fun q_24 => Option.bind (f11_puts v1_j19 q_24) fun q_29 => some ((1 : Int32), q_29)
noncomputable def f11_goesOn (s11 : OS) : Option (Int32 × OS) := Option.bind (f11_here s11) fun q_1 => Option.bind (f11_isTimes q_1) fun q_6 => if q_6 = 0 then (Option.bind (f11_isPlus q_1) fun q_13 => if q_13 = 0 then (Option.bind (f11_sums ((1 : Int32)) s11) fun q_36 => if q_1 = (93 : Int32) then (Option.bind (f11_top q_36) fun q_46 => if q_46 = (91 : Int32) then (nm (wI q_36 0 49 (((q_36.1 0 49) - (1 : Int32)))) fun s11_72 => nm (wI s11_72 0 48 (((s11_72.1 0 48) - (1 : Int32)))) fun s11_82 => nm (wI s11_82 0 43 (((s11_82.1 0 43) + (1 : Int32)))) fun s11_92 => nm (wI s11_92 0 51 ((1 : Int32))) fun s11_97 => some ((1 : Int32), s11_97)) else (Option.bind (f11_wrongs ((1 : Int32)) ((q_36.1 0 43)) q_36) fun q_60 => some ((0 : Int32), q_60))) else (Option.bind (f11_isSign q_1) fun q_103 => if q_103 = 0 then (Option.bind (f11_top q_36) fun q_145 => Option.bind (f11_isSign q_145) fun q_148 => if q_148 = 0 then (Option.bind (f11_wrongs ((1 : Int32)) ((q_36.1 0 43)) q_36) fun q_182 => f11_goesOn_j185 q_182) else (Option.bind (f11_top q_36) fun q_156 => Option.bind (f11_emit q_156 ((0 : Int32)) q_36) fun q_160 => nm (wI q_160 0 49 (((q_160.1 0 49) - (1 : Int32)))) fun s11_170 => f11_goesOn_j185 s11_170)) else (Option.bind (f11_top q_36) fun q_110 => if q_110 = (91 : Int32) then (f11_goesOn_j128 q_1 q_36) else (Option.bind (f11_top q_36) fun q_119 => Option.bind (f11_isSign q_119) fun q_122 => if q_122 = 0 then (f11_goesOn_j137 q_1 q_36) else (f11_goesOn_j128 q_1 q_36))))) else (f11_goesOn_j19 q_1 s11)) else (f11_goesOn_j19 q_1 s11)
set_option maxHeartbeats 4000000 in
set_option maxRecDepth 100000 in
theorem m11_goesOn (l : Launch) (D : va_G) (ad : Nat → Nat) (cy : Nat → ClassId) (sz : Nat) (s11 : OS) (r : Int32 × OS) (h : f11_goesOn s11 = some r) : Met l yX11_goesOn (wsOf yX11_goesOn cX11_goesOn 2 (some .boolean)) (rmL 3) (va_Pc ([.ref (ad 0)] : List Value) (PreG D cy (cellsM ad cy s11) sz NM)) (QcI D ad 66 (cellsM ad cy r.2) (r.1) sz) 0 0 (Afr ad 66 sz) := by
  refine metG (own := RX11) (by decide) rfl (Nat.le_of_ble_eq_true rfl) fstM ?_ sz
  intro p e s m below meth c ls C0 hw hl
  obtain ⟨hx, hb, hml, hown, hts, hr, hlk, hK, hN⟩ := C0
  have hl : lv_has ls 2 [(0, .ref (ad 0))] := hl
  generalize hQ : MQ below (QcI D ad 66 (cellsM ad cy r.2) (r.1) s.heap.size) ([.ref (ad 0)] : List Value).toArray s 0 0 (Afr ad 66 s.heap.size) = Q
  obtain ⟨H, hH⟩ : ∃ H : Heap, H = s.heap := ⟨_, rfl⟩
  obtain ⟨locs, hlc⟩ : ∃ L : List Loc, L = [] := ⟨_, rfl⟩
  have hw : Wd D (cellsM ad cy s11) (Afr ad 66 s.heap.size) s.heap H locs := by rw [hH, hlc]; exact hw
  suffices h0 : W p l e (rmL 3) s m ([.ref (ad 0)] : List Value).toArray below meth c H locs 0 0 Q (F0 m 0 ls []) by rw [hH, hlc] at h0; exact h0
  clear hH hlc
  unfold f11_goesOn at h
  have hJ_185 : ∀ (s11_j185 : OS) (H : Heap) (locs : List Loc) (ls : Array Slot), f11_goesOn_j185 s11_j185 = some r → Wd D (cellsM ad cy s11_j185) (Afr ad 66 s.heap.size) s.heap H locs → lv_has ls 2 [] → W p l e (rmL 3) s m ([.ref (ad 0)] : List Value).toArray below meth c H locs 0 0 Q (F0 m 185 ls []) := by
    intro s11_j185 H locs ls h hw hl
    unfold f11_goesOn_j185 at h
    refine lv_iconst (v := 0) hx hb dX11_goesOn_185 (by decide) ?_
    have h := Option.some.inj h
    subst h
    rw [← hQ]
    exact retI hx hb hr hlk hw (narB (v := (0 : Int32)) (by decide)) dX11_goesOn_186
  have hJ_137 : ∀ (v1_j137 : Int32) (s11_j137 : OS) (H : Heap) (locs : List Loc) (ls : Array Slot), f11_goesOn_j137 v1_j137 s11_j137 = some r → Wd D (cellsM ad cy s11_j137) (Afr ad 66 s.heap.size) s.heap H locs → lv_has ls 2 [(0, .ref (ad 0)), (1, .int v1_j137)] → W p l e (rmL 3) s m ([.ref (ad 0)] : List Value).toArray below meth c H locs 0 0 Q (F0 m 137 ls []) := by
    intro v1_j137 s11_j137 H locs ls h hw hl
    unfold f11_goesOn_j137 at h
    refine lv_aload_n hx hb dX11_goesOn_137 rfl (lv_at hl 0 rfl) ?_
    refine lv_iload_n hx hb dX11_goesOn_138 rfl (lv_at hl 1 rfl) ?_
    obtain ⟨q_139, h_139, h⟩ := bnd_e h
    have pg_139 := preG (av := [.ref (ad 0), .int v1_j137]) hK hw.1 hw.2.1 NM_keep NM_blind
    refine endV (mc := 0) (ms := 0) (va_runV (As := [.int v1_j137]) (rest := []) ⟨hx, hb, hml, hown, hts⟩ (m11_puts l D ad cy H.size s11_j137 v1_j137 q_139 h_139) (wX11_318 0 hts ⟨Nat.le_of_ble_eq_true rfl, Nat.le_of_ble_eq_true rfl⟩) ⟨pg_139.1, va_recv hK hw.1 (ci := 11) (q0 := 0) rfl eM_0, pg_139.2⟩ rfl rfl hl.1 rfl (lv_room (Nat.le_of_ble_eq_true rfl)) dX11_goesOn_139 ⟨Nat.le_refl _, Nat.le_refl _⟩) hw.2.2 (afr_in hw.2.2) (fun H locs hw => ?_)
    refine lv_iconst (v := 1) hx hb dX11_goesOn_142 (by decide) ?_
    have h := Option.some.inj h
    subst h
    rw [← hQ]
    exact retI hx hb hr hlk hw (narB (v := (1 : Int32)) (by decide)) dX11_goesOn_143
  have hJ_128 : ∀ (v1_j128 : Int32) (s11_j128 : OS) (H : Heap) (locs : List Loc) (ls : Array Slot), f11_goesOn_j128 v1_j128 s11_j128 = some r → Wd D (cellsM ad cy s11_j128) (Afr ad 66 s.heap.size) s.heap H locs → lv_has ls 2 [(0, .ref (ad 0)), (1, .int v1_j128)] → W p l e (rmL 3) s m ([.ref (ad 0)] : List Value).toArray below meth c H locs 0 0 Q (F0 m 128 ls []) := by
    intro v1_j128 s11_j128 H locs ls h hw hl
    unfold f11_goesOn_j128 at h
    refine lv_aload_n hx hb dX11_goesOn_128 rfl (lv_at hl 0 rfl) ?_
    refine lv_iconst (v := 1) hx hb dX11_goesOn_129 (by decide) ?_
    refine lv_aload_n hx hb dX11_goesOn_130 rfl (lv_at hl 0 rfl) ?_
    refine gX11_285 hx hb hts hown hK hw dX11_goesOn_131 ?_
    obtain ⟨q_134, h_134, h⟩ := bnd_e h
    have pg_134 := preG (av := [.ref (ad 0), .int ((1 : Int32)), .int ((s11_j128.1 0 43))]) hK hw.1 hw.2.1 NM_keep NM_blind
    refine endV (mc := 0) (ms := 0) (va_runV (As := [.int ((1 : Int32)), .int ((s11_j128.1 0 43))]) (rest := []) ⟨hx, hb, hml, hown, hts⟩ (m11_wrongs l D ad cy H.size s11_j128 ((1 : Int32)) ((s11_j128.1 0 43)) q_134 h_134) (wX11_310 0 hts ⟨Nat.le_of_ble_eq_true rfl, Nat.le_of_ble_eq_true rfl⟩) ⟨pg_134.1, va_recv hK hw.1 (ci := 11) (q0 := 0) rfl eM_0, pg_134.2⟩ rfl rfl hl.1 rfl (lv_room (Nat.le_of_ble_eq_true rfl)) dX11_goesOn_134 ⟨Nat.le_refl _, Nat.le_refl _⟩) hw.2.2 (afr_in hw.2.2) (fun H locs hw => ?_)
    exact hJ_137 v1_j128 q_134 H locs ls h hw (lv_sub hl [0, 1] rfl)
  have hJ_19 : ∀ (v1_j19 : Int32) (s11_j19 : OS) (H : Heap) (locs : List Loc) (ls : Array Slot), f11_goesOn_j19 v1_j19 s11_j19 = some r → Wd D (cellsM ad cy s11_j19) (Afr ad 66 s.heap.size) s.heap H locs → lv_has ls 2 [(0, .ref (ad 0)), (1, .int v1_j19)] → W p l e (rmL 3) s m ([.ref (ad 0)] : List Value).toArray below meth c H locs 0 0 Q (F0 m 19 ls []) := by
    intro v1_j19 s11_j19 H locs ls h hw hl
    unfold f11_goesOn_j19 at h
    refine lv_aload_n hx hb dX11_goesOn_19 rfl (lv_at hl 0 rfl) ?_
    refine lv_iload_n hx hb dX11_goesOn_20 rfl (lv_at hl 1 rfl) ?_
    obtain ⟨q_21, h_21, h⟩ := bnd_e h
    have pg_21 := preG (av := [.int v1_j19]) hK hw.1 hw.2.1 NM_keep NM_blind
    refine endI (mc := 0) (ms := 0) (va_runS (As := [.int v1_j19]) (rest := [.ref (ad 0)]) ⟨hx, hb, hml, hown, hts⟩ (m11_isPlus l D ad cy H.size s11_j19 v1_j19 q_21 h_21) (wX11_334 0 hts ⟨Nat.le_of_ble_eq_true rfl, Nat.le_of_ble_eq_true rfl⟩) pg_21 rfl rfl hl.1 rfl (lv_room (Nat.le_of_ble_eq_true rfl)) dX11_goesOn_21 ⟨Nat.le_refl _, Nat.le_refl _⟩) hw.2.2 (afr_in hw.2.2) (fun H locs hw => ?_)
    obtain ⟨q_24, h_24, h⟩ := bnd_e h
    have pg_24 := preG (av := [.ref (ad 0), .int q_21]) hK hw.1 hw.2.1 NM_keep NM_blind
    refine endV (mc := 0) (ms := 0) (va_runV (As := [.int q_21]) (rest := []) ⟨hx, hb, hml, hown, hts⟩ (m11_sums l D ad cy H.size s11_j19 q_21 q_24 h_24) (wX11_350 2 hts ⟨Nat.le_of_ble_eq_true rfl, Nat.le_of_ble_eq_true rfl⟩) ⟨pg_24.1, va_recv hK hw.1 (ci := 11) (q0 := 0) rfl eM_0, pg_24.2⟩ rfl rfl hl.1 rfl (lv_room (Nat.le_of_ble_eq_true rfl)) dX11_goesOn_24 ⟨Nat.le_refl _, Nat.le_refl _⟩) hw.2.2 (afr_in hw.2.2) (fun H locs hw => ?_)
    refine lv_aload_n hx hb dX11_goesOn_27 rfl (lv_at hl 0 rfl) ?_
    refine lv_iload_n hx hb dX11_goesOn_28 rfl (lv_at hl 1 rfl) ?_
    obtain ⟨q_29, h_29, h⟩ := bnd_e h
    have pg_29 := preG (av := [.ref (ad 0), .int v1_j19]) hK hw.1 hw.2.1 NM_keep NM_blind
    refine endV (mc := 0) (ms := 0) (va_runV (As := [.int v1_j19]) (rest := []) ⟨hx, hb, hml, hown, hts⟩ (m11_puts l D ad cy H.size q_24 v1_j19 q_29 h_29) (wX11_318 0 hts ⟨Nat.le_of_ble_eq_true rfl, Nat.le_of_ble_eq_true rfl⟩) ⟨pg_29.1, va_recv hK hw.1 (ci := 11) (q0 := 0) rfl eM_0, pg_29.2⟩ rfl rfl hl.1 rfl (lv_room (Nat.le_of_ble_eq_true rfl)) dX11_goesOn_29 ⟨Nat.le_refl _, Nat.le_refl _⟩) hw.2.2 (afr_in hw.2.2) (fun H locs hw => ?_)
    refine lv_iconst (v := 1) hx hb dX11_goesOn_32 (by decide) ?_
    have h := Option.some.inj h
    subst h
    rw [← hQ]
    exact retI hx hb hr hlk hw (narB (v := (1 : Int32)) (by decide)) dX11_goesOn_33
  refine lv_aload_n hx hb dX11_goesOn_0 rfl (lv_at hl 0 rfl) ?_
  obtain ⟨q_1, h_1, h⟩ := bnd_e h
  have pg_1 := preG (av := [.ref (ad 0)]) hK hw.1 hw.2.1 NM_keep NM_blind
  refine endI (mc := 0) (ms := 0) (va_runV (As := []) (rest := []) ⟨hx, hb, hml, hown, hts⟩ (m11_here l D ad cy H.size s11 q_1 h_1) (wX11_314 0 hts ⟨Nat.le_of_ble_eq_true rfl, Nat.le_of_ble_eq_true rfl⟩) ⟨pg_1.1, va_recv hK hw.1 (ci := 11) (q0 := 0) rfl eM_0, pg_1.2⟩ rfl rfl hl.1 rfl (lv_room (Nat.le_of_ble_eq_true rfl)) dX11_goesOn_1 ⟨Nat.le_refl _, Nat.le_refl _⟩) hw.2.2 (afr_in hw.2.2) (fun H locs hw => ?_)
  refine lv_istore_n (lv' := [(1, .int q_1), (0, .ref (ad 0))]) hx hb dX11_goesOn_4 rfl hl (by decide) rfl (fun ls hl => ?_)
  refine lv_iload_n hx hb dX11_goesOn_5 rfl (lv_at hl 0 rfl) ?_
  obtain ⟨q_6, h_6, h⟩ := bnd_e h
  have pg_6 := preG (av := [.int q_1]) hK hw.1 hw.2.1 NM_keep NM_blind
  refine endI (mc := 0) (ms := 0) (va_runS (As := [.int q_1]) (rest := []) ⟨hx, hb, hml, hown, hts⟩ (m11_isTimes l D ad cy H.size s11 q_1 q_6 h_6) (wX11_331 0 hts ⟨Nat.le_of_ble_eq_true rfl, Nat.le_of_ble_eq_true rfl⟩) pg_6 rfl rfl hl.1 rfl (lv_room (Nat.le_of_ble_eq_true rfl)) dX11_goesOn_6 ⟨Nat.le_refl _, Nat.le_refl _⟩) hw.2.2 (afr_in hw.2.2) (fun H locs hw => ?_)
  refine lv_if_ne (tgt := 19) hx hb dX11_goesOn_9 (by decide) (fun c_9 => ?_) (fun c_9 => ?_)
  · have h := ite_f c_9 h
    exact hJ_19 q_1 s11 H locs ls h hw (lv_sub hl [1, 0] rfl)
  · have h := ite_t c_9 h
    refine lv_iload_n hx hb dX11_goesOn_12 rfl (lv_at hl 0 rfl) ?_
    obtain ⟨q_13, h_13, h⟩ := bnd_e h
    have pg_13 := preG (av := [.int q_1]) hK hw.1 hw.2.1 NM_keep NM_blind
    refine endI (mc := 0) (ms := 0) (va_runS (As := [.int q_1]) (rest := []) ⟨hx, hb, hml, hown, hts⟩ (m11_isPlus l D ad cy H.size s11 q_1 q_13 h_13) (wX11_334 0 hts ⟨Nat.le_of_ble_eq_true rfl, Nat.le_of_ble_eq_true rfl⟩) pg_13 rfl rfl hl.1 rfl (lv_room (Nat.le_of_ble_eq_true rfl)) dX11_goesOn_13 ⟨Nat.le_refl _, Nat.le_refl _⟩) hw.2.2 (afr_in hw.2.2) (fun H locs hw => ?_)
    refine lv_if_eq (tgt := 34) hx hb dX11_goesOn_16 (by decide) (fun c_16 => ?_) (fun c_16 => ?_)
    · have h := ite_t c_16 h
      refine lv_aload_n hx hb dX11_goesOn_34 rfl (lv_at hl 1 rfl) ?_
      refine lv_iconst (v := 1) hx hb dX11_goesOn_35 (by decide) ?_
      obtain ⟨q_36, h_36, h⟩ := bnd_e h
      have pg_36 := preG (av := [.ref (ad 0), .int ((1 : Int32))]) hK hw.1 hw.2.1 NM_keep NM_blind
      refine endV (mc := 0) (ms := 0) (va_runV (As := [.int ((1 : Int32))]) (rest := []) ⟨hx, hb, hml, hown, hts⟩ (m11_sums l D ad cy H.size s11 ((1 : Int32)) q_36 h_36) (wX11_350 2 hts ⟨Nat.le_of_ble_eq_true rfl, Nat.le_of_ble_eq_true rfl⟩) ⟨pg_36.1, va_recv hK hw.1 (ci := 11) (q0 := 0) rfl eM_0, pg_36.2⟩ rfl rfl hl.1 rfl (lv_room (Nat.le_of_ble_eq_true rfl)) dX11_goesOn_36 ⟨Nat.le_refl _, Nat.le_refl _⟩) hw.2.2 (afr_in hw.2.2) (fun H locs hw => ?_)
      refine lv_iload_n hx hb dX11_goesOn_39 rfl (lv_at hl 0 rfl) ?_
      refine lv_bipush (v := 93) hx hb dX11_goesOn_40 (by decide) ?_
      refine lv_icmp_ne (tgt := 102) hx hb dX11_goesOn_42 (by decide) (fun c_42 => ?_) (fun c_42 => ?_)
      · have h := ite_f c_42 h
        refine lv_iload_n hx hb dX11_goesOn_102 rfl (lv_at hl 0 rfl) ?_
        obtain ⟨q_103, h_103, h⟩ := bnd_e h
        have pg_103 := preG (av := [.int q_1]) hK hw.1 hw.2.1 NM_keep NM_blind
        refine endI (mc := 0) (ms := 0) (va_runS (As := [.int q_1]) (rest := []) ⟨hx, hb, hml, hown, hts⟩ (m11_isSign l D ad cy H.size q_36 q_1 q_103 h_103) (wX11_358 0 hts ⟨Nat.le_of_ble_eq_true rfl, Nat.le_of_ble_eq_true rfl⟩) pg_103 rfl rfl hl.1 rfl (lv_room (Nat.le_of_ble_eq_true rfl)) dX11_goesOn_103 ⟨Nat.le_refl _, Nat.le_refl _⟩) hw.2.2 (afr_in hw.2.2) (fun H locs hw => ?_)
        refine lv_if_eq (tgt := 144) hx hb dX11_goesOn_106 (by decide) (fun c_106 => ?_) (fun c_106 => ?_)
        · have h := ite_t c_106 h
          refine lv_aload_n hx hb dX11_goesOn_144 rfl (lv_at hl 1 rfl) ?_
          obtain ⟨q_145, h_145, h⟩ := bnd_e h
          have pg_145 := preG (av := [.ref (ad 0)]) hK hw.1 hw.2.1 NM_keep NM_blind
          refine endI (mc := 0) (ms := 0) (va_runV (As := []) (rest := []) ⟨hx, hb, hml, hown, hts⟩ (m11_top l D ad cy H.size q_36 q_145 h_145) (wX11_328 0 hts ⟨Nat.le_of_ble_eq_true rfl, Nat.le_of_ble_eq_true rfl⟩) ⟨pg_145.1, va_recv hK hw.1 (ci := 11) (q0 := 0) rfl eM_0, pg_145.2⟩ rfl rfl hl.1 rfl (lv_room (Nat.le_of_ble_eq_true rfl)) dX11_goesOn_145 ⟨Nat.le_refl _, Nat.le_refl _⟩) hw.2.2 (afr_in hw.2.2) (fun H locs hw => ?_)
          obtain ⟨q_148, h_148, h⟩ := bnd_e h
          have pg_148 := preG (av := [.int q_145]) hK hw.1 hw.2.1 NM_keep NM_blind
          refine endI (mc := 0) (ms := 0) (va_runS (As := [.int q_145]) (rest := []) ⟨hx, hb, hml, hown, hts⟩ (m11_isSign l D ad cy H.size q_36 q_145 q_148 h_148) (wX11_358 0 hts ⟨Nat.le_of_ble_eq_true rfl, Nat.le_of_ble_eq_true rfl⟩) pg_148 rfl rfl hl.1 rfl (lv_room (Nat.le_of_ble_eq_true rfl)) dX11_goesOn_148 ⟨Nat.le_refl _, Nat.le_refl _⟩) hw.2.2 (afr_in hw.2.2) (fun H locs hw => ?_)
          refine lv_if_eq (tgt := 176) hx hb dX11_goesOn_151 (by decide) (fun c_151 => ?_) (fun c_151 => ?_)
          · have h := ite_t c_151 h
            refine lv_aload_n hx hb dX11_goesOn_176 rfl (lv_at hl 1 rfl) ?_
            refine lv_iconst (v := 1) hx hb dX11_goesOn_177 (by decide) ?_
            refine lv_aload_n hx hb dX11_goesOn_178 rfl (lv_at hl 1 rfl) ?_
            refine gX11_285 hx hb hts hown hK hw dX11_goesOn_179 ?_
            obtain ⟨q_182, h_182, h⟩ := bnd_e h
            have pg_182 := preG (av := [.ref (ad 0), .int ((1 : Int32)), .int ((q_36.1 0 43))]) hK hw.1 hw.2.1 NM_keep NM_blind
            refine endV (mc := 0) (ms := 0) (va_runV (As := [.int ((1 : Int32)), .int ((q_36.1 0 43))]) (rest := []) ⟨hx, hb, hml, hown, hts⟩ (m11_wrongs l D ad cy H.size q_36 ((1 : Int32)) ((q_36.1 0 43)) q_182 h_182) (wX11_310 0 hts ⟨Nat.le_of_ble_eq_true rfl, Nat.le_of_ble_eq_true rfl⟩) ⟨pg_182.1, va_recv hK hw.1 (ci := 11) (q0 := 0) rfl eM_0, pg_182.2⟩ rfl rfl hl.1 rfl (lv_room (Nat.le_of_ble_eq_true rfl)) dX11_goesOn_182 ⟨Nat.le_refl _, Nat.le_refl _⟩) hw.2.2 (afr_in hw.2.2) (fun H locs hw => ?_)
            exact hJ_185 q_182 H locs ls h hw (lv_sub hl [] rfl)
          · have h := ite_f c_151 h
            refine lv_aload_n hx hb dX11_goesOn_154 rfl (lv_at hl 1 rfl) ?_
            refine lv_aload_n hx hb dX11_goesOn_155 rfl (lv_at hl 1 rfl) ?_
            obtain ⟨q_156, h_156, h⟩ := bnd_e h
            have pg_156 := preG (av := [.ref (ad 0)]) hK hw.1 hw.2.1 NM_keep NM_blind
            refine endI (mc := 0) (ms := 0) (va_runV (As := []) (rest := [.ref (ad 0)]) ⟨hx, hb, hml, hown, hts⟩ (m11_top l D ad cy H.size q_36 q_156 h_156) (wX11_328 0 hts ⟨Nat.le_of_ble_eq_true rfl, Nat.le_of_ble_eq_true rfl⟩) ⟨pg_156.1, va_recv hK hw.1 (ci := 11) (q0 := 0) rfl eM_0, pg_156.2⟩ rfl rfl hl.1 rfl (lv_room (Nat.le_of_ble_eq_true rfl)) dX11_goesOn_156 ⟨Nat.le_refl _, Nat.le_refl _⟩) hw.2.2 (afr_in hw.2.2) (fun H locs hw => ?_)
            refine lv_iconst (v := 0) hx hb dX11_goesOn_159 (by decide) ?_
            obtain ⟨q_160, h_160, h⟩ := bnd_e h
            have pg_160 := preG (av := [.ref (ad 0), .int q_156, .int ((0 : Int32))]) hK hw.1 hw.2.1 NM_keep NM_blind
            refine endV (mc := 0) (ms := 0) (va_runV (As := [.int q_156, .int ((0 : Int32))]) (rest := []) ⟨hx, hb, hml, hown, hts⟩ (m11_emit l D ad cy H.size q_36 q_156 ((0 : Int32)) q_160 h_160) (wX11_337 1 hts ⟨Nat.le_of_ble_eq_true rfl, Nat.le_of_ble_eq_true rfl⟩) ⟨pg_160.1, va_recv hK hw.1 (ci := 11) (q0 := 0) rfl eM_0, pg_160.2⟩ rfl rfl hl.1 rfl (lv_room (Nat.le_of_ble_eq_true rfl)) dX11_goesOn_160 ⟨Nat.le_refl _, Nat.le_refl _⟩) hw.2.2 (afr_in hw.2.2) (fun H locs hw => ?_)
            refine lv_aload_n hx hb dX11_goesOn_163 rfl (lv_at hl 1 rfl) ?_
            refine lv_dup hx hb dX11_goesOn_164 rfl ?_
            refine gX11_304 hx hb hts hown hK hw dX11_goesOn_165 ?_
            refine lv_iconst (v := 1) hx hb dX11_goesOn_168 (by decide) ?_
            refine lv_isub hx hb dX11_goesOn_169 ?_
            obtain ⟨s11_170, e_170, h⟩ := nam_e h
            refine pX11_304 hx hb hts hown hK hw e_170 dX11_goesOn_170 (fun H locs hw => ?_)
            refine lv_goto (tgt := 185) hx hb dX11_goesOn_173 (by decide) ?_
            exact hJ_185 s11_170 H locs ls h hw (lv_sub hl [] rfl)
        · have h := ite_f c_106 h
          refine lv_aload_n hx hb dX11_goesOn_109 rfl (lv_at hl 1 rfl) ?_
          obtain ⟨q_110, h_110, h⟩ := bnd_e h
          have pg_110 := preG (av := [.ref (ad 0)]) hK hw.1 hw.2.1 NM_keep NM_blind
          refine endI (mc := 0) (ms := 0) (va_runV (As := []) (rest := []) ⟨hx, hb, hml, hown, hts⟩ (m11_top l D ad cy H.size q_36 q_110 h_110) (wX11_328 0 hts ⟨Nat.le_of_ble_eq_true rfl, Nat.le_of_ble_eq_true rfl⟩) ⟨pg_110.1, va_recv hK hw.1 (ci := 11) (q0 := 0) rfl eM_0, pg_110.2⟩ rfl rfl hl.1 rfl (lv_room (Nat.le_of_ble_eq_true rfl)) dX11_goesOn_110 ⟨Nat.le_refl _, Nat.le_refl _⟩) hw.2.2 (afr_in hw.2.2) (fun H locs hw => ?_)
          refine lv_bipush (v := 91) hx hb dX11_goesOn_113 (by decide) ?_
          refine lv_icmp_eq (tgt := 128) hx hb dX11_goesOn_115 (by decide) (fun c_115 => ?_) (fun c_115 => ?_)
          · have h := ite_t c_115 h
            exact hJ_128 q_1 q_36 H locs ls h hw (lv_sub hl [1, 0] rfl)
          · have h := ite_f c_115 h
            refine lv_aload_n hx hb dX11_goesOn_118 rfl (lv_at hl 1 rfl) ?_
            obtain ⟨q_119, h_119, h⟩ := bnd_e h
            have pg_119 := preG (av := [.ref (ad 0)]) hK hw.1 hw.2.1 NM_keep NM_blind
            refine endI (mc := 0) (ms := 0) (va_runV (As := []) (rest := []) ⟨hx, hb, hml, hown, hts⟩ (m11_top l D ad cy H.size q_36 q_119 h_119) (wX11_328 0 hts ⟨Nat.le_of_ble_eq_true rfl, Nat.le_of_ble_eq_true rfl⟩) ⟨pg_119.1, va_recv hK hw.1 (ci := 11) (q0 := 0) rfl eM_0, pg_119.2⟩ rfl rfl hl.1 rfl (lv_room (Nat.le_of_ble_eq_true rfl)) dX11_goesOn_119 ⟨Nat.le_refl _, Nat.le_refl _⟩) hw.2.2 (afr_in hw.2.2) (fun H locs hw => ?_)
            obtain ⟨q_122, h_122, h⟩ := bnd_e h
            have pg_122 := preG (av := [.int q_119]) hK hw.1 hw.2.1 NM_keep NM_blind
            refine endI (mc := 0) (ms := 0) (va_runS (As := [.int q_119]) (rest := []) ⟨hx, hb, hml, hown, hts⟩ (m11_isSign l D ad cy H.size q_36 q_119 q_122 h_122) (wX11_358 0 hts ⟨Nat.le_of_ble_eq_true rfl, Nat.le_of_ble_eq_true rfl⟩) pg_122 rfl rfl hl.1 rfl (lv_room (Nat.le_of_ble_eq_true rfl)) dX11_goesOn_122 ⟨Nat.le_refl _, Nat.le_refl _⟩) hw.2.2 (afr_in hw.2.2) (fun H locs hw => ?_)
            refine lv_if_eq (tgt := 137) hx hb dX11_goesOn_125 (by decide) (fun c_125 => ?_) (fun c_125 => ?_)
            · have h := ite_t c_125 h
              exact hJ_137 q_1 q_36 H locs ls h hw (lv_sub hl [1, 0] rfl)
            · have h := ite_f c_125 h
              exact hJ_128 q_1 q_36 H locs ls h hw (lv_sub hl [1, 0] rfl)
      · have h := ite_t c_42 h
        refine lv_aload_n hx hb dX11_goesOn_45 rfl (lv_at hl 1 rfl) ?_
        obtain ⟨q_46, h_46, h⟩ := bnd_e h
        have pg_46 := preG (av := [.ref (ad 0)]) hK hw.1 hw.2.1 NM_keep NM_blind
        refine endI (mc := 0) (ms := 0) (va_runV (As := []) (rest := []) ⟨hx, hb, hml, hown, hts⟩ (m11_top l D ad cy H.size q_36 q_46 h_46) (wX11_328 0 hts ⟨Nat.le_of_ble_eq_true rfl, Nat.le_of_ble_eq_true rfl⟩) ⟨pg_46.1, va_recv hK hw.1 (ci := 11) (q0 := 0) rfl eM_0, pg_46.2⟩ rfl rfl hl.1 rfl (lv_room (Nat.le_of_ble_eq_true rfl)) dX11_goesOn_46 ⟨Nat.le_refl _, Nat.le_refl _⟩) hw.2.2 (afr_in hw.2.2) (fun H locs hw => ?_)
        refine lv_bipush (v := 91) hx hb dX11_goesOn_49 (by decide) ?_
        refine lv_icmp_eq (tgt := 65) hx hb dX11_goesOn_51 (by decide) (fun c_51 => ?_) (fun c_51 => ?_)
        · have h := ite_t c_51 h
          refine lv_aload_n hx hb dX11_goesOn_65 rfl (lv_at hl 1 rfl) ?_
          refine lv_dup hx hb dX11_goesOn_66 rfl ?_
          refine gX11_304 hx hb hts hown hK hw dX11_goesOn_67 ?_
          refine lv_iconst (v := 1) hx hb dX11_goesOn_70 (by decide) ?_
          refine lv_isub hx hb dX11_goesOn_71 ?_
          obtain ⟨s11_72, e_72, h⟩ := nam_e h
          refine pX11_304 hx hb hts hown hK hw e_72 dX11_goesOn_72 (fun H locs hw => ?_)
          refine lv_aload_n hx hb dX11_goesOn_75 rfl (lv_at hl 1 rfl) ?_
          refine lv_dup hx hb dX11_goesOn_76 rfl ?_
          refine gX11_307 hx hb hts hown hK hw dX11_goesOn_77 ?_
          refine lv_iconst (v := 1) hx hb dX11_goesOn_80 (by decide) ?_
          refine lv_isub hx hb dX11_goesOn_81 ?_
          obtain ⟨s11_82, e_82, h⟩ := nam_e h
          refine pX11_307 hx hb hts hown hK hw e_82 dX11_goesOn_82 (fun H locs hw => ?_)
          refine lv_aload_n hx hb dX11_goesOn_85 rfl (lv_at hl 1 rfl) ?_
          refine lv_dup hx hb dX11_goesOn_86 rfl ?_
          refine gX11_285 hx hb hts hown hK hw dX11_goesOn_87 ?_
          refine lv_iconst (v := 1) hx hb dX11_goesOn_90 (by decide) ?_
          refine lv_iadd hx hb dX11_goesOn_91 ?_
          obtain ⟨s11_92, e_92, h⟩ := nam_e h
          refine pX11_285 hx hb hts hown hK hw e_92 dX11_goesOn_92 (fun H locs hw => ?_)
          refine lv_aload_n hx hb dX11_goesOn_95 rfl (lv_at hl 1 rfl) ?_
          refine lv_iconst (v := 1) hx hb dX11_goesOn_96 (by decide) ?_
          obtain ⟨s11_97, e_97, h⟩ := nam_e h
          refine pX11_354 hx hb hts hown hK hw e_97 rfl dX11_goesOn_97 (fun H locs hw => ?_)
          refine lv_iconst (v := 1) hx hb dX11_goesOn_100 (by decide) ?_
          have h := Option.some.inj h
          subst h
          rw [← hQ]
          exact retI hx hb hr hlk hw (narB (v := (1 : Int32)) (by decide)) dX11_goesOn_101
        · have h := ite_f c_51 h
          refine lv_aload_n hx hb dX11_goesOn_54 rfl (lv_at hl 1 rfl) ?_
          refine lv_iconst (v := 1) hx hb dX11_goesOn_55 (by decide) ?_
          refine lv_aload_n hx hb dX11_goesOn_56 rfl (lv_at hl 1 rfl) ?_
          refine gX11_285 hx hb hts hown hK hw dX11_goesOn_57 ?_
          obtain ⟨q_60, h_60, h⟩ := bnd_e h
          have pg_60 := preG (av := [.ref (ad 0), .int ((1 : Int32)), .int ((q_36.1 0 43))]) hK hw.1 hw.2.1 NM_keep NM_blind
          refine endV (mc := 0) (ms := 0) (va_runV (As := [.int ((1 : Int32)), .int ((q_36.1 0 43))]) (rest := []) ⟨hx, hb, hml, hown, hts⟩ (m11_wrongs l D ad cy H.size q_36 ((1 : Int32)) ((q_36.1 0 43)) q_60 h_60) (wX11_310 0 hts ⟨Nat.le_of_ble_eq_true rfl, Nat.le_of_ble_eq_true rfl⟩) ⟨pg_60.1, va_recv hK hw.1 (ci := 11) (q0 := 0) rfl eM_0, pg_60.2⟩ rfl rfl hl.1 rfl (lv_room (Nat.le_of_ble_eq_true rfl)) dX11_goesOn_60 ⟨Nat.le_refl _, Nat.le_refl _⟩) hw.2.2 (afr_in hw.2.2) (fun H locs hw => ?_)
          refine lv_iconst (v := 0) hx hb dX11_goesOn_63 (by decide) ?_
          have h := Option.some.inj h
          subst h
          rw [← hQ]
          exact retI hx hb hr hlk hw (narB (v := (0 : Int32)) (by decide)) dX11_goesOn_64
    · have h := ite_f c_16 h
      exact hJ_19 q_1 s11 H locs ls h hw (lv_sub hl [1, 0] rfl)
theorem dX11_pieceOfC_0 : decode cX11_pieceOfC 0 = .ok (.aload_n 0, 1) := by decide +kernel
theorem dX11_pieceOfC_1 : decode cX11_pieceOfC 1 = .ok (.invokevirtual 294, 3) := by decide +kernel
theorem dX11_pieceOfC_4 : decode cX11_pieceOfC 4 = .ok (.ifCond .eq 28, 3) := by decide +kernel
theorem dX11_pieceOfC_7 : decode cX11_pieceOfC 7 = .ok (.aload_n 0, 1) := by decide +kernel
theorem dX11_pieceOfC_8 : decode cX11_pieceOfC 8 = .ok (.invokevirtual 314, 3) := by decide +kernel
theorem dX11_pieceOfC_11 : decode cX11_pieceOfC 11 = .ok (.bipush 33, 2) := by decide +kernel
theorem dX11_pieceOfC_13 : decode cX11_pieceOfC 13 = .ok (.if_icmp .eq 12, 3) := by decide +kernel
theorem dX11_pieceOfC_16 : decode cX11_pieceOfC 16 = .ok (.aload_n 0, 1) := by decide +kernel
theorem dX11_pieceOfC_17 : decode cX11_pieceOfC 17 = .ok (.invokevirtual 314, 3) := by decide +kernel
theorem dX11_pieceOfC_20 : decode cX11_pieceOfC 20 = .ok (.bipush 40, 2) := by decide +kernel
theorem dX11_pieceOfC_22 : decode cX11_pieceOfC 22 = .ok (.if_icmp .ne 10, 3) := by decide +kernel
theorem dX11_pieceOfC_25 : decode cX11_pieceOfC 25 = .ok (.aload_n 0, 1) := by decide +kernel
theorem dX11_pieceOfC_26 : decode cX11_pieceOfC 26 = .ok (.invokevirtual 340, 3) := by decide +kernel
theorem dX11_pieceOfC_29 : decode cX11_pieceOfC 29 = .ok (.goto (-29), 3) := by decide +kernel
theorem dX11_pieceOfC_32 : decode cX11_pieceOfC 32 = .ok (.iconst 1, 1) := by decide +kernel
theorem dX11_pieceOfC_33 : decode cX11_pieceOfC 33 = .ok (.istore_n 1, 1) := by decide +kernel
theorem dX11_pieceOfC_34 : decode cX11_pieceOfC 34 = .ok (.aload_n 0, 1) := by decide +kernel
theorem dX11_pieceOfC_35 : decode cX11_pieceOfC 35 = .ok (.iconst 0, 1) := by decide +kernel
theorem dX11_pieceOfC_36 : decode cX11_pieceOfC 36 = .ok (.putfield 354, 3) := by decide +kernel
theorem dX11_pieceOfC_39 : decode cX11_pieceOfC 39 = .ok (.iload_n 1, 1) := by decide +kernel
theorem dX11_pieceOfC_40 : decode cX11_pieceOfC 40 = .ok (.ifCond .eq 49, 3) := by decide +kernel
theorem dX11_pieceOfC_43 : decode cX11_pieceOfC 43 = .ok (.aload_n 0, 1) := by decide +kernel
theorem dX11_pieceOfC_44 : decode cX11_pieceOfC 44 = .ok (.invokevirtual 294, 3) := by decide +kernel
theorem dX11_pieceOfC_47 : decode cX11_pieceOfC 47 = .ok (.ifCond .eq 42, 3) := by decide +kernel
theorem dX11_pieceOfC_50 : decode cX11_pieceOfC 50 = .ok (.aload_n 0, 1) := by decide +kernel
theorem dX11_pieceOfC_51 : decode cX11_pieceOfC 51 = .ok (.getfield 354, 3) := by decide +kernel
theorem dX11_pieceOfC_54 : decode cX11_pieceOfC 54 = .ok (.ifCond .ne 7, 3) := by decide +kernel
theorem dX11_pieceOfC_57 : decode cX11_pieceOfC 57 = .ok (.aload_n 0, 1) := by decide +kernel
theorem dX11_pieceOfC_58 : decode cX11_pieceOfC 58 = .ok (.invokevirtual 361, 3) := by decide +kernel
theorem dX11_pieceOfC_61 : decode cX11_pieceOfC 61 = .ok (.aload_n 0, 1) := by decide +kernel
theorem dX11_pieceOfC_62 : decode cX11_pieceOfC 62 = .ok (.iconst 0, 1) := by decide +kernel
theorem dX11_pieceOfC_63 : decode cX11_pieceOfC 63 = .ok (.putfield 354, 3) := by decide +kernel
theorem dX11_pieceOfC_66 : decode cX11_pieceOfC 66 = .ok (.aload_n 0, 1) := by decide +kernel
theorem dX11_pieceOfC_67 : decode cX11_pieceOfC 67 = .ok (.invokevirtual 294, 3) := by decide +kernel
theorem dX11_pieceOfC_70 : decode cX11_pieceOfC 70 = .ok (.ifCond .eq 14, 3) := by decide +kernel
theorem dX11_pieceOfC_73 : decode cX11_pieceOfC 73 = .ok (.aload_n 0, 1) := by decide +kernel
theorem dX11_pieceOfC_74 : decode cX11_pieceOfC 74 = .ok (.invokevirtual 364, 3) := by decide +kernel
theorem dX11_pieceOfC_77 : decode cX11_pieceOfC 77 = .ok (.ifCond .eq 7, 3) := by decide +kernel
theorem dX11_pieceOfC_80 : decode cX11_pieceOfC 80 = .ok (.iconst 1, 1) := by decide +kernel
theorem dX11_pieceOfC_81 : decode cX11_pieceOfC 81 = .ok (.goto 4, 3) := by decide +kernel
theorem dX11_pieceOfC_84 : decode cX11_pieceOfC 84 = .ok (.iconst 0, 1) := by decide +kernel
theorem dX11_pieceOfC_85 : decode cX11_pieceOfC 85 = .ok (.istore_n 1, 1) := by decide +kernel
theorem dX11_pieceOfC_86 : decode cX11_pieceOfC 86 = .ok (.goto (-47), 3) := by decide +kernel
theorem dX11_pieceOfC_89 : decode cX11_pieceOfC 89 = .ok (.aload_n 0, 1) := by decide +kernel
theorem dX11_pieceOfC_90 : decode cX11_pieceOfC 90 = .ok (.invokevirtual 294, 3) := by decide +kernel
theorem dX11_pieceOfC_93 : decode cX11_pieceOfC 93 = .ok (.ifCond .eq 7, 3) := by decide +kernel
theorem dX11_pieceOfC_96 : decode cX11_pieceOfC 96 = .ok (.aload_n 0, 1) := by decide +kernel
theorem dX11_pieceOfC_97 : decode cX11_pieceOfC 97 = .ok (.invokevirtual 367, 3) := by decide +kernel
theorem dX11_pieceOfC_100 : decode cX11_pieceOfC 100 = .ok (.return_, 1) := by decide +kernel
noncomputable def f11_pieceOfC_j100 (s11_j100 : OS) : Option (OS) := some s11_j100
noncomputable def f11_pieceOfC_j89 (s11_j89 : OS) : Option (OS) := Option.bind (f11_isGood s11_j89) fun q_90 => if q_90 = 0 then (f11_pieceOfC_j100 s11_j89) else (Option.bind (f11_ends s11_j89) fun q_97 => f11_pieceOfC_j100 q_97)
noncomputable def f11_pieceOfC_j85 (k0_j85 : Int32) (s11_j85 : OS) : Option ((Int32 × OS) ⊕ (OS)) := some (Sum.inl (k0_j85, s11_j85))
noncomputable def f11_pieceOfC_j84 (s11_j84 : OS) : Option ((Int32 × OS) ⊕ (OS)) := f11_pieceOfC_j85 ((0 : Int32)) s11_j84
noncomputable def f11_pieceOfC_j61 (s11_j61 : OS) : Option ((Int32 × OS) ⊕ (OS)) := nm (wI s11_j61 0 51 ((0 : Int32))) fun s11_63 => Option.bind (f11_isGood s11_63) fun q_67 => if q_67 = 0 then (f11_pieceOfC_j84 s11_63) else (Option.bind (f11_goesOn s11_63) fun q_74 => if q_74.1 = 0 then (f11_pieceOfC_j84 q_74.2) else (f11_pieceOfC_j85 ((1 : Int32)) q_74.2))
noncomputable def f11_pieceOfC_l39  : Int32 × OS → Option ((Int32 × OS) ⊕ (OS)) := fun t_39 => if t_39.1 = 0 then (Option.map Sum.inr (f11_pieceOfC_j89 t_39.2)) else (Option.bind (f11_isGood t_39.2) fun q_44 => if q_44 = 0 then (Option.map Sum.inr (f11_pieceOfC_j89 t_39.2)) else (if (t_39.2.1 0 51) = 0 then (Option.bind (f11_factor t_39.2) fun q_58 => f11_pieceOfC_j61 q_58) else (f11_pieceOfC_j61 t_39.2)))
noncomputable def f11_pieceOfC_j32 (s11_j32 : OS) : Option (OS) := nm (wI s11_j32 0 51 ((0 : Int32))) fun s11_36 => loop (f11_pieceOfC_l39) ((1 : Int32), s11_36)
noncomputable def f11_pieceOfC_j25 (s11_j25 : OS) : Option ((OS) ⊕ (OS)) := Option.bind (f11_opens s11_j25) fun q_26 => some (Sum.inl q_26)
noncomputable def f11_pieceOfC_l0  : OS → Option ((OS) ⊕ (OS)) := fun t_0 => Option.bind (f11_isGood t_0) fun q_1 => if q_1 = 0 then (Option.map Sum.inr (f11_pieceOfC_j32 t_0)) else (Option.bind (f11_here t_0) fun q_8 => if q_8 = (33 : Int32) then (f11_pieceOfC_j25 t_0) else (Option.bind (f11_here t_0) fun q_17 => if q_17 = (40 : Int32) then (f11_pieceOfC_j25 t_0) else (Option.map Sum.inr (f11_pieceOfC_j32 t_0))))
noncomputable def f11_pieceOfC (s11 : OS) : Option (OS) := loop (f11_pieceOfC_l0) s11
set_option maxHeartbeats 4000000 in
set_option maxRecDepth 100000 in
theorem m11_pieceOfC (l : Launch) (D : va_G) (ad : Nat → Nat) (cy : Nat → ClassId) (sz : Nat) (s11 : OS) (r : OS) (h : f11_pieceOfC s11 = some r) : Met l yX11_pieceOfC (wsOf yX11_pieceOfC cX11_pieceOfC 2 none) (rmL 4) (va_Pc ([.ref (ad 0)] : List Value) (PreG D cy (cellsM ad cy s11) sz NM)) (QcV D ad 66 (cellsM ad cy r) sz) 0 0 (Afr ad 66 sz) := by
  refine metG (own := RX11) (by decide) rfl (Nat.le_of_ble_eq_true rfl) fstM ?_ sz
  intro p e s m below meth c ls C0 hw hl
  obtain ⟨hx, hb, hml, hown, hts, hr, hlk, hK, hN⟩ := C0
  have hl : lv_has ls 2 [(0, .ref (ad 0))] := hl
  generalize hQ : MQ below (QcV D ad 66 (cellsM ad cy r) s.heap.size) ([.ref (ad 0)] : List Value).toArray s 0 0 (Afr ad 66 s.heap.size) = Q
  obtain ⟨H, hH⟩ : ∃ H : Heap, H = s.heap := ⟨_, rfl⟩
  obtain ⟨locs, hlc⟩ : ∃ L : List Loc, L = [] := ⟨_, rfl⟩
  have hw : Wd D (cellsM ad cy s11) (Afr ad 66 s.heap.size) s.heap H locs := by rw [hH, hlc]; exact hw
  suffices h0 : W p l e (rmL 4) s m ([.ref (ad 0)] : List Value).toArray below meth c H locs 0 0 Q (F0 m 0 ls []) by rw [hH, hlc] at h0; exact h0
  clear hH hlc
  unfold f11_pieceOfC at h
  have hJ_100 : ∀ (s11_j100 : OS) (H : Heap) (locs : List Loc) (ls : Array Slot), f11_pieceOfC_j100 s11_j100 = some r → Wd D (cellsM ad cy s11_j100) (Afr ad 66 s.heap.size) s.heap H locs → lv_has ls 2 [] → W p l e (rmL 4) s m ([.ref (ad 0)] : List Value).toArray below meth c H locs 0 0 Q (F0 m 100 ls []) := by
    intro s11_j100 H locs ls h hw hl
    unfold f11_pieceOfC_j100 at h
    have h := Option.some.inj h
    subst h
    rw [← hQ]
    exact retV hx hb hr hlk hw dX11_pieceOfC_100
  have hJ_89 : ∀ (s11_j89 : OS) (H : Heap) (locs : List Loc) (ls : Array Slot), f11_pieceOfC_j89 s11_j89 = some r → Wd D (cellsM ad cy s11_j89) (Afr ad 66 s.heap.size) s.heap H locs → lv_has ls 2 [(0, .ref (ad 0))] → W p l e (rmL 4) s m ([.ref (ad 0)] : List Value).toArray below meth c H locs 0 0 Q (F0 m 89 ls []) := by
    intro s11_j89 H locs ls h hw hl
    unfold f11_pieceOfC_j89 at h
    refine lv_aload_n hx hb dX11_pieceOfC_89 rfl (lv_at hl 0 rfl) ?_
    obtain ⟨q_90, h_90, h⟩ := bnd_e h
    have pg_90 := preG (av := [.ref (ad 0)]) hK hw.1 hw.2.1 NM_keep NM_blind
    refine endI (mc := 0) (ms := 0) (va_runV (As := []) (rest := []) ⟨hx, hb, hml, hown, hts⟩ (m11_isGood l D ad cy H.size s11_j89 q_90 h_90) (wX11_294 0 hts ⟨Nat.le_of_ble_eq_true rfl, Nat.le_of_ble_eq_true rfl⟩) ⟨pg_90.1, va_recv hK hw.1 (ci := 11) (q0 := 0) rfl eM_0, pg_90.2⟩ rfl rfl hl.1 rfl (lv_room (Nat.le_of_ble_eq_true rfl)) dX11_pieceOfC_90 ⟨Nat.le_refl _, Nat.le_refl _⟩) hw.2.2 (afr_in hw.2.2) (fun H locs hw => ?_)
    refine lv_if_eq (tgt := 100) hx hb dX11_pieceOfC_93 (by decide) (fun c_93 => ?_) (fun c_93 => ?_)
    · have h := ite_t c_93 h
      exact hJ_100 s11_j89 H locs ls h hw (lv_sub hl [] rfl)
    · have h := ite_f c_93 h
      refine lv_aload_n hx hb dX11_pieceOfC_96 rfl (lv_at hl 0 rfl) ?_
      obtain ⟨q_97, h_97, h⟩ := bnd_e h
      have pg_97 := preG (av := [.ref (ad 0)]) hK hw.1 hw.2.1 NM_keep NM_blind
      refine endV (mc := 0) (ms := 0) (va_runV (As := []) (rest := []) ⟨hx, hb, hml, hown, hts⟩ (m11_ends l D ad cy H.size s11_j89 q_97 h_97) (wX11_367 2 hts ⟨Nat.le_of_ble_eq_true rfl, Nat.le_of_ble_eq_true rfl⟩) ⟨pg_97.1, va_recv hK hw.1 (ci := 11) (q0 := 0) rfl eM_0, pg_97.2⟩ rfl rfl hl.1 rfl (lv_room (Nat.le_of_ble_eq_true rfl)) dX11_pieceOfC_97 ⟨Nat.le_refl _, Nat.le_refl _⟩) hw.2.2 (afr_in hw.2.2) (fun H locs hw => ?_)
      exact hJ_100 q_97 H locs ls h hw (lv_sub hl [] rfl)
  have hJ_32 : ∀ (s11_j32 : OS) (H : Heap) (locs : List Loc) (ls : Array Slot), f11_pieceOfC_j32 s11_j32 = some r → Wd D (cellsM ad cy s11_j32) (Afr ad 66 s.heap.size) s.heap H locs → lv_has ls 2 [(0, .ref (ad 0))] → W p l e (rmL 4) s m ([.ref (ad 0)] : List Value).toArray below meth c H locs 0 0 Q (F0 m 32 ls []) := by
    intro s11_j32 H locs ls h hw hl
    unfold f11_pieceOfC_j32 at h
    refine lv_iconst (v := 1) hx hb dX11_pieceOfC_32 (by decide) ?_
    refine lv_istore_n (lv' := [(1, .int ((1 : Int32))), (0, .ref (ad 0))]) hx hb dX11_pieceOfC_33 rfl hl (by decide) rfl (fun ls hl => ?_)
    refine lv_aload_n hx hb dX11_pieceOfC_34 rfl (lv_at hl 1 rfl) ?_
    refine lv_iconst (v := 0) hx hb dX11_pieceOfC_35 (by decide) ?_
    obtain ⟨s11_36, e_36, h⟩ := nam_e h
    refine pX11_354 hx hb hts hown hK hw e_36 rfl dX11_pieceOfC_36 (fun H locs hw => ?_)
    obtain ⟨n_39, hn_39⟩ := loop_e h
    have hL_39 : ∀ (n : Nat) (t_39 : Int32 × OS) (H : Heap) (locs : List Loc) (ls : Array Slot), loopN (f11_pieceOfC_l39) n t_39 = some r → Wd D (cellsM ad cy t_39.2) (Afr ad 66 s.heap.size) s.heap H locs → lv_has ls 2 [(1, .int t_39.1), (0, .ref (ad 0))] → W p l e (rmL 4) s m ([.ref (ad 0)] : List Value).toArray below meth c H locs 0 0 Q (F0 m 39 ls []) := by
      intro n
      induction n with
      | zero => intro t_39 H locs ls hn; cases hn
      | succ n ih_39 =>
        intro t_39 H locs ls hn hw hl
        obtain ⟨x_39, h, hx_39⟩ := loopN_e hn
        unfold f11_pieceOfC_l39 at h
        have hJ_85 : ∀ (k0_j85 : Int32) (s11_j85 : OS) (H : Heap) (locs : List Loc) (ls : Array Slot), f11_pieceOfC_j85 k0_j85 s11_j85 = some x_39 → Wd D (cellsM ad cy s11_j85) (Afr ad 66 s.heap.size) s.heap H locs → lv_has ls 2 [(0, .ref (ad 0))] → W p l e (rmL 4) s m ([.ref (ad 0)] : List Value).toArray below meth c H locs 0 0 Q (F0 m 85 ls [.int k0_j85]) := by
          intro k0_j85 s11_j85 H locs ls h hw hl
          unfold f11_pieceOfC_j85 at h
          refine lv_istore_n (lv' := [(1, .int k0_j85), (0, .ref (ad 0))]) hx hb dX11_pieceOfC_85 rfl hl (by decide) rfl (fun ls hl => ?_)
          refine lv_goto (tgt := 39) hx hb dX11_pieceOfC_86 (by decide) ?_
          exact ih_39 (k0_j85, s11_j85) H locs ls (nx_l hx_39 h) hw (lv_sub hl [0, 1] rfl)
        have hJ_84 : ∀ (s11_j84 : OS) (H : Heap) (locs : List Loc) (ls : Array Slot), f11_pieceOfC_j84 s11_j84 = some x_39 → Wd D (cellsM ad cy s11_j84) (Afr ad 66 s.heap.size) s.heap H locs → lv_has ls 2 [(0, .ref (ad 0))] → W p l e (rmL 4) s m ([.ref (ad 0)] : List Value).toArray below meth c H locs 0 0 Q (F0 m 84 ls []) := by
          intro s11_j84 H locs ls h hw hl
          unfold f11_pieceOfC_j84 at h
          refine lv_iconst (v := 0) hx hb dX11_pieceOfC_84 (by decide) ?_
          exact hJ_85 ((0 : Int32)) s11_j84 H locs ls h hw (lv_sub hl [0] rfl)
        have hJ_61 : ∀ (s11_j61 : OS) (H : Heap) (locs : List Loc) (ls : Array Slot), f11_pieceOfC_j61 s11_j61 = some x_39 → Wd D (cellsM ad cy s11_j61) (Afr ad 66 s.heap.size) s.heap H locs → lv_has ls 2 [(0, .ref (ad 0))] → W p l e (rmL 4) s m ([.ref (ad 0)] : List Value).toArray below meth c H locs 0 0 Q (F0 m 61 ls []) := by
          intro s11_j61 H locs ls h hw hl
          unfold f11_pieceOfC_j61 at h
          refine lv_aload_n hx hb dX11_pieceOfC_61 rfl (lv_at hl 0 rfl) ?_
          refine lv_iconst (v := 0) hx hb dX11_pieceOfC_62 (by decide) ?_
          obtain ⟨s11_63, e_63, h⟩ := nam_e h
          refine pX11_354 hx hb hts hown hK hw e_63 rfl dX11_pieceOfC_63 (fun H locs hw => ?_)
          refine lv_aload_n hx hb dX11_pieceOfC_66 rfl (lv_at hl 0 rfl) ?_
          obtain ⟨q_67, h_67, h⟩ := bnd_e h
          have pg_67 := preG (av := [.ref (ad 0)]) hK hw.1 hw.2.1 NM_keep NM_blind
          refine endI (mc := 0) (ms := 0) (va_runV (As := []) (rest := []) ⟨hx, hb, hml, hown, hts⟩ (m11_isGood l D ad cy H.size s11_63 q_67 h_67) (wX11_294 0 hts ⟨Nat.le_of_ble_eq_true rfl, Nat.le_of_ble_eq_true rfl⟩) ⟨pg_67.1, va_recv hK hw.1 (ci := 11) (q0 := 0) rfl eM_0, pg_67.2⟩ rfl rfl hl.1 rfl (lv_room (Nat.le_of_ble_eq_true rfl)) dX11_pieceOfC_67 ⟨Nat.le_refl _, Nat.le_refl _⟩) hw.2.2 (afr_in hw.2.2) (fun H locs hw => ?_)
          refine lv_if_eq (tgt := 84) hx hb dX11_pieceOfC_70 (by decide) (fun c_70 => ?_) (fun c_70 => ?_)
          · have h := ite_t c_70 h
            exact hJ_84 s11_63 H locs ls h hw (lv_sub hl [0] rfl)
          · have h := ite_f c_70 h
            refine lv_aload_n hx hb dX11_pieceOfC_73 rfl (lv_at hl 0 rfl) ?_
            obtain ⟨q_74, h_74, h⟩ := bnd_e h
            have pg_74 := preG (av := [.ref (ad 0)]) hK hw.1 hw.2.1 NM_keep NM_blind
            refine endI (mc := 0) (ms := 0) (va_runV (As := []) (rest := []) ⟨hx, hb, hml, hown, hts⟩ (m11_goesOn l D ad cy H.size s11_63 q_74 h_74) (wX11_364 3 hts ⟨Nat.le_of_ble_eq_true rfl, Nat.le_of_ble_eq_true rfl⟩) ⟨pg_74.1, va_recv hK hw.1 (ci := 11) (q0 := 0) rfl eM_0, pg_74.2⟩ rfl rfl hl.1 rfl (lv_room (Nat.le_of_ble_eq_true rfl)) dX11_pieceOfC_74 ⟨Nat.le_refl _, Nat.le_refl _⟩) hw.2.2 (afr_in hw.2.2) (fun H locs hw => ?_)
            refine lv_if_eq (tgt := 84) hx hb dX11_pieceOfC_77 (by decide) (fun c_77 => ?_) (fun c_77 => ?_)
            · have h := ite_t c_77 h
              exact hJ_84 q_74.2 H locs ls h hw (lv_sub hl [0] rfl)
            · have h := ite_f c_77 h
              refine lv_iconst (v := 1) hx hb dX11_pieceOfC_80 (by decide) ?_
              refine lv_goto (tgt := 85) hx hb dX11_pieceOfC_81 (by decide) ?_
              exact hJ_85 ((1 : Int32)) q_74.2 H locs ls h hw (lv_sub hl [0] rfl)
        refine lv_iload_n hx hb dX11_pieceOfC_39 rfl (lv_at hl 0 rfl) ?_
        refine lv_if_eq (tgt := 89) hx hb dX11_pieceOfC_40 (by decide) (fun c_40 => ?_) (fun c_40 => ?_)
        · have h := ite_t c_40 h
          have h := nx_m hx_39 h
          exact hJ_89 t_39.2 H locs ls h hw (lv_sub hl [1] rfl)
        · have h := ite_f c_40 h
          refine lv_aload_n hx hb dX11_pieceOfC_43 rfl (lv_at hl 1 rfl) ?_
          obtain ⟨q_44, h_44, h⟩ := bnd_e h
          have pg_44 := preG (av := [.ref (ad 0)]) hK hw.1 hw.2.1 NM_keep NM_blind
          refine endI (mc := 0) (ms := 0) (va_runV (As := []) (rest := []) ⟨hx, hb, hml, hown, hts⟩ (m11_isGood l D ad cy H.size t_39.2 q_44 h_44) (wX11_294 0 hts ⟨Nat.le_of_ble_eq_true rfl, Nat.le_of_ble_eq_true rfl⟩) ⟨pg_44.1, va_recv hK hw.1 (ci := 11) (q0 := 0) rfl eM_0, pg_44.2⟩ rfl rfl hl.1 rfl (lv_room (Nat.le_of_ble_eq_true rfl)) dX11_pieceOfC_44 ⟨Nat.le_refl _, Nat.le_refl _⟩) hw.2.2 (afr_in hw.2.2) (fun H locs hw => ?_)
          refine lv_if_eq (tgt := 89) hx hb dX11_pieceOfC_47 (by decide) (fun c_47 => ?_) (fun c_47 => ?_)
          · have h := ite_t c_47 h
            have h := nx_m hx_39 h
            exact hJ_89 t_39.2 H locs ls h hw (lv_sub hl [1] rfl)
          · have h := ite_f c_47 h
            refine lv_aload_n hx hb dX11_pieceOfC_50 rfl (lv_at hl 1 rfl) ?_
            refine gX11_354 hx hb hts hown hK hw dX11_pieceOfC_51 ?_
            refine lv_if_ne (tgt := 61) hx hb dX11_pieceOfC_54 (by decide) (fun c_54 => ?_) (fun c_54 => ?_)
            · have h := ite_f c_54 h
              exact hJ_61 t_39.2 H locs ls h hw (lv_sub hl [1] rfl)
            · have h := ite_t c_54 h
              refine lv_aload_n hx hb dX11_pieceOfC_57 rfl (lv_at hl 1 rfl) ?_
              obtain ⟨q_58, h_58, h⟩ := bnd_e h
              have pg_58 := preG (av := [.ref (ad 0)]) hK hw.1 hw.2.1 NM_keep NM_blind
              refine endV (mc := 0) (ms := 0) (va_runV (As := []) (rest := []) ⟨hx, hb, hml, hown, hts⟩ (m11_factor l D ad cy H.size t_39.2 q_58 h_58) (wX11_361 3 hts ⟨Nat.le_of_ble_eq_true rfl, Nat.le_of_ble_eq_true rfl⟩) ⟨pg_58.1, va_recv hK hw.1 (ci := 11) (q0 := 0) rfl eM_0, pg_58.2⟩ rfl rfl hl.1 rfl (lv_room (Nat.le_of_ble_eq_true rfl)) dX11_pieceOfC_58 ⟨Nat.le_refl _, Nat.le_refl _⟩) hw.2.2 (afr_in hw.2.2) (fun H locs hw => ?_)
              exact hJ_61 q_58 H locs ls h hw (lv_sub hl [1] rfl)
    exact hL_39 n_39 ((1 : Int32), s11_36) H locs ls hn_39 hw (lv_sub hl [0, 1] rfl)
  obtain ⟨n_0, hn_0⟩ := loop_e h
  have hL_0 : ∀ (n : Nat) (t_0 : OS) (H : Heap) (locs : List Loc) (ls : Array Slot), loopN (f11_pieceOfC_l0) n t_0 = some r → Wd D (cellsM ad cy t_0) (Afr ad 66 s.heap.size) s.heap H locs → lv_has ls 2 [(0, .ref (ad 0))] → W p l e (rmL 4) s m ([.ref (ad 0)] : List Value).toArray below meth c H locs 0 0 Q (F0 m 0 ls []) := by
    intro n
    induction n with
    | zero => intro t_0 H locs ls hn; cases hn
    | succ n ih_0 =>
      intro t_0 H locs ls hn hw hl
      obtain ⟨x_0, h, hx_0⟩ := loopN_e hn
      unfold f11_pieceOfC_l0 at h
      have hJ_25 : ∀ (s11_j25 : OS) (H : Heap) (locs : List Loc) (ls : Array Slot), f11_pieceOfC_j25 s11_j25 = some x_0 → Wd D (cellsM ad cy s11_j25) (Afr ad 66 s.heap.size) s.heap H locs → lv_has ls 2 [(0, .ref (ad 0))] → W p l e (rmL 4) s m ([.ref (ad 0)] : List Value).toArray below meth c H locs 0 0 Q (F0 m 25 ls []) := by
        intro s11_j25 H locs ls h hw hl
        unfold f11_pieceOfC_j25 at h
        refine lv_aload_n hx hb dX11_pieceOfC_25 rfl (lv_at hl 0 rfl) ?_
        obtain ⟨q_26, h_26, h⟩ := bnd_e h
        have pg_26 := preG (av := [.ref (ad 0)]) hK hw.1 hw.2.1 NM_keep NM_blind
        refine endV (mc := 0) (ms := 0) (va_runV (As := []) (rest := []) ⟨hx, hb, hml, hown, hts⟩ (m11_opens l D ad cy H.size s11_j25 q_26 h_26) (wX11_340 1 hts ⟨Nat.le_of_ble_eq_true rfl, Nat.le_of_ble_eq_true rfl⟩) ⟨pg_26.1, va_recv hK hw.1 (ci := 11) (q0 := 0) rfl eM_0, pg_26.2⟩ rfl rfl hl.1 rfl (lv_room (Nat.le_of_ble_eq_true rfl)) dX11_pieceOfC_26 ⟨Nat.le_refl _, Nat.le_refl _⟩) hw.2.2 (afr_in hw.2.2) (fun H locs hw => ?_)
        refine lv_goto (tgt := 0) hx hb dX11_pieceOfC_29 (by decide) ?_
        exact ih_0 q_26 H locs ls (nx_l hx_0 h) hw (lv_sub hl [0] rfl)
      refine lv_aload_n hx hb dX11_pieceOfC_0 rfl (lv_at hl 0 rfl) ?_
      obtain ⟨q_1, h_1, h⟩ := bnd_e h
      have pg_1 := preG (av := [.ref (ad 0)]) hK hw.1 hw.2.1 NM_keep NM_blind
      refine endI (mc := 0) (ms := 0) (va_runV (As := []) (rest := []) ⟨hx, hb, hml, hown, hts⟩ (m11_isGood l D ad cy H.size t_0 q_1 h_1) (wX11_294 0 hts ⟨Nat.le_of_ble_eq_true rfl, Nat.le_of_ble_eq_true rfl⟩) ⟨pg_1.1, va_recv hK hw.1 (ci := 11) (q0 := 0) rfl eM_0, pg_1.2⟩ rfl rfl hl.1 rfl (lv_room (Nat.le_of_ble_eq_true rfl)) dX11_pieceOfC_1 ⟨Nat.le_refl _, Nat.le_refl _⟩) hw.2.2 (afr_in hw.2.2) (fun H locs hw => ?_)
      refine lv_if_eq (tgt := 32) hx hb dX11_pieceOfC_4 (by decide) (fun c_4 => ?_) (fun c_4 => ?_)
      · have h := ite_t c_4 h
        have h := nx_m hx_0 h
        exact hJ_32 t_0 H locs ls h hw (lv_sub hl [0] rfl)
      · have h := ite_f c_4 h
        refine lv_aload_n hx hb dX11_pieceOfC_7 rfl (lv_at hl 0 rfl) ?_
        obtain ⟨q_8, h_8, h⟩ := bnd_e h
        have pg_8 := preG (av := [.ref (ad 0)]) hK hw.1 hw.2.1 NM_keep NM_blind
        refine endI (mc := 0) (ms := 0) (va_runV (As := []) (rest := []) ⟨hx, hb, hml, hown, hts⟩ (m11_here l D ad cy H.size t_0 q_8 h_8) (wX11_314 0 hts ⟨Nat.le_of_ble_eq_true rfl, Nat.le_of_ble_eq_true rfl⟩) ⟨pg_8.1, va_recv hK hw.1 (ci := 11) (q0 := 0) rfl eM_0, pg_8.2⟩ rfl rfl hl.1 rfl (lv_room (Nat.le_of_ble_eq_true rfl)) dX11_pieceOfC_8 ⟨Nat.le_refl _, Nat.le_refl _⟩) hw.2.2 (afr_in hw.2.2) (fun H locs hw => ?_)
        refine lv_bipush (v := 33) hx hb dX11_pieceOfC_11 (by decide) ?_
        refine lv_icmp_eq (tgt := 25) hx hb dX11_pieceOfC_13 (by decide) (fun c_13 => ?_) (fun c_13 => ?_)
        · have h := ite_t c_13 h
          exact hJ_25 t_0 H locs ls h hw (lv_sub hl [0] rfl)
        · have h := ite_f c_13 h
          refine lv_aload_n hx hb dX11_pieceOfC_16 rfl (lv_at hl 0 rfl) ?_
          obtain ⟨q_17, h_17, h⟩ := bnd_e h
          have pg_17 := preG (av := [.ref (ad 0)]) hK hw.1 hw.2.1 NM_keep NM_blind
          refine endI (mc := 0) (ms := 0) (va_runV (As := []) (rest := []) ⟨hx, hb, hml, hown, hts⟩ (m11_here l D ad cy H.size t_0 q_17 h_17) (wX11_314 0 hts ⟨Nat.le_of_ble_eq_true rfl, Nat.le_of_ble_eq_true rfl⟩) ⟨pg_17.1, va_recv hK hw.1 (ci := 11) (q0 := 0) rfl eM_0, pg_17.2⟩ rfl rfl hl.1 rfl (lv_room (Nat.le_of_ble_eq_true rfl)) dX11_pieceOfC_17 ⟨Nat.le_refl _, Nat.le_refl _⟩) hw.2.2 (afr_in hw.2.2) (fun H locs hw => ?_)
          refine lv_bipush (v := 40) hx hb dX11_pieceOfC_20 (by decide) ?_
          refine lv_icmp_ne (tgt := 32) hx hb dX11_pieceOfC_22 (by decide) (fun c_22 => ?_) (fun c_22 => ?_)
          · have h := ite_f c_22 h
            have h := nx_m hx_0 h
            exact hJ_32 t_0 H locs ls h hw (lv_sub hl [0] rfl)
          · have h := ite_t c_22 h
            exact hJ_25 t_0 H locs ls h hw (lv_sub hl [0] rfl)
  exact hL_0 n_0 s11 H locs ls hn_0 hw (lv_sub hl [0] rfl)
theorem dX11_condition_0 : decode cX11_condition 0 = .ok (.aload_n 0, 1) := by decide +kernel
theorem dX11_condition_1 : decode cX11_condition 1 = .ok (.iconst 0, 1) := by decide +kernel
theorem dX11_condition_2 : decode cX11_condition 2 = .ok (.putfield 304, 3) := by decide +kernel
theorem dX11_condition_5 : decode cX11_condition 5 = .ok (.aload_n 0, 1) := by decide +kernel
theorem dX11_condition_6 : decode cX11_condition 6 = .ok (.iconst 0, 1) := by decide +kernel
theorem dX11_condition_7 : decode cX11_condition 7 = .ok (.putfield 307, 3) := by decide +kernel
theorem dX11_condition_10 : decode cX11_condition 10 = .ok (.aload_n 0, 1) := by decide +kernel
theorem dX11_condition_11 : decode cX11_condition 11 = .ok (.iconst 0, 1) := by decide +kernel
theorem dX11_condition_12 : decode cX11_condition 12 = .ok (.putfield 373, 3) := by decide +kernel
theorem dX11_condition_15 : decode cX11_condition 15 = .ok (.aload_n 0, 1) := by decide +kernel
theorem dX11_condition_16 : decode cX11_condition 16 = .ok (.invokevirtual 314, 3) := by decide +kernel
theorem dX11_condition_19 : decode cX11_condition 19 = .ok (.bipush 40, 2) := by decide +kernel
theorem dX11_condition_21 : decode cX11_condition 21 = .ok (.if_icmp .eq 12, 3) := by decide +kernel
theorem dX11_condition_24 : decode cX11_condition 24 = .ok (.aload_n 0, 1) := by decide +kernel
theorem dX11_condition_25 : decode cX11_condition 25 = .ok (.iconst 1, 1) := by decide +kernel
theorem dX11_condition_26 : decode cX11_condition 26 = .ok (.aload_n 0, 1) := by decide +kernel
theorem dX11_condition_27 : decode cX11_condition 27 = .ok (.getfield 285, 3) := by decide +kernel
theorem dX11_condition_30 : decode cX11_condition 30 = .ok (.invokevirtual 310, 3) := by decide +kernel
theorem dX11_condition_33 : decode cX11_condition 33 = .ok (.aload_n 0, 1) := by decide +kernel
theorem dX11_condition_34 : decode cX11_condition 34 = .ok (.invokevirtual 294, 3) := by decide +kernel
theorem dX11_condition_37 : decode cX11_condition 37 = .ok (.ifCond .ne 4, 3) := by decide +kernel
theorem dX11_condition_40 : decode cX11_condition 40 = .ok (.return_, 1) := by decide +kernel
theorem dX11_condition_41 : decode cX11_condition 41 = .ok (.aload_n 0, 1) := by decide +kernel
theorem dX11_condition_42 : decode cX11_condition 42 = .ok (.invokevirtual 340, 3) := by decide +kernel
theorem dX11_condition_45 : decode cX11_condition 45 = .ok (.iconst 1, 1) := by decide +kernel
theorem dX11_condition_46 : decode cX11_condition 46 = .ok (.istore_n 1, 1) := by decide +kernel
theorem dX11_condition_47 : decode cX11_condition 47 = .ok (.aload_n 0, 1) := by decide +kernel
theorem dX11_condition_48 : decode cX11_condition 48 = .ok (.invokevirtual 294, 3) := by decide +kernel
theorem dX11_condition_51 : decode cX11_condition 51 = .ok (.ifCond .eq 33, 3) := by decide +kernel
theorem dX11_condition_54 : decode cX11_condition 54 = .ok (.aload_n 0, 1) := by decide +kernel
theorem dX11_condition_55 : decode cX11_condition 55 = .ok (.getfield 373, 3) := by decide +kernel
theorem dX11_condition_58 : decode cX11_condition 58 = .ok (.ifCond .ne 26, 3) := by decide +kernel
theorem dX11_condition_61 : decode cX11_condition 61 = .ok (.iload_n 1, 1) := by decide +kernel
theorem dX11_condition_62 : decode cX11_condition 62 = .ok (.ifCond .eq 7, 3) := by decide +kernel
theorem dX11_condition_65 : decode cX11_condition 65 = .ok (.aload_n 0, 1) := by decide +kernel
theorem dX11_condition_66 : decode cX11_condition 66 = .ok (.invokevirtual 376, 3) := by decide +kernel
theorem dX11_condition_69 : decode cX11_condition 69 = .ok (.aload_n 0, 1) := by decide +kernel
theorem dX11_condition_70 : decode cX11_condition 70 = .ok (.invokevirtual 294, 3) := by decide +kernel
theorem dX11_condition_73 : decode cX11_condition 73 = .ok (.ifCond .eq (-26), 3) := by decide +kernel
theorem dX11_condition_76 : decode cX11_condition 76 = .ok (.aload_n 0, 1) := by decide +kernel
theorem dX11_condition_77 : decode cX11_condition 77 = .ok (.invokevirtual 379, 3) := by decide +kernel
theorem dX11_condition_80 : decode cX11_condition 80 = .ok (.istore_n 1, 1) := by decide +kernel
theorem dX11_condition_81 : decode cX11_condition 81 = .ok (.goto (-34), 3) := by decide +kernel
theorem dX11_condition_84 : decode cX11_condition 84 = .ok (.return_, 1) := by decide +kernel
noncomputable def f11_condition_j84 (s11_j84 : OS) : Option (OS) := some s11_j84
noncomputable def f11_condition_j69 (v1_j69 : Int32) (s11_j69 : OS) : Option ((Int32 × OS) ⊕ (OS)) := Option.bind (f11_isGood s11_j69) fun q_70 => if q_70 = 0 then (some (Sum.inl (v1_j69, s11_j69))) else (Option.bind (f11_goesBehind s11_j69) fun q_77 => some (Sum.inl (q_77.1, q_77.2)))
noncomputable def f11_condition_l47  : Int32 × OS → Option ((Int32 × OS) ⊕ (OS)) := fun t_47 => Option.bind (f11_isGood t_47.2) fun q_48 => if q_48 = 0 then (Option.map Sum.inr (f11_condition_j84 t_47.2)) else (if (t_47.2.1 0 50) = 0 then (if t_47.1 = 0 then (f11_condition_j69 t_47.1 t_47.2) else (Option.bind (f11_pieceOfC t_47.2) fun q_66 => f11_condition_j69 t_47.1 q_66)) else (Option.map Sum.inr (f11_condition_j84 t_47.2)))
noncomputable def f11_condition_j33 (s11_j33 : OS) : Option (OS) := Option.bind (f11_isGood s11_j33) fun q_34 => if q_34 = 0 then (some s11_j33) else (Option.bind (f11_opens s11_j33) fun q_42 => loop (f11_condition_l47) ((1 : Int32), q_42))
noncomputable def f11_condition (s11 : OS) : Option (OS) := nm (wI s11 0 49 ((0 : Int32))) fun s11_2 => nm (wI s11_2 0 48 ((0 : Int32))) fun s11_7 => nm (wI s11_7 0 50 ((0 : Int32))) fun s11_12 => Option.bind (f11_here s11_12) fun q_16 => if q_16 = (40 : Int32) then (f11_condition_j33 s11_12) else (Option.bind (f11_wrongs ((1 : Int32)) ((s11_12.1 0 43)) s11_12) fun q_30 => f11_condition_j33 q_30)
set_option maxHeartbeats 4000000 in
set_option maxRecDepth 100000 in
theorem m11_condition (l : Launch) (D : va_G) (ad : Nat → Nat) (cy : Nat → ClassId) (sz : Nat) (s11 : OS) (r : OS) (h : f11_condition s11 = some r) : Met l yX11_condition (wsOf yX11_condition cX11_condition 2 none) (rmL 5) (va_Pc ([.ref (ad 0)] : List Value) (PreG D cy (cellsM ad cy s11) sz NM)) (QcV D ad 66 (cellsM ad cy r) sz) 0 0 (Afr ad 66 sz) := by
  refine metG (own := RX11) (by decide) rfl (Nat.le_of_ble_eq_true rfl) fstM ?_ sz
  intro p e s m below meth c ls C0 hw hl
  obtain ⟨hx, hb, hml, hown, hts, hr, hlk, hK, hN⟩ := C0
  have hl : lv_has ls 2 [(0, .ref (ad 0))] := hl
  generalize hQ : MQ below (QcV D ad 66 (cellsM ad cy r) s.heap.size) ([.ref (ad 0)] : List Value).toArray s 0 0 (Afr ad 66 s.heap.size) = Q
  obtain ⟨H, hH⟩ : ∃ H : Heap, H = s.heap := ⟨_, rfl⟩
  obtain ⟨locs, hlc⟩ : ∃ L : List Loc, L = [] := ⟨_, rfl⟩
  have hw : Wd D (cellsM ad cy s11) (Afr ad 66 s.heap.size) s.heap H locs := by rw [hH, hlc]; exact hw
  suffices h0 : W p l e (rmL 5) s m ([.ref (ad 0)] : List Value).toArray below meth c H locs 0 0 Q (F0 m 0 ls []) by rw [hH, hlc] at h0; exact h0
  clear hH hlc
  unfold f11_condition at h
  have hJ_84 : ∀ (s11_j84 : OS) (H : Heap) (locs : List Loc) (ls : Array Slot), f11_condition_j84 s11_j84 = some r → Wd D (cellsM ad cy s11_j84) (Afr ad 66 s.heap.size) s.heap H locs → lv_has ls 2 [] → W p l e (rmL 5) s m ([.ref (ad 0)] : List Value).toArray below meth c H locs 0 0 Q (F0 m 84 ls []) := by
    intro s11_j84 H locs ls h hw hl
    unfold f11_condition_j84 at h
    have h := Option.some.inj h
    subst h
    rw [← hQ]
    exact retV hx hb hr hlk hw dX11_condition_84
  have hJ_33 : ∀ (s11_j33 : OS) (H : Heap) (locs : List Loc) (ls : Array Slot), f11_condition_j33 s11_j33 = some r → Wd D (cellsM ad cy s11_j33) (Afr ad 66 s.heap.size) s.heap H locs → lv_has ls 2 [(0, .ref (ad 0))] → W p l e (rmL 5) s m ([.ref (ad 0)] : List Value).toArray below meth c H locs 0 0 Q (F0 m 33 ls []) := by
    intro s11_j33 H locs ls h hw hl
    unfold f11_condition_j33 at h
    refine lv_aload_n hx hb dX11_condition_33 rfl (lv_at hl 0 rfl) ?_
    obtain ⟨q_34, h_34, h⟩ := bnd_e h
    have pg_34 := preG (av := [.ref (ad 0)]) hK hw.1 hw.2.1 NM_keep NM_blind
    refine endI (mc := 0) (ms := 0) (va_runV (As := []) (rest := []) ⟨hx, hb, hml, hown, hts⟩ (m11_isGood l D ad cy H.size s11_j33 q_34 h_34) (wX11_294 0 hts ⟨Nat.le_of_ble_eq_true rfl, Nat.le_of_ble_eq_true rfl⟩) ⟨pg_34.1, va_recv hK hw.1 (ci := 11) (q0 := 0) rfl eM_0, pg_34.2⟩ rfl rfl hl.1 rfl (lv_room (Nat.le_of_ble_eq_true rfl)) dX11_condition_34 ⟨Nat.le_refl _, Nat.le_refl _⟩) hw.2.2 (afr_in hw.2.2) (fun H locs hw => ?_)
    refine lv_if_ne (tgt := 41) hx hb dX11_condition_37 (by decide) (fun c_37 => ?_) (fun c_37 => ?_)
    · have h := ite_f c_37 h
      refine lv_aload_n hx hb dX11_condition_41 rfl (lv_at hl 0 rfl) ?_
      obtain ⟨q_42, h_42, h⟩ := bnd_e h
      have pg_42 := preG (av := [.ref (ad 0)]) hK hw.1 hw.2.1 NM_keep NM_blind
      refine endV (mc := 0) (ms := 0) (va_runV (As := []) (rest := []) ⟨hx, hb, hml, hown, hts⟩ (m11_opens l D ad cy H.size s11_j33 q_42 h_42) (wX11_340 1 hts ⟨Nat.le_of_ble_eq_true rfl, Nat.le_of_ble_eq_true rfl⟩) ⟨pg_42.1, va_recv hK hw.1 (ci := 11) (q0 := 0) rfl eM_0, pg_42.2⟩ rfl rfl hl.1 rfl (lv_room (Nat.le_of_ble_eq_true rfl)) dX11_condition_42 ⟨Nat.le_refl _, Nat.le_refl _⟩) hw.2.2 (afr_in hw.2.2) (fun H locs hw => ?_)
      refine lv_iconst (v := 1) hx hb dX11_condition_45 (by decide) ?_
      refine lv_istore_n (lv' := [(1, .int ((1 : Int32))), (0, .ref (ad 0))]) hx hb dX11_condition_46 rfl hl (by decide) rfl (fun ls hl => ?_)
      obtain ⟨n_47, hn_47⟩ := loop_e h
      have hL_47 : ∀ (n : Nat) (t_47 : Int32 × OS) (H : Heap) (locs : List Loc) (ls : Array Slot), loopN (f11_condition_l47) n t_47 = some r → Wd D (cellsM ad cy t_47.2) (Afr ad 66 s.heap.size) s.heap H locs → lv_has ls 2 [(1, .int t_47.1), (0, .ref (ad 0))] → W p l e (rmL 5) s m ([.ref (ad 0)] : List Value).toArray below meth c H locs 0 0 Q (F0 m 47 ls []) := by
        intro n
        induction n with
        | zero => intro t_47 H locs ls hn; cases hn
        | succ n ih_47 =>
          intro t_47 H locs ls hn hw hl
          obtain ⟨x_47, h, hx_47⟩ := loopN_e hn
          unfold f11_condition_l47 at h
          have hJ_69 : ∀ (v1_j69 : Int32) (s11_j69 : OS) (H : Heap) (locs : List Loc) (ls : Array Slot), f11_condition_j69 v1_j69 s11_j69 = some x_47 → Wd D (cellsM ad cy s11_j69) (Afr ad 66 s.heap.size) s.heap H locs → lv_has ls 2 [(0, .ref (ad 0)), (1, .int v1_j69)] → W p l e (rmL 5) s m ([.ref (ad 0)] : List Value).toArray below meth c H locs 0 0 Q (F0 m 69 ls []) := by
            intro v1_j69 s11_j69 H locs ls h hw hl
            unfold f11_condition_j69 at h
            refine lv_aload_n hx hb dX11_condition_69 rfl (lv_at hl 0 rfl) ?_
            obtain ⟨q_70, h_70, h⟩ := bnd_e h
            have pg_70 := preG (av := [.ref (ad 0)]) hK hw.1 hw.2.1 NM_keep NM_blind
            refine endI (mc := 0) (ms := 0) (va_runV (As := []) (rest := []) ⟨hx, hb, hml, hown, hts⟩ (m11_isGood l D ad cy H.size s11_j69 q_70 h_70) (wX11_294 0 hts ⟨Nat.le_of_ble_eq_true rfl, Nat.le_of_ble_eq_true rfl⟩) ⟨pg_70.1, va_recv hK hw.1 (ci := 11) (q0 := 0) rfl eM_0, pg_70.2⟩ rfl rfl hl.1 rfl (lv_room (Nat.le_of_ble_eq_true rfl)) dX11_condition_70 ⟨Nat.le_refl _, Nat.le_refl _⟩) hw.2.2 (afr_in hw.2.2) (fun H locs hw => ?_)
            refine lv_if_eq (tgt := 47) hx hb dX11_condition_73 (by decide) (fun c_73 => ?_) (fun c_73 => ?_)
            · have h := ite_t c_73 h
              exact ih_47 (v1_j69, s11_j69) H locs ls (nx_l hx_47 h) hw (lv_sub hl [1, 0] rfl)
            · have h := ite_f c_73 h
              refine lv_aload_n hx hb dX11_condition_76 rfl (lv_at hl 0 rfl) ?_
              obtain ⟨q_77, h_77, h⟩ := bnd_e h
              have pg_77 := preG (av := [.ref (ad 0)]) hK hw.1 hw.2.1 NM_keep NM_blind
              refine endI (mc := 0) (ms := 0) (va_runV (As := []) (rest := []) ⟨hx, hb, hml, hown, hts⟩ (m11_goesBehind l D ad cy H.size s11_j69 q_77 h_77) (wX11_379 3 hts ⟨Nat.le_of_ble_eq_true rfl, Nat.le_of_ble_eq_true rfl⟩) ⟨pg_77.1, va_recv hK hw.1 (ci := 11) (q0 := 0) rfl eM_0, pg_77.2⟩ rfl rfl hl.1 rfl (lv_room (Nat.le_of_ble_eq_true rfl)) dX11_condition_77 ⟨Nat.le_refl _, Nat.le_refl _⟩) hw.2.2 (afr_in hw.2.2) (fun H locs hw => ?_)
              refine lv_istore_n (lv' := [(1, .int q_77.1), (0, .ref (ad 0))]) hx hb dX11_condition_80 rfl hl (by decide) rfl (fun ls hl => ?_)
              refine lv_goto (tgt := 47) hx hb dX11_condition_81 (by decide) ?_
              exact ih_47 (q_77.1, q_77.2) H locs ls (nx_l hx_47 h) hw (lv_sub hl [0, 1] rfl)
          refine lv_aload_n hx hb dX11_condition_47 rfl (lv_at hl 1 rfl) ?_
          obtain ⟨q_48, h_48, h⟩ := bnd_e h
          have pg_48 := preG (av := [.ref (ad 0)]) hK hw.1 hw.2.1 NM_keep NM_blind
          refine endI (mc := 0) (ms := 0) (va_runV (As := []) (rest := []) ⟨hx, hb, hml, hown, hts⟩ (m11_isGood l D ad cy H.size t_47.2 q_48 h_48) (wX11_294 0 hts ⟨Nat.le_of_ble_eq_true rfl, Nat.le_of_ble_eq_true rfl⟩) ⟨pg_48.1, va_recv hK hw.1 (ci := 11) (q0 := 0) rfl eM_0, pg_48.2⟩ rfl rfl hl.1 rfl (lv_room (Nat.le_of_ble_eq_true rfl)) dX11_condition_48 ⟨Nat.le_refl _, Nat.le_refl _⟩) hw.2.2 (afr_in hw.2.2) (fun H locs hw => ?_)
          refine lv_if_eq (tgt := 84) hx hb dX11_condition_51 (by decide) (fun c_51 => ?_) (fun c_51 => ?_)
          · have h := ite_t c_51 h
            have h := nx_m hx_47 h
            exact hJ_84 t_47.2 H locs ls h hw (lv_sub hl [] rfl)
          · have h := ite_f c_51 h
            refine lv_aload_n hx hb dX11_condition_54 rfl (lv_at hl 1 rfl) ?_
            refine gX11_373 hx hb hts hown hK hw dX11_condition_55 ?_
            refine lv_if_ne (tgt := 84) hx hb dX11_condition_58 (by decide) (fun c_58 => ?_) (fun c_58 => ?_)
            · have h := ite_f c_58 h
              have h := nx_m hx_47 h
              exact hJ_84 t_47.2 H locs ls h hw (lv_sub hl [] rfl)
            · have h := ite_t c_58 h
              refine lv_iload_n hx hb dX11_condition_61 rfl (lv_at hl 0 rfl) ?_
              refine lv_if_eq (tgt := 69) hx hb dX11_condition_62 (by decide) (fun c_62 => ?_) (fun c_62 => ?_)
              · have h := ite_t c_62 h
                exact hJ_69 t_47.1 t_47.2 H locs ls h hw (lv_sub hl [1, 0] rfl)
              · have h := ite_f c_62 h
                refine lv_aload_n hx hb dX11_condition_65 rfl (lv_at hl 1 rfl) ?_
                obtain ⟨q_66, h_66, h⟩ := bnd_e h
                have pg_66 := preG (av := [.ref (ad 0)]) hK hw.1 hw.2.1 NM_keep NM_blind
                refine endV (mc := 0) (ms := 0) (va_runV (As := []) (rest := []) ⟨hx, hb, hml, hown, hts⟩ (m11_pieceOfC l D ad cy H.size t_47.2 q_66 h_66) (wX11_376 4 hts ⟨Nat.le_of_ble_eq_true rfl, Nat.le_of_ble_eq_true rfl⟩) ⟨pg_66.1, va_recv hK hw.1 (ci := 11) (q0 := 0) rfl eM_0, pg_66.2⟩ rfl rfl hl.1 rfl (lv_room (Nat.le_of_ble_eq_true rfl)) dX11_condition_66 ⟨Nat.le_refl _, Nat.le_refl _⟩) hw.2.2 (afr_in hw.2.2) (fun H locs hw => ?_)
                exact hJ_69 t_47.1 q_66 H locs ls h hw (lv_sub hl [1, 0] rfl)
      exact hL_47 n_47 ((1 : Int32), q_42) H locs ls hn_47 hw (lv_sub hl [0, 1] rfl)
    · have h := ite_t c_37 h
      have h := Option.some.inj h
      subst h
      rw [← hQ]
      exact retV hx hb hr hlk hw dX11_condition_40
  refine lv_aload_n hx hb dX11_condition_0 rfl (lv_at hl 0 rfl) ?_
  refine lv_iconst (v := 0) hx hb dX11_condition_1 (by decide) ?_
  obtain ⟨s11_2, e_2, h⟩ := nam_e h
  refine pX11_304 hx hb hts hown hK hw e_2 dX11_condition_2 (fun H locs hw => ?_)
  refine lv_aload_n hx hb dX11_condition_5 rfl (lv_at hl 0 rfl) ?_
  refine lv_iconst (v := 0) hx hb dX11_condition_6 (by decide) ?_
  obtain ⟨s11_7, e_7, h⟩ := nam_e h
  refine pX11_307 hx hb hts hown hK hw e_7 dX11_condition_7 (fun H locs hw => ?_)
  refine lv_aload_n hx hb dX11_condition_10 rfl (lv_at hl 0 rfl) ?_
  refine lv_iconst (v := 0) hx hb dX11_condition_11 (by decide) ?_
  obtain ⟨s11_12, e_12, h⟩ := nam_e h
  refine pX11_373 hx hb hts hown hK hw e_12 rfl dX11_condition_12 (fun H locs hw => ?_)
  refine lv_aload_n hx hb dX11_condition_15 rfl (lv_at hl 0 rfl) ?_
  obtain ⟨q_16, h_16, h⟩ := bnd_e h
  have pg_16 := preG (av := [.ref (ad 0)]) hK hw.1 hw.2.1 NM_keep NM_blind
  refine endI (mc := 0) (ms := 0) (va_runV (As := []) (rest := []) ⟨hx, hb, hml, hown, hts⟩ (m11_here l D ad cy H.size s11_12 q_16 h_16) (wX11_314 0 hts ⟨Nat.le_of_ble_eq_true rfl, Nat.le_of_ble_eq_true rfl⟩) ⟨pg_16.1, va_recv hK hw.1 (ci := 11) (q0 := 0) rfl eM_0, pg_16.2⟩ rfl rfl hl.1 rfl (lv_room (Nat.le_of_ble_eq_true rfl)) dX11_condition_16 ⟨Nat.le_refl _, Nat.le_refl _⟩) hw.2.2 (afr_in hw.2.2) (fun H locs hw => ?_)
  refine lv_bipush (v := 40) hx hb dX11_condition_19 (by decide) ?_
  refine lv_icmp_eq (tgt := 33) hx hb dX11_condition_21 (by decide) (fun c_21 => ?_) (fun c_21 => ?_)
  · have h := ite_t c_21 h
    exact hJ_33 s11_12 H locs ls h hw (lv_sub hl [0] rfl)
  · have h := ite_f c_21 h
    refine lv_aload_n hx hb dX11_condition_24 rfl (lv_at hl 0 rfl) ?_
    refine lv_iconst (v := 1) hx hb dX11_condition_25 (by decide) ?_
    refine lv_aload_n hx hb dX11_condition_26 rfl (lv_at hl 0 rfl) ?_
    refine gX11_285 hx hb hts hown hK hw dX11_condition_27 ?_
    obtain ⟨q_30, h_30, h⟩ := bnd_e h
    have pg_30 := preG (av := [.ref (ad 0), .int ((1 : Int32)), .int ((s11_12.1 0 43))]) hK hw.1 hw.2.1 NM_keep NM_blind
    refine endV (mc := 0) (ms := 0) (va_runV (As := [.int ((1 : Int32)), .int ((s11_12.1 0 43))]) (rest := []) ⟨hx, hb, hml, hown, hts⟩ (m11_wrongs l D ad cy H.size s11_12 ((1 : Int32)) ((s11_12.1 0 43)) q_30 h_30) (wX11_310 0 hts ⟨Nat.le_of_ble_eq_true rfl, Nat.le_of_ble_eq_true rfl⟩) ⟨pg_30.1, va_recv hK hw.1 (ci := 11) (q0 := 0) rfl eM_0, pg_30.2⟩ rfl rfl hl.1 rfl (lv_room (Nat.le_of_ble_eq_true rfl)) dX11_condition_30 ⟨Nat.le_refl _, Nat.le_refl _⟩) hw.2.2 (afr_in hw.2.2) (fun H locs hw => ?_)
    exact hJ_33 q_30 H locs ls h hw (lv_sub hl [0] rfl)
theorem dX11_must_0 : decode cX11_must 0 = .ok (.aload_n 0, 1) := by decide +kernel
theorem dX11_must_1 : decode cX11_must 1 = .ok (.invokevirtual 314, 3) := by decide +kernel
theorem dX11_must_4 : decode cX11_must 4 = .ok (.iload_n 1, 1) := by decide +kernel
theorem dX11_must_5 : decode cX11_must 5 = .ok (.if_icmp .eq 12, 3) := by decide +kernel
theorem dX11_must_8 : decode cX11_must 8 = .ok (.aload_n 0, 1) := by decide +kernel
theorem dX11_must_9 : decode cX11_must 9 = .ok (.iconst 1, 1) := by decide +kernel
theorem dX11_must_10 : decode cX11_must 10 = .ok (.aload_n 0, 1) := by decide +kernel
theorem dX11_must_11 : decode cX11_must 11 = .ok (.getfield 285, 3) := by decide +kernel
theorem dX11_must_14 : decode cX11_must 14 = .ok (.invokevirtual 310, 3) := by decide +kernel
theorem dX11_must_17 : decode cX11_must 17 = .ok (.aload_n 0, 1) := by decide +kernel
theorem dX11_must_18 : decode cX11_must 18 = .ok (.dup, 1) := by decide +kernel
theorem dX11_must_19 : decode cX11_must 19 = .ok (.getfield 285, 3) := by decide +kernel
theorem dX11_must_22 : decode cX11_must 22 = .ok (.iconst 1, 1) := by decide +kernel
theorem dX11_must_23 : decode cX11_must 23 = .ok (.iadd, 1) := by decide +kernel
theorem dX11_must_24 : decode cX11_must 24 = .ok (.putfield 285, 3) := by decide +kernel
theorem dX11_must_27 : decode cX11_must 27 = .ok (.return_, 1) := by decide +kernel
def f11_must_j17 (s11_j17 : OS) : Option (OS) := nm (wI s11_j17 0 43 (((s11_j17.1 0 43) + (1 : Int32)))) fun s11_24 => some s11_24
def f11_must (a1 : Int32) (s11 : OS) : Option (OS) := Option.bind (f11_here s11) fun q_1 => if q_1 = a1 then (f11_must_j17 s11) else (Option.bind (f11_wrongs ((1 : Int32)) ((s11.1 0 43)) s11) fun q_14 => f11_must_j17 q_14)
set_option maxHeartbeats 4000000 in
set_option maxRecDepth 100000 in
theorem m11_must (l : Launch) (D : va_G) (ad : Nat → Nat) (cy : Nat → ClassId) (sz : Nat) (s11 : OS) (a1 : Int32) (r : OS) (h : f11_must a1 s11 = some r) : Met l yX11_must (wsOf yX11_must cX11_must 2 none) (rmL 1) (va_Pc ([.ref (ad 0), .int a1] : List Value) (PreG D cy (cellsM ad cy s11) sz NM)) (QcV D ad 66 (cellsM ad cy r) sz) 0 0 (Afr ad 66 sz) := by
  refine metG (own := RX11) (by decide) rfl (Nat.le_of_ble_eq_true rfl) fstM ?_ sz
  intro p e s m below meth c ls C0 hw hl
  obtain ⟨hx, hb, hml, hown, hts, hr, hlk, hK, hN⟩ := C0
  have hl : lv_has ls 2 [(0, .ref (ad 0)), (1, .int a1)] := hl
  generalize hQ : MQ below (QcV D ad 66 (cellsM ad cy r) s.heap.size) ([.ref (ad 0), .int a1] : List Value).toArray s 0 0 (Afr ad 66 s.heap.size) = Q
  obtain ⟨H, hH⟩ : ∃ H : Heap, H = s.heap := ⟨_, rfl⟩
  obtain ⟨locs, hlc⟩ : ∃ L : List Loc, L = [] := ⟨_, rfl⟩
  have hw : Wd D (cellsM ad cy s11) (Afr ad 66 s.heap.size) s.heap H locs := by rw [hH, hlc]; exact hw
  suffices h0 : W p l e (rmL 1) s m ([.ref (ad 0), .int a1] : List Value).toArray below meth c H locs 0 0 Q (F0 m 0 ls []) by rw [hH, hlc] at h0; exact h0
  clear hH hlc
  unfold f11_must at h
  have hJ_17 : ∀ (s11_j17 : OS) (H : Heap) (locs : List Loc) (ls : Array Slot), f11_must_j17 s11_j17 = some r → Wd D (cellsM ad cy s11_j17) (Afr ad 66 s.heap.size) s.heap H locs → lv_has ls 2 [(0, .ref (ad 0))] → W p l e (rmL 1) s m ([.ref (ad 0), .int a1] : List Value).toArray below meth c H locs 0 0 Q (F0 m 17 ls []) := by
    intro s11_j17 H locs ls h hw hl
    unfold f11_must_j17 at h
    refine lv_aload_n hx hb dX11_must_17 rfl (lv_at hl 0 rfl) ?_
    refine lv_dup hx hb dX11_must_18 rfl ?_
    refine gX11_285 hx hb hts hown hK hw dX11_must_19 ?_
    refine lv_iconst (v := 1) hx hb dX11_must_22 (by decide) ?_
    refine lv_iadd hx hb dX11_must_23 ?_
    obtain ⟨s11_24, e_24, h⟩ := nam_e h
    refine pX11_285 hx hb hts hown hK hw e_24 dX11_must_24 (fun H locs hw => ?_)
    have h := Option.some.inj h
    subst h
    rw [← hQ]
    exact retV hx hb hr hlk hw dX11_must_27
  refine lv_aload_n hx hb dX11_must_0 rfl (lv_at hl 0 rfl) ?_
  obtain ⟨q_1, h_1, h⟩ := bnd_e h
  have pg_1 := preG (av := [.ref (ad 0)]) hK hw.1 hw.2.1 NM_keep NM_blind
  refine endI (mc := 0) (ms := 0) (va_runV (As := []) (rest := []) ⟨hx, hb, hml, hown, hts⟩ (m11_here l D ad cy H.size s11 q_1 h_1) (wX11_314 0 hts ⟨Nat.le_of_ble_eq_true rfl, Nat.le_of_ble_eq_true rfl⟩) ⟨pg_1.1, va_recv hK hw.1 (ci := 11) (q0 := 0) rfl eM_0, pg_1.2⟩ rfl rfl hl.1 rfl (lv_room (Nat.le_of_ble_eq_true rfl)) dX11_must_1 ⟨Nat.le_refl _, Nat.le_refl _⟩) hw.2.2 (afr_in hw.2.2) (fun H locs hw => ?_)
  refine lv_iload_n hx hb dX11_must_4 rfl (lv_at hl 1 rfl) ?_
  refine lv_icmp_eq (tgt := 17) hx hb dX11_must_5 (by decide) (fun c_5 => ?_) (fun c_5 => ?_)
  · have h := ite_t c_5 h
    exact hJ_17 s11 H locs ls h hw (lv_sub hl [0] rfl)
  · have h := ite_f c_5 h
    refine lv_aload_n hx hb dX11_must_8 rfl (lv_at hl 0 rfl) ?_
    refine lv_iconst (v := 1) hx hb dX11_must_9 (by decide) ?_
    refine lv_aload_n hx hb dX11_must_10 rfl (lv_at hl 0 rfl) ?_
    refine gX11_285 hx hb hts hown hK hw dX11_must_11 ?_
    obtain ⟨q_14, h_14, h⟩ := bnd_e h
    have pg_14 := preG (av := [.ref (ad 0), .int ((1 : Int32)), .int ((s11.1 0 43))]) hK hw.1 hw.2.1 NM_keep NM_blind
    refine endV (mc := 0) (ms := 0) (va_runV (As := [.int ((1 : Int32)), .int ((s11.1 0 43))]) (rest := []) ⟨hx, hb, hml, hown, hts⟩ (m11_wrongs l D ad cy H.size s11 ((1 : Int32)) ((s11.1 0 43)) q_14 h_14) (wX11_310 0 hts ⟨Nat.le_of_ble_eq_true rfl, Nat.le_of_ble_eq_true rfl⟩) ⟨pg_14.1, va_recv hK hw.1 (ci := 11) (q0 := 0) rfl eM_0, pg_14.2⟩ rfl rfl hl.1 rfl (lv_room (Nat.le_of_ble_eq_true rfl)) dX11_must_14 ⟨Nat.le_refl _, Nat.le_refl _⟩) hw.2.2 (afr_in hw.2.2) (fun H locs hw => ?_)
    exact hJ_17 q_14 H locs ls h hw (lv_sub hl [0] rfl)
theorem dX11_clause_0 : decode cX11_clause 0 = .ok (.aload_n 0, 1) := by decide +kernel
theorem dX11_clause_1 : decode cX11_clause 1 = .ok (.invokevirtual 314, 3) := by decide +kernel
theorem dX11_clause_4 : decode cX11_clause 4 = .ok (.istore_n 1, 1) := by decide +kernel
theorem dX11_clause_5 : decode cX11_clause 5 = .ok (.iload_n 1, 1) := by decide +kernel
theorem dX11_clause_6 : decode cX11_clause 6 = .ok (.bipush 98, 2) := by decide +kernel
theorem dX11_clause_8 : decode cX11_clause 8 = .ok (.if_icmp .eq 33, 3) := by decide +kernel
theorem dX11_clause_11 : decode cX11_clause 11 = .ok (.iload_n 1, 1) := by decide +kernel
theorem dX11_clause_12 : decode cX11_clause 12 = .ok (.bipush 100, 2) := by decide +kernel
theorem dX11_clause_14 : decode cX11_clause 14 = .ok (.if_icmp .eq 27, 3) := by decide +kernel
theorem dX11_clause_17 : decode cX11_clause 17 = .ok (.iload_n 1, 1) := by decide +kernel
theorem dX11_clause_18 : decode cX11_clause 18 = .ok (.bipush 116, 2) := by decide +kernel
theorem dX11_clause_20 : decode cX11_clause 20 = .ok (.if_icmp .eq 21, 3) := by decide +kernel
theorem dX11_clause_23 : decode cX11_clause 23 = .ok (.iload_n 1, 1) := by decide +kernel
theorem dX11_clause_24 : decode cX11_clause 24 = .ok (.bipush 120, 2) := by decide +kernel
theorem dX11_clause_26 : decode cX11_clause 26 = .ok (.if_icmp .eq 15, 3) := by decide +kernel
theorem dX11_clause_29 : decode cX11_clause 29 = .ok (.aload_n 0, 1) := by decide +kernel
theorem dX11_clause_30 : decode cX11_clause 30 = .ok (.iconst 1, 1) := by decide +kernel
theorem dX11_clause_31 : decode cX11_clause 31 = .ok (.aload_n 0, 1) := by decide +kernel
theorem dX11_clause_32 : decode cX11_clause 32 = .ok (.getfield 285, 3) := by decide +kernel
theorem dX11_clause_35 : decode cX11_clause 35 = .ok (.invokevirtual 310, 3) := by decide +kernel
theorem dX11_clause_38 : decode cX11_clause 38 = .ok (.goto 21, 3) := by decide +kernel
theorem dX11_clause_41 : decode cX11_clause 41 = .ok (.aload_n 0, 1) := by decide +kernel
theorem dX11_clause_42 : decode cX11_clause 42 = .ok (.getfield 382, 3) := by decide +kernel
theorem dX11_clause_45 : decode cX11_clause 45 = .ok (.bipush 12, 2) := by decide +kernel
theorem dX11_clause_47 : decode cX11_clause 47 = .ok (.if_icmp .ne 12, 3) := by decide +kernel
theorem dX11_clause_50 : decode cX11_clause 50 = .ok (.aload_n 0, 1) := by decide +kernel
theorem dX11_clause_51 : decode cX11_clause 51 = .ok (.iconst 4, 1) := by decide +kernel
theorem dX11_clause_52 : decode cX11_clause 52 = .ok (.aload_n 0, 1) := by decide +kernel
theorem dX11_clause_53 : decode cX11_clause 53 = .ok (.getfield 285, 3) := by decide +kernel
theorem dX11_clause_56 : decode cX11_clause 56 = .ok (.invokevirtual 310, 3) := by decide +kernel
theorem dX11_clause_59 : decode cX11_clause 59 = .ok (.aload_n 0, 1) := by decide +kernel
theorem dX11_clause_60 : decode cX11_clause 60 = .ok (.invokevirtual 294, 3) := by decide +kernel
theorem dX11_clause_63 : decode cX11_clause 63 = .ok (.ifCond .ne 4, 3) := by decide +kernel
theorem dX11_clause_66 : decode cX11_clause 66 = .ok (.return_, 1) := by decide +kernel
theorem dX11_clause_67 : decode cX11_clause 67 = .ok (.bipush 12, 2) := by decide +kernel
theorem dX11_clause_69 : decode cX11_clause 69 = .ok (.aload_n 0, 1) := by decide +kernel
theorem dX11_clause_70 : decode cX11_clause 70 = .ok (.getfield 298, 3) := by decide +kernel
theorem dX11_clause_73 : decode cX11_clause 73 = .ok (.imul, 1) := by decide +kernel
theorem dX11_clause_74 : decode cX11_clause 74 = .ok (.aload_n 0, 1) := by decide +kernel
theorem dX11_clause_75 : decode cX11_clause 75 = .ok (.getfield 382, 3) := by decide +kernel
theorem dX11_clause_78 : decode cX11_clause 78 = .ok (.iadd, 1) := by decide +kernel
theorem dX11_clause_79 : decode cX11_clause 79 = .ok (.istore_n 2, 1) := by decide +kernel
theorem dX11_clause_80 : decode cX11_clause 80 = .ok (.aload_n 0, 1) := by decide +kernel
theorem dX11_clause_81 : decode cX11_clause 81 = .ok (.getfield 88, 3) := by decide +kernel
theorem dX11_clause_84 : decode cX11_clause 84 = .ok (.iload_n 2, 1) := by decide +kernel
theorem dX11_clause_85 : decode cX11_clause 85 = .ok (.iload_n 1, 1) := by decide +kernel
theorem dX11_clause_86 : decode cX11_clause 86 = .ok (.iastore, 1) := by decide +kernel
theorem dX11_clause_87 : decode cX11_clause 87 = .ok (.aload_n 0, 1) := by decide +kernel
theorem dX11_clause_88 : decode cX11_clause 88 = .ok (.getfield 91, 3) := by decide +kernel
theorem dX11_clause_91 : decode cX11_clause 91 = .ok (.iload_n 2, 1) := by decide +kernel
theorem dX11_clause_92 : decode cX11_clause 92 = .ok (.iconst 0, 1) := by decide +kernel
theorem dX11_clause_93 : decode cX11_clause 93 = .ok (.iastore, 1) := by decide +kernel
theorem dX11_clause_94 : decode cX11_clause 94 = .ok (.aload_n 0, 1) := by decide +kernel
theorem dX11_clause_95 : decode cX11_clause 95 = .ok (.getfield 94, 3) := by decide +kernel
theorem dX11_clause_98 : decode cX11_clause 98 = .ok (.iload_n 2, 1) := by decide +kernel
theorem dX11_clause_99 : decode cX11_clause 99 = .ok (.iconst 0, 1) := by decide +kernel
theorem dX11_clause_100 : decode cX11_clause 100 = .ok (.iastore, 1) := by decide +kernel
theorem dX11_clause_101 : decode cX11_clause 101 = .ok (.aload_n 0, 1) := by decide +kernel
theorem dX11_clause_102 : decode cX11_clause 102 = .ok (.getfield 97, 3) := by decide +kernel
theorem dX11_clause_105 : decode cX11_clause 105 = .ok (.iload_n 2, 1) := by decide +kernel
theorem dX11_clause_106 : decode cX11_clause 106 = .ok (.aload_n 0, 1) := by decide +kernel
theorem dX11_clause_107 : decode cX11_clause 107 = .ok (.getfield 301, 3) := by decide +kernel
theorem dX11_clause_110 : decode cX11_clause 110 = .ok (.iastore, 1) := by decide +kernel
theorem dX11_clause_111 : decode cX11_clause 111 = .ok (.aload_n 0, 1) := by decide +kernel
theorem dX11_clause_112 : decode cX11_clause 112 = .ok (.dup, 1) := by decide +kernel
theorem dX11_clause_113 : decode cX11_clause 113 = .ok (.getfield 285, 3) := by decide +kernel
theorem dX11_clause_116 : decode cX11_clause 116 = .ok (.iconst 1, 1) := by decide +kernel
theorem dX11_clause_117 : decode cX11_clause 117 = .ok (.iadd, 1) := by decide +kernel
theorem dX11_clause_118 : decode cX11_clause 118 = .ok (.putfield 285, 3) := by decide +kernel
theorem dX11_clause_121 : decode cX11_clause 121 = .ok (.iload_n 1, 1) := by decide +kernel
theorem dX11_clause_122 : decode cX11_clause 122 = .ok (.bipush 100, 2) := by decide +kernel
theorem dX11_clause_124 : decode cX11_clause 124 = .ok (.if_icmp .eq 9, 3) := by decide +kernel
theorem dX11_clause_127 : decode cX11_clause 127 = .ok (.iload_n 1, 1) := by decide +kernel
theorem dX11_clause_128 : decode cX11_clause 128 = .ok (.bipush 116, 2) := by decide +kernel
theorem dX11_clause_130 : decode cX11_clause 130 = .ok (.if_icmp .ne 28, 3) := by decide +kernel
theorem dX11_clause_133 : decode cX11_clause 133 = .ok (.aload_n 0, 1) := by decide +kernel
theorem dX11_clause_134 : decode cX11_clause 134 = .ok (.getfield 91, 3) := by decide +kernel
theorem dX11_clause_137 : decode cX11_clause 137 = .ok (.iload_n 2, 1) := by decide +kernel
theorem dX11_clause_138 : decode cX11_clause 138 = .ok (.aload_n 0, 1) := by decide +kernel
theorem dX11_clause_139 : decode cX11_clause 139 = .ok (.iload_n 1, 1) := by decide +kernel
theorem dX11_clause_140 : decode cX11_clause 140 = .ok (.bipush 116, 2) := by decide +kernel
theorem dX11_clause_142 : decode cX11_clause 142 = .ok (.if_icmp .ne 9, 3) := by decide +kernel
theorem dX11_clause_145 : decode cX11_clause 145 = .ok (.sipush 1000, 3) := by decide +kernel
theorem dX11_clause_148 : decode cX11_clause 148 = .ok (.goto 6, 3) := by decide +kernel
theorem dX11_clause_151 : decode cX11_clause 151 = .ok (.ldc_w 343, 3) := by decide +kernel
theorem dX11_clause_154 : decode cX11_clause 154 = .ok (.invokevirtual 344, 3) := by decide +kernel
theorem dX11_clause_157 : decode cX11_clause 157 = .ok (.iastore, 1) := by decide +kernel
theorem dX11_clause_158 : decode cX11_clause 158 = .ok (.iload_n 1, 1) := by decide +kernel
theorem dX11_clause_159 : decode cX11_clause 159 = .ok (.bipush 120, 2) := by decide +kernel
theorem dX11_clause_161 : decode cX11_clause 161 = .ok (.if_icmp .ne 50, 3) := by decide +kernel
theorem dX11_clause_164 : decode cX11_clause 164 = .ok (.aload_n 0, 1) := by decide +kernel
theorem dX11_clause_165 : decode cX11_clause 165 = .ok (.getfield 91, 3) := by decide +kernel
theorem dX11_clause_168 : decode cX11_clause 168 = .ok (.iload_n 2, 1) := by decide +kernel
theorem dX11_clause_169 : decode cX11_clause 169 = .ok (.aload_n 0, 1) := by decide +kernel
theorem dX11_clause_170 : decode cX11_clause 170 = .ok (.bipush 19, 2) := by decide +kernel
theorem dX11_clause_172 : decode cX11_clause 172 = .ok (.invokevirtual 344, 3) := by decide +kernel
theorem dX11_clause_175 : decode cX11_clause 175 = .ok (.iastore, 1) := by decide +kernel
theorem dX11_clause_176 : decode cX11_clause 176 = .ok (.aload_n 0, 1) := by decide +kernel
theorem dX11_clause_177 : decode cX11_clause 177 = .ok (.invokevirtual 294, 3) := by decide +kernel
theorem dX11_clause_180 : decode cX11_clause 180 = .ok (.ifCond .eq 9, 3) := by decide +kernel
theorem dX11_clause_183 : decode cX11_clause 183 = .ok (.aload_n 0, 1) := by decide +kernel
theorem dX11_clause_184 : decode cX11_clause 184 = .ok (.bipush 46, 2) := by decide +kernel
theorem dX11_clause_186 : decode cX11_clause 186 = .ok (.invokevirtual 385, 3) := by decide +kernel
theorem dX11_clause_189 : decode cX11_clause 189 = .ok (.aload_n 0, 1) := by decide +kernel
theorem dX11_clause_190 : decode cX11_clause 190 = .ok (.invokevirtual 294, 3) := by decide +kernel
theorem dX11_clause_193 : decode cX11_clause 193 = .ok (.ifCond .eq 29, 3) := by decide +kernel
theorem dX11_clause_196 : decode cX11_clause 196 = .ok (.aload_n 0, 1) := by decide +kernel
theorem dX11_clause_197 : decode cX11_clause 197 = .ok (.getfield 94, 3) := by decide +kernel
theorem dX11_clause_200 : decode cX11_clause 200 = .ok (.iload_n 2, 1) := by decide +kernel
theorem dX11_clause_201 : decode cX11_clause 201 = .ok (.aload_n 0, 1) := by decide +kernel
theorem dX11_clause_202 : decode cX11_clause 202 = .ok (.bipush 11, 2) := by decide +kernel
theorem dX11_clause_204 : decode cX11_clause 204 = .ok (.invokevirtual 344, 3) := by decide +kernel
theorem dX11_clause_207 : decode cX11_clause 207 = .ok (.iastore, 1) := by decide +kernel
theorem dX11_clause_208 : decode cX11_clause 208 = .ok (.goto 14, 3) := by decide +kernel
theorem dX11_clause_211 : decode cX11_clause 211 = .ok (.aload_n 0, 1) := by decide +kernel
theorem dX11_clause_212 : decode cX11_clause 212 = .ok (.invokevirtual 294, 3) := by decide +kernel
theorem dX11_clause_215 : decode cX11_clause 215 = .ok (.ifCond .eq 7, 3) := by decide +kernel
theorem dX11_clause_218 : decode cX11_clause 218 = .ok (.aload_n 0, 1) := by decide +kernel
theorem dX11_clause_219 : decode cX11_clause 219 = .ok (.invokevirtual 388, 3) := by decide +kernel
theorem dX11_clause_222 : decode cX11_clause 222 = .ok (.aload_n 0, 1) := by decide +kernel
theorem dX11_clause_223 : decode cX11_clause 223 = .ok (.getfield 100, 3) := by decide +kernel
theorem dX11_clause_226 : decode cX11_clause 226 = .ok (.iload_n 2, 1) := by decide +kernel
theorem dX11_clause_227 : decode cX11_clause 227 = .ok (.aload_n 0, 1) := by decide +kernel
theorem dX11_clause_228 : decode cX11_clause 228 = .ok (.getfield 301, 3) := by decide +kernel
theorem dX11_clause_231 : decode cX11_clause 231 = .ok (.iastore, 1) := by decide +kernel
theorem dX11_clause_232 : decode cX11_clause 232 = .ok (.aload_n 0, 1) := by decide +kernel
theorem dX11_clause_233 : decode cX11_clause 233 = .ok (.dup, 1) := by decide +kernel
theorem dX11_clause_234 : decode cX11_clause 234 = .ok (.getfield 382, 3) := by decide +kernel
theorem dX11_clause_237 : decode cX11_clause 237 = .ok (.iconst 1, 1) := by decide +kernel
theorem dX11_clause_238 : decode cX11_clause 238 = .ok (.iadd, 1) := by decide +kernel
theorem dX11_clause_239 : decode cX11_clause 239 = .ok (.putfield 382, 3) := by decide +kernel
theorem dX11_clause_242 : decode cX11_clause 242 = .ok (.return_, 1) := by decide +kernel
noncomputable def f11_clause_j222 (v2_j222 : Int32) (s11_j222 : OS) : Option (OS) := chk (inb v2_j222 240) (nm (wI s11_j222 41 v2_j222.toNatClampNeg ((s11_j222.1 0 47))) fun s11_231 => nm (wI s11_231 0 46 (((s11_231.1 0 46) + (1 : Int32)))) fun s11_239 => some s11_239)
noncomputable def f11_clause_j189 (v2_j189 : Int32) (s11_j189 : OS) : Option (OS) := Option.bind (f11_isGood s11_j189) fun q_190 => if q_190 = 0 then (f11_clause_j222 v2_j189 s11_j189) else (Option.bind (f11_reads ((11 : Int32)) s11_j189) fun q_204 => chk (inb v2_j189 240) (nm (wI q_204.2 39 v2_j189.toNatClampNeg q_204.1) fun s11_207 => f11_clause_j222 v2_j189 s11_207))
noncomputable def f11_clause_j158 (v1_j158 : Int32) (v2_j158 : Int32) (s11_j158 : OS) : Option (OS) := if v1_j158 = (120 : Int32) then (Option.bind (f11_reads ((19 : Int32)) s11_j158) fun q_172 => chk (inb v2_j158 240) (nm (wI q_172.2 38 v2_j158.toNatClampNeg q_172.1) fun s11_175 => Option.bind (f11_isGood s11_175) fun q_177 => if q_177 = 0 then (f11_clause_j189 v2_j158 s11_175) else (Option.bind (f11_must ((46 : Int32)) s11_175) fun q_186 => f11_clause_j189 v2_j158 q_186))) else (Option.bind (f11_isGood s11_j158) fun q_212 => if q_212 = 0 then (f11_clause_j222 v2_j158 s11_j158) else (Option.bind (f11_condition s11_j158) fun q_219 => f11_clause_j222 v2_j158 q_219))
noncomputable def f11_clause_j154 (v1_j154 : Int32) (v2_j154 : Int32) (k1_j154 : Int32) (k3_j154 : Int32) (s11_j154 : OS) : Option (OS) := Option.bind (f11_reads k3_j154 s11_j154) fun q_154 => chk (inb k1_j154 240) (nm (wI q_154.2 38 k1_j154.toNatClampNeg q_154.1) fun s11_157 => f11_clause_j158 v1_j154 v2_j154 s11_157)
noncomputable def f11_clause_j133 (v1_j133 : Int32) (v2_j133 : Int32) (s11_j133 : OS) : Option (OS) := if v1_j133 = (116 : Int32) then (f11_clause_j154 v1_j133 v2_j133 v2_j133 ((1000 : Int32)) s11_j133) else (f11_clause_j154 v1_j133 v2_j133 v2_j133 ((999999 : Int32)) s11_j133)
noncomputable def f11_clause_j59 (v1_j59 : Int32) (s11_j59 : OS) : Option (OS) := Option.bind (f11_isGood s11_j59) fun q_60 => if q_60 = 0 then (some s11_j59) else (nm ((((12 : Int32) * (s11_j59.1 0 6)) + (s11_j59.1 0 46))) fun n_79 => chk (inb n_79 240) (nm (wI s11_j59 37 n_79.toNatClampNeg v1_j59) fun s11_86 => chk (inb n_79 240) (nm (wI s11_86 38 n_79.toNatClampNeg ((0 : Int32))) fun s11_93 => chk (inb n_79 240) (nm (wI s11_93 39 n_79.toNatClampNeg ((0 : Int32))) fun s11_100 => chk (inb n_79 240) (nm (wI s11_100 40 n_79.toNatClampNeg ((s11_100.1 0 47))) fun s11_110 => nm (wI s11_110 0 43 (((s11_110.1 0 43) + (1 : Int32)))) fun s11_118 => if v1_j59 = (100 : Int32) then (f11_clause_j133 v1_j59 n_79 s11_118) else (if v1_j59 = (116 : Int32) then (f11_clause_j133 v1_j59 n_79 s11_118) else (f11_clause_j158 v1_j59 n_79 s11_118)))))))
noncomputable def f11_clause_j41 (v1_j41 : Int32) (s11_j41 : OS) : Option (OS) := if (s11_j41.1 0 46) = (12 : Int32) then (Option.bind (f11_wrongs ((4 : Int32)) ((s11_j41.1 0 43)) s11_j41) fun q_56 => f11_clause_j59 v1_j41 q_56) else (f11_clause_j59 v1_j41 s11_j41)
noncomputable def f11_clause (s11 : OS) : Option (OS) := Option.bind (f11_here s11) fun q_1 => if q_1 = (98 : Int32) then (f11_clause_j41 q_1 s11) else (if q_1 = (100 : Int32) then (f11_clause_j41 q_1 s11) else (if q_1 = (116 : Int32) then (f11_clause_j41 q_1 s11) else (if q_1 = (120 : Int32) then (f11_clause_j41 q_1 s11) else (Option.bind (f11_wrongs ((1 : Int32)) ((s11.1 0 43)) s11) fun q_35 => f11_clause_j59 q_1 q_35))))
set_option maxHeartbeats 4000000 in
set_option maxRecDepth 100000 in
theorem m11_clause (l : Launch) (D : va_G) (ad : Nat → Nat) (cy : Nat → ClassId) (sz : Nat) (s11 : OS) (r : OS) (h : f11_clause s11 = some r) : Met l yX11_clause (wsOf yX11_clause cX11_clause 3 none) (rmL 6) (va_Pc ([.ref (ad 0)] : List Value) (PreG D cy (cellsM ad cy s11) sz NM)) (QcV D ad 66 (cellsM ad cy r) sz) 0 0 (Afr ad 66 sz) := by
  refine metG (own := RX11) (by decide) rfl (Nat.le_of_ble_eq_true rfl) fstM ?_ sz
  intro p e s m below meth c ls C0 hw hl
  obtain ⟨hx, hb, hml, hown, hts, hr, hlk, hK, hN⟩ := C0
  have hl : lv_has ls 3 [(0, .ref (ad 0))] := hl
  generalize hQ : MQ below (QcV D ad 66 (cellsM ad cy r) s.heap.size) ([.ref (ad 0)] : List Value).toArray s 0 0 (Afr ad 66 s.heap.size) = Q
  obtain ⟨H, hH⟩ : ∃ H : Heap, H = s.heap := ⟨_, rfl⟩
  obtain ⟨locs, hlc⟩ : ∃ L : List Loc, L = [] := ⟨_, rfl⟩
  have hw : Wd D (cellsM ad cy s11) (Afr ad 66 s.heap.size) s.heap H locs := by rw [hH, hlc]; exact hw
  suffices h0 : W p l e (rmL 6) s m ([.ref (ad 0)] : List Value).toArray below meth c H locs 0 0 Q (F0 m 0 ls []) by rw [hH, hlc] at h0; exact h0
  clear hH hlc
  unfold f11_clause at h
  have hJ_222 : ∀ (v2_j222 : Int32) (s11_j222 : OS) (H : Heap) (locs : List Loc) (ls : Array Slot), f11_clause_j222 v2_j222 s11_j222 = some r → Wd D (cellsM ad cy s11_j222) (Afr ad 66 s.heap.size) s.heap H locs → lv_has ls 3 [(0, .ref (ad 0)), (2, .int v2_j222)] → W p l e (rmL 6) s m ([.ref (ad 0)] : List Value).toArray below meth c H locs 0 0 Q (F0 m 222 ls []) := by
    intro v2_j222 s11_j222 H locs ls h hw hl
    unfold f11_clause_j222 at h
    refine lv_aload_n hx hb dX11_clause_222 rfl (lv_at hl 0 rfl) ?_
    refine gX11_100 hx hb hts hown hK hw dX11_clause_223 ?_
    refine lv_iload_n hx hb dX11_clause_226 rfl (lv_at hl 1 rfl) ?_
    refine lv_aload_n hx hb dX11_clause_227 rfl (lv_at hl 0 rfl) ?_
    refine gX11_301 hx hb hts hown hK hw dX11_clause_228 ?_
    obtain ⟨hi_231, h⟩ := chk_e h
    obtain ⟨s11_231, e_231, h⟩ := nam_e h
    refine aM30 hx hb hK hw hi_231 e_231 dX11_clause_231 (fun H locs hw => ?_)
    refine lv_aload_n hx hb dX11_clause_232 rfl (lv_at hl 0 rfl) ?_
    refine lv_dup hx hb dX11_clause_233 rfl ?_
    refine gX11_382 hx hb hts hown hK hw dX11_clause_234 ?_
    refine lv_iconst (v := 1) hx hb dX11_clause_237 (by decide) ?_
    refine lv_iadd hx hb dX11_clause_238 ?_
    obtain ⟨s11_239, e_239, h⟩ := nam_e h
    refine pX11_382 hx hb hts hown hK hw e_239 dX11_clause_239 (fun H locs hw => ?_)
    have h := Option.some.inj h
    subst h
    rw [← hQ]
    exact retV hx hb hr hlk hw dX11_clause_242
  have hJ_189 : ∀ (v2_j189 : Int32) (s11_j189 : OS) (H : Heap) (locs : List Loc) (ls : Array Slot), f11_clause_j189 v2_j189 s11_j189 = some r → Wd D (cellsM ad cy s11_j189) (Afr ad 66 s.heap.size) s.heap H locs → lv_has ls 3 [(0, .ref (ad 0)), (2, .int v2_j189)] → W p l e (rmL 6) s m ([.ref (ad 0)] : List Value).toArray below meth c H locs 0 0 Q (F0 m 189 ls []) := by
    intro v2_j189 s11_j189 H locs ls h hw hl
    unfold f11_clause_j189 at h
    refine lv_aload_n hx hb dX11_clause_189 rfl (lv_at hl 0 rfl) ?_
    obtain ⟨q_190, h_190, h⟩ := bnd_e h
    have pg_190 := preG (av := [.ref (ad 0)]) hK hw.1 hw.2.1 NM_keep NM_blind
    refine endI (mc := 0) (ms := 0) (va_runV (As := []) (rest := []) ⟨hx, hb, hml, hown, hts⟩ (m11_isGood l D ad cy H.size s11_j189 q_190 h_190) (wX11_294 0 hts ⟨Nat.le_of_ble_eq_true rfl, Nat.le_of_ble_eq_true rfl⟩) ⟨pg_190.1, va_recv hK hw.1 (ci := 11) (q0 := 0) rfl eM_0, pg_190.2⟩ rfl rfl hl.1 rfl (lv_room (Nat.le_of_ble_eq_true rfl)) dX11_clause_190 ⟨Nat.le_refl _, Nat.le_refl _⟩) hw.2.2 (afr_in hw.2.2) (fun H locs hw => ?_)
    refine lv_if_eq (tgt := 222) hx hb dX11_clause_193 (by decide) (fun c_193 => ?_) (fun c_193 => ?_)
    · have h := ite_t c_193 h
      exact hJ_222 v2_j189 s11_j189 H locs ls h hw (lv_sub hl [0, 1] rfl)
    · have h := ite_f c_193 h
      refine lv_aload_n hx hb dX11_clause_196 rfl (lv_at hl 0 rfl) ?_
      refine gX11_94 hx hb hts hown hK hw dX11_clause_197 ?_
      refine lv_iload_n hx hb dX11_clause_200 rfl (lv_at hl 1 rfl) ?_
      refine lv_aload_n hx hb dX11_clause_201 rfl (lv_at hl 0 rfl) ?_
      refine lv_bipush (v := 11) hx hb dX11_clause_202 (by decide) ?_
      obtain ⟨q_204, h_204, h⟩ := bnd_e h
      have pg_204 := preG (av := [.ref (ad 0), .int ((11 : Int32))]) hK hw.1 hw.2.1 NM_keep NM_blind
      refine endI (mc := 0) (ms := 0) (va_runV (As := [.int ((11 : Int32))]) (rest := [.int v2_j189, .ref (ad 28)]) ⟨hx, hb, hml, hown, hts⟩ (m11_reads l D ad cy H.size s11_j189 ((11 : Int32)) q_204 h_204) (wX11_344 2 hts ⟨Nat.le_of_ble_eq_true rfl, Nat.le_of_ble_eq_true rfl⟩) ⟨pg_204.1, va_recv hK hw.1 (ci := 11) (q0 := 0) rfl eM_0, pg_204.2⟩ rfl rfl hl.1 rfl (lv_room (Nat.le_of_ble_eq_true rfl)) dX11_clause_204 ⟨Nat.le_refl _, Nat.le_refl _⟩) hw.2.2 (afr_in hw.2.2) (fun H locs hw => ?_)
      obtain ⟨hi_207, h⟩ := chk_e h
      obtain ⟨s11_207, e_207, h⟩ := nam_e h
      refine aM28 hx hb hK hw hi_207 e_207 dX11_clause_207 (fun H locs hw => ?_)
      refine lv_goto (tgt := 222) hx hb dX11_clause_208 (by decide) ?_
      exact hJ_222 v2_j189 s11_207 H locs ls h hw (lv_sub hl [0, 1] rfl)
  have hJ_158 : ∀ (v1_j158 : Int32) (v2_j158 : Int32) (s11_j158 : OS) (H : Heap) (locs : List Loc) (ls : Array Slot), f11_clause_j158 v1_j158 v2_j158 s11_j158 = some r → Wd D (cellsM ad cy s11_j158) (Afr ad 66 s.heap.size) s.heap H locs → lv_has ls 3 [(0, .ref (ad 0)), (1, .int v1_j158), (2, .int v2_j158)] → W p l e (rmL 6) s m ([.ref (ad 0)] : List Value).toArray below meth c H locs 0 0 Q (F0 m 158 ls []) := by
    intro v1_j158 v2_j158 s11_j158 H locs ls h hw hl
    unfold f11_clause_j158 at h
    refine lv_iload_n hx hb dX11_clause_158 rfl (lv_at hl 1 rfl) ?_
    refine lv_bipush (v := 120) hx hb dX11_clause_159 (by decide) ?_
    refine lv_icmp_ne (tgt := 211) hx hb dX11_clause_161 (by decide) (fun c_161 => ?_) (fun c_161 => ?_)
    · have h := ite_f c_161 h
      refine lv_aload_n hx hb dX11_clause_211 rfl (lv_at hl 0 rfl) ?_
      obtain ⟨q_212, h_212, h⟩ := bnd_e h
      have pg_212 := preG (av := [.ref (ad 0)]) hK hw.1 hw.2.1 NM_keep NM_blind
      refine endI (mc := 0) (ms := 0) (va_runV (As := []) (rest := []) ⟨hx, hb, hml, hown, hts⟩ (m11_isGood l D ad cy H.size s11_j158 q_212 h_212) (wX11_294 0 hts ⟨Nat.le_of_ble_eq_true rfl, Nat.le_of_ble_eq_true rfl⟩) ⟨pg_212.1, va_recv hK hw.1 (ci := 11) (q0 := 0) rfl eM_0, pg_212.2⟩ rfl rfl hl.1 rfl (lv_room (Nat.le_of_ble_eq_true rfl)) dX11_clause_212 ⟨Nat.le_refl _, Nat.le_refl _⟩) hw.2.2 (afr_in hw.2.2) (fun H locs hw => ?_)
      refine lv_if_eq (tgt := 222) hx hb dX11_clause_215 (by decide) (fun c_215 => ?_) (fun c_215 => ?_)
      · have h := ite_t c_215 h
        exact hJ_222 v2_j158 s11_j158 H locs ls h hw (lv_sub hl [0, 2] rfl)
      · have h := ite_f c_215 h
        refine lv_aload_n hx hb dX11_clause_218 rfl (lv_at hl 0 rfl) ?_
        obtain ⟨q_219, h_219, h⟩ := bnd_e h
        have pg_219 := preG (av := [.ref (ad 0)]) hK hw.1 hw.2.1 NM_keep NM_blind
        refine endV (mc := 0) (ms := 0) (va_runV (As := []) (rest := []) ⟨hx, hb, hml, hown, hts⟩ (m11_condition l D ad cy H.size s11_j158 q_219 h_219) (wX11_388 5 hts ⟨Nat.le_of_ble_eq_true rfl, Nat.le_of_ble_eq_true rfl⟩) ⟨pg_219.1, va_recv hK hw.1 (ci := 11) (q0 := 0) rfl eM_0, pg_219.2⟩ rfl rfl hl.1 rfl (lv_room (Nat.le_of_ble_eq_true rfl)) dX11_clause_219 ⟨Nat.le_refl _, Nat.le_refl _⟩) hw.2.2 (afr_in hw.2.2) (fun H locs hw => ?_)
        exact hJ_222 v2_j158 q_219 H locs ls h hw (lv_sub hl [0, 2] rfl)
    · have h := ite_t c_161 h
      refine lv_aload_n hx hb dX11_clause_164 rfl (lv_at hl 0 rfl) ?_
      refine gX11_91 hx hb hts hown hK hw dX11_clause_165 ?_
      refine lv_iload_n hx hb dX11_clause_168 rfl (lv_at hl 2 rfl) ?_
      refine lv_aload_n hx hb dX11_clause_169 rfl (lv_at hl 0 rfl) ?_
      refine lv_bipush (v := 19) hx hb dX11_clause_170 (by decide) ?_
      obtain ⟨q_172, h_172, h⟩ := bnd_e h
      have pg_172 := preG (av := [.ref (ad 0), .int ((19 : Int32))]) hK hw.1 hw.2.1 NM_keep NM_blind
      refine endI (mc := 0) (ms := 0) (va_runV (As := [.int ((19 : Int32))]) (rest := [.int v2_j158, .ref (ad 27)]) ⟨hx, hb, hml, hown, hts⟩ (m11_reads l D ad cy H.size s11_j158 ((19 : Int32)) q_172 h_172) (wX11_344 2 hts ⟨Nat.le_of_ble_eq_true rfl, Nat.le_of_ble_eq_true rfl⟩) ⟨pg_172.1, va_recv hK hw.1 (ci := 11) (q0 := 0) rfl eM_0, pg_172.2⟩ rfl rfl hl.1 rfl (lv_room (Nat.le_of_ble_eq_true rfl)) dX11_clause_172 ⟨Nat.le_refl _, Nat.le_refl _⟩) hw.2.2 (afr_in hw.2.2) (fun H locs hw => ?_)
      obtain ⟨hi_175, h⟩ := chk_e h
      obtain ⟨s11_175, e_175, h⟩ := nam_e h
      refine aM27 hx hb hK hw hi_175 e_175 dX11_clause_175 (fun H locs hw => ?_)
      refine lv_aload_n hx hb dX11_clause_176 rfl (lv_at hl 0 rfl) ?_
      obtain ⟨q_177, h_177, h⟩ := bnd_e h
      have pg_177 := preG (av := [.ref (ad 0)]) hK hw.1 hw.2.1 NM_keep NM_blind
      refine endI (mc := 0) (ms := 0) (va_runV (As := []) (rest := []) ⟨hx, hb, hml, hown, hts⟩ (m11_isGood l D ad cy H.size s11_175 q_177 h_177) (wX11_294 0 hts ⟨Nat.le_of_ble_eq_true rfl, Nat.le_of_ble_eq_true rfl⟩) ⟨pg_177.1, va_recv hK hw.1 (ci := 11) (q0 := 0) rfl eM_0, pg_177.2⟩ rfl rfl hl.1 rfl (lv_room (Nat.le_of_ble_eq_true rfl)) dX11_clause_177 ⟨Nat.le_refl _, Nat.le_refl _⟩) hw.2.2 (afr_in hw.2.2) (fun H locs hw => ?_)
      refine lv_if_eq (tgt := 189) hx hb dX11_clause_180 (by decide) (fun c_180 => ?_) (fun c_180 => ?_)
      · have h := ite_t c_180 h
        exact hJ_189 v2_j158 s11_175 H locs ls h hw (lv_sub hl [0, 2] rfl)
      · have h := ite_f c_180 h
        refine lv_aload_n hx hb dX11_clause_183 rfl (lv_at hl 0 rfl) ?_
        refine lv_bipush (v := 46) hx hb dX11_clause_184 (by decide) ?_
        obtain ⟨q_186, h_186, h⟩ := bnd_e h
        have pg_186 := preG (av := [.ref (ad 0), .int ((46 : Int32))]) hK hw.1 hw.2.1 NM_keep NM_blind
        refine endV (mc := 0) (ms := 0) (va_runV (As := [.int ((46 : Int32))]) (rest := []) ⟨hx, hb, hml, hown, hts⟩ (m11_must l D ad cy H.size s11_175 ((46 : Int32)) q_186 h_186) (wX11_385 1 hts ⟨Nat.le_of_ble_eq_true rfl, Nat.le_of_ble_eq_true rfl⟩) ⟨pg_186.1, va_recv hK hw.1 (ci := 11) (q0 := 0) rfl eM_0, pg_186.2⟩ rfl rfl hl.1 rfl (lv_room (Nat.le_of_ble_eq_true rfl)) dX11_clause_186 ⟨Nat.le_refl _, Nat.le_refl _⟩) hw.2.2 (afr_in hw.2.2) (fun H locs hw => ?_)
        exact hJ_189 v2_j158 q_186 H locs ls h hw (lv_sub hl [0, 2] rfl)
  have hJ_154 : ∀ (v1_j154 : Int32) (v2_j154 : Int32) (k1_j154 : Int32) (k3_j154 : Int32) (s11_j154 : OS) (H : Heap) (locs : List Loc) (ls : Array Slot), f11_clause_j154 v1_j154 v2_j154 k1_j154 k3_j154 s11_j154 = some r → Wd D (cellsM ad cy s11_j154) (Afr ad 66 s.heap.size) s.heap H locs → lv_has ls 3 [(0, .ref (ad 0)), (1, .int v1_j154), (2, .int v2_j154)] → W p l e (rmL 6) s m ([.ref (ad 0)] : List Value).toArray below meth c H locs 0 0 Q (F0 m 154 ls [.int k3_j154, .ref (ad 0), .int k1_j154, .ref (ad 27)]) := by
    intro v1_j154 v2_j154 k1_j154 k3_j154 s11_j154 H locs ls h hw hl
    unfold f11_clause_j154 at h
    obtain ⟨q_154, h_154, h⟩ := bnd_e h
    have pg_154 := preG (av := [.ref (ad 0), .int k3_j154]) hK hw.1 hw.2.1 NM_keep NM_blind
    refine endI (mc := 0) (ms := 0) (va_runV (As := [.int k3_j154]) (rest := [.int k1_j154, .ref (ad 27)]) ⟨hx, hb, hml, hown, hts⟩ (m11_reads l D ad cy H.size s11_j154 k3_j154 q_154 h_154) (wX11_344 2 hts ⟨Nat.le_of_ble_eq_true rfl, Nat.le_of_ble_eq_true rfl⟩) ⟨pg_154.1, va_recv hK hw.1 (ci := 11) (q0 := 0) rfl eM_0, pg_154.2⟩ rfl rfl hl.1 rfl (lv_room (Nat.le_of_ble_eq_true rfl)) dX11_clause_154 ⟨Nat.le_refl _, Nat.le_refl _⟩) hw.2.2 (afr_in hw.2.2) (fun H locs hw => ?_)
    obtain ⟨hi_157, h⟩ := chk_e h
    obtain ⟨s11_157, e_157, h⟩ := nam_e h
    refine aM27 hx hb hK hw hi_157 e_157 dX11_clause_157 (fun H locs hw => ?_)
    exact hJ_158 v1_j154 v2_j154 s11_157 H locs ls h hw (lv_sub hl [0, 1, 2] rfl)
  have hJ_133 : ∀ (v1_j133 : Int32) (v2_j133 : Int32) (s11_j133 : OS) (H : Heap) (locs : List Loc) (ls : Array Slot), f11_clause_j133 v1_j133 v2_j133 s11_j133 = some r → Wd D (cellsM ad cy s11_j133) (Afr ad 66 s.heap.size) s.heap H locs → lv_has ls 3 [(0, .ref (ad 0)), (1, .int v1_j133), (2, .int v2_j133)] → W p l e (rmL 6) s m ([.ref (ad 0)] : List Value).toArray below meth c H locs 0 0 Q (F0 m 133 ls []) := by
    intro v1_j133 v2_j133 s11_j133 H locs ls h hw hl
    unfold f11_clause_j133 at h
    refine lv_aload_n hx hb dX11_clause_133 rfl (lv_at hl 0 rfl) ?_
    refine gX11_91 hx hb hts hown hK hw dX11_clause_134 ?_
    refine lv_iload_n hx hb dX11_clause_137 rfl (lv_at hl 2 rfl) ?_
    refine lv_aload_n hx hb dX11_clause_138 rfl (lv_at hl 0 rfl) ?_
    refine lv_iload_n hx hb dX11_clause_139 rfl (lv_at hl 1 rfl) ?_
    refine lv_bipush (v := 116) hx hb dX11_clause_140 (by decide) ?_
    refine lv_icmp_ne (tgt := 151) hx hb dX11_clause_142 (by decide) (fun c_142 => ?_) (fun c_142 => ?_)
    · have h := ite_f c_142 h
      refine lv_ldcw (v := 999999) hx hb hown (hts _ (wd_7 (w := .constant RX11 343 999999) (i := 193) (by decide +kernel) rfl)) dX11_clause_151 ?_
      exact hJ_154 v1_j133 v2_j133 v2_j133 ((999999 : Int32)) s11_j133 H locs ls h hw (lv_sub hl [0, 1, 2] rfl)
    · have h := ite_t c_142 h
      refine lv_sipush (v := 1000) hx hb dX11_clause_145 (by decide) ?_
      refine lv_goto (tgt := 154) hx hb dX11_clause_148 (by decide) ?_
      exact hJ_154 v1_j133 v2_j133 v2_j133 ((1000 : Int32)) s11_j133 H locs ls h hw (lv_sub hl [0, 1, 2] rfl)
  have hJ_59 : ∀ (v1_j59 : Int32) (s11_j59 : OS) (H : Heap) (locs : List Loc) (ls : Array Slot), f11_clause_j59 v1_j59 s11_j59 = some r → Wd D (cellsM ad cy s11_j59) (Afr ad 66 s.heap.size) s.heap H locs → lv_has ls 3 [(0, .ref (ad 0)), (1, .int v1_j59)] → W p l e (rmL 6) s m ([.ref (ad 0)] : List Value).toArray below meth c H locs 0 0 Q (F0 m 59 ls []) := by
    intro v1_j59 s11_j59 H locs ls h hw hl
    unfold f11_clause_j59 at h
    refine lv_aload_n hx hb dX11_clause_59 rfl (lv_at hl 0 rfl) ?_
    obtain ⟨q_60, h_60, h⟩ := bnd_e h
    have pg_60 := preG (av := [.ref (ad 0)]) hK hw.1 hw.2.1 NM_keep NM_blind
    refine endI (mc := 0) (ms := 0) (va_runV (As := []) (rest := []) ⟨hx, hb, hml, hown, hts⟩ (m11_isGood l D ad cy H.size s11_j59 q_60 h_60) (wX11_294 0 hts ⟨Nat.le_of_ble_eq_true rfl, Nat.le_of_ble_eq_true rfl⟩) ⟨pg_60.1, va_recv hK hw.1 (ci := 11) (q0 := 0) rfl eM_0, pg_60.2⟩ rfl rfl hl.1 rfl (lv_room (Nat.le_of_ble_eq_true rfl)) dX11_clause_60 ⟨Nat.le_refl _, Nat.le_refl _⟩) hw.2.2 (afr_in hw.2.2) (fun H locs hw => ?_)
    refine lv_if_ne (tgt := 67) hx hb dX11_clause_63 (by decide) (fun c_63 => ?_) (fun c_63 => ?_)
    · have h := ite_f c_63 h
      refine lv_bipush (v := 12) hx hb dX11_clause_67 (by decide) ?_
      refine lv_aload_n hx hb dX11_clause_69 rfl (lv_at hl 0 rfl) ?_
      refine gX11_298 hx hb hts hown hK hw dX11_clause_70 ?_
      refine lv_imul hx hb dX11_clause_73 ?_
      refine lv_aload_n hx hb dX11_clause_74 rfl (lv_at hl 0 rfl) ?_
      refine gX11_382 hx hb hts hown hK hw dX11_clause_75 ?_
      refine lv_iadd hx hb dX11_clause_78 ?_
      obtain ⟨n_79, e_79, h⟩ := nam_e h
      refine topI e_79 ?_
      refine lv_istore_n (lv' := [(2, .int n_79), (0, .ref (ad 0)), (1, .int v1_j59)]) hx hb dX11_clause_79 rfl hl (by decide) rfl (fun ls hl => ?_)
      refine lv_aload_n hx hb dX11_clause_80 rfl (lv_at hl 1 rfl) ?_
      refine gX11_88 hx hb hts hown hK hw dX11_clause_81 ?_
      refine lv_iload_n hx hb dX11_clause_84 rfl (lv_at hl 0 rfl) ?_
      refine lv_iload_n hx hb dX11_clause_85 rfl (lv_at hl 2 rfl) ?_
      obtain ⟨hi_86, h⟩ := chk_e h
      obtain ⟨s11_86, e_86, h⟩ := nam_e h
      refine aM26 hx hb hK hw hi_86 e_86 dX11_clause_86 (fun H locs hw => ?_)
      refine lv_aload_n hx hb dX11_clause_87 rfl (lv_at hl 1 rfl) ?_
      refine gX11_91 hx hb hts hown hK hw dX11_clause_88 ?_
      refine lv_iload_n hx hb dX11_clause_91 rfl (lv_at hl 0 rfl) ?_
      refine lv_iconst (v := 0) hx hb dX11_clause_92 (by decide) ?_
      obtain ⟨hi_93, h⟩ := chk_e h
      obtain ⟨s11_93, e_93, h⟩ := nam_e h
      refine aM27 hx hb hK hw hi_93 e_93 dX11_clause_93 (fun H locs hw => ?_)
      refine lv_aload_n hx hb dX11_clause_94 rfl (lv_at hl 1 rfl) ?_
      refine gX11_94 hx hb hts hown hK hw dX11_clause_95 ?_
      refine lv_iload_n hx hb dX11_clause_98 rfl (lv_at hl 0 rfl) ?_
      refine lv_iconst (v := 0) hx hb dX11_clause_99 (by decide) ?_
      obtain ⟨hi_100, h⟩ := chk_e h
      obtain ⟨s11_100, e_100, h⟩ := nam_e h
      refine aM28 hx hb hK hw hi_100 e_100 dX11_clause_100 (fun H locs hw => ?_)
      refine lv_aload_n hx hb dX11_clause_101 rfl (lv_at hl 1 rfl) ?_
      refine gX11_97 hx hb hts hown hK hw dX11_clause_102 ?_
      refine lv_iload_n hx hb dX11_clause_105 rfl (lv_at hl 0 rfl) ?_
      refine lv_aload_n hx hb dX11_clause_106 rfl (lv_at hl 1 rfl) ?_
      refine gX11_301 hx hb hts hown hK hw dX11_clause_107 ?_
      obtain ⟨hi_110, h⟩ := chk_e h
      obtain ⟨s11_110, e_110, h⟩ := nam_e h
      refine aM29 hx hb hK hw hi_110 e_110 dX11_clause_110 (fun H locs hw => ?_)
      refine lv_aload_n hx hb dX11_clause_111 rfl (lv_at hl 1 rfl) ?_
      refine lv_dup hx hb dX11_clause_112 rfl ?_
      refine gX11_285 hx hb hts hown hK hw dX11_clause_113 ?_
      refine lv_iconst (v := 1) hx hb dX11_clause_116 (by decide) ?_
      refine lv_iadd hx hb dX11_clause_117 ?_
      obtain ⟨s11_118, e_118, h⟩ := nam_e h
      refine pX11_285 hx hb hts hown hK hw e_118 dX11_clause_118 (fun H locs hw => ?_)
      refine lv_iload_n hx hb dX11_clause_121 rfl (lv_at hl 2 rfl) ?_
      refine lv_bipush (v := 100) hx hb dX11_clause_122 (by decide) ?_
      refine lv_icmp_eq (tgt := 133) hx hb dX11_clause_124 (by decide) (fun c_124 => ?_) (fun c_124 => ?_)
      · have h := ite_t c_124 h
        exact hJ_133 v1_j59 n_79 s11_118 H locs ls h hw (lv_sub hl [1, 2, 0] rfl)
      · have h := ite_f c_124 h
        refine lv_iload_n hx hb dX11_clause_127 rfl (lv_at hl 2 rfl) ?_
        refine lv_bipush (v := 116) hx hb dX11_clause_128 (by decide) ?_
        refine lv_icmp_ne (tgt := 158) hx hb dX11_clause_130 (by decide) (fun c_130 => ?_) (fun c_130 => ?_)
        · have h := ite_f c_130 h
          exact hJ_158 v1_j59 n_79 s11_118 H locs ls h hw (lv_sub hl [1, 2, 0] rfl)
        · have h := ite_t c_130 h
          exact hJ_133 v1_j59 n_79 s11_118 H locs ls h hw (lv_sub hl [1, 2, 0] rfl)
    · have h := ite_t c_63 h
      have h := Option.some.inj h
      subst h
      rw [← hQ]
      exact retV hx hb hr hlk hw dX11_clause_66
  have hJ_41 : ∀ (v1_j41 : Int32) (s11_j41 : OS) (H : Heap) (locs : List Loc) (ls : Array Slot), f11_clause_j41 v1_j41 s11_j41 = some r → Wd D (cellsM ad cy s11_j41) (Afr ad 66 s.heap.size) s.heap H locs → lv_has ls 3 [(0, .ref (ad 0)), (1, .int v1_j41)] → W p l e (rmL 6) s m ([.ref (ad 0)] : List Value).toArray below meth c H locs 0 0 Q (F0 m 41 ls []) := by
    intro v1_j41 s11_j41 H locs ls h hw hl
    unfold f11_clause_j41 at h
    refine lv_aload_n hx hb dX11_clause_41 rfl (lv_at hl 0 rfl) ?_
    refine gX11_382 hx hb hts hown hK hw dX11_clause_42 ?_
    refine lv_bipush (v := 12) hx hb dX11_clause_45 (by decide) ?_
    refine lv_icmp_ne (tgt := 59) hx hb dX11_clause_47 (by decide) (fun c_47 => ?_) (fun c_47 => ?_)
    · have h := ite_f c_47 h
      exact hJ_59 v1_j41 s11_j41 H locs ls h hw (lv_sub hl [0, 1] rfl)
    · have h := ite_t c_47 h
      refine lv_aload_n hx hb dX11_clause_50 rfl (lv_at hl 0 rfl) ?_
      refine lv_iconst (v := 4) hx hb dX11_clause_51 (by decide) ?_
      refine lv_aload_n hx hb dX11_clause_52 rfl (lv_at hl 0 rfl) ?_
      refine gX11_285 hx hb hts hown hK hw dX11_clause_53 ?_
      obtain ⟨q_56, h_56, h⟩ := bnd_e h
      have pg_56 := preG (av := [.ref (ad 0), .int ((4 : Int32)), .int ((s11_j41.1 0 43))]) hK hw.1 hw.2.1 NM_keep NM_blind
      refine endV (mc := 0) (ms := 0) (va_runV (As := [.int ((4 : Int32)), .int ((s11_j41.1 0 43))]) (rest := []) ⟨hx, hb, hml, hown, hts⟩ (m11_wrongs l D ad cy H.size s11_j41 ((4 : Int32)) ((s11_j41.1 0 43)) q_56 h_56) (wX11_310 0 hts ⟨Nat.le_of_ble_eq_true rfl, Nat.le_of_ble_eq_true rfl⟩) ⟨pg_56.1, va_recv hK hw.1 (ci := 11) (q0 := 0) rfl eM_0, pg_56.2⟩ rfl rfl hl.1 rfl (lv_room (Nat.le_of_ble_eq_true rfl)) dX11_clause_56 ⟨Nat.le_refl _, Nat.le_refl _⟩) hw.2.2 (afr_in hw.2.2) (fun H locs hw => ?_)
      exact hJ_59 v1_j41 q_56 H locs ls h hw (lv_sub hl [0, 1] rfl)
  refine lv_aload_n hx hb dX11_clause_0 rfl (lv_at hl 0 rfl) ?_
  obtain ⟨q_1, h_1, h⟩ := bnd_e h
  have pg_1 := preG (av := [.ref (ad 0)]) hK hw.1 hw.2.1 NM_keep NM_blind
  refine endI (mc := 0) (ms := 0) (va_runV (As := []) (rest := []) ⟨hx, hb, hml, hown, hts⟩ (m11_here l D ad cy H.size s11 q_1 h_1) (wX11_314 0 hts ⟨Nat.le_of_ble_eq_true rfl, Nat.le_of_ble_eq_true rfl⟩) ⟨pg_1.1, va_recv hK hw.1 (ci := 11) (q0 := 0) rfl eM_0, pg_1.2⟩ rfl rfl hl.1 rfl (lv_room (Nat.le_of_ble_eq_true rfl)) dX11_clause_1 ⟨Nat.le_refl _, Nat.le_refl _⟩) hw.2.2 (afr_in hw.2.2) (fun H locs hw => ?_)
  refine lv_istore_n (lv' := [(1, .int q_1), (0, .ref (ad 0))]) hx hb dX11_clause_4 rfl hl (by decide) rfl (fun ls hl => ?_)
  refine lv_iload_n hx hb dX11_clause_5 rfl (lv_at hl 0 rfl) ?_
  refine lv_bipush (v := 98) hx hb dX11_clause_6 (by decide) ?_
  refine lv_icmp_eq (tgt := 41) hx hb dX11_clause_8 (by decide) (fun c_8 => ?_) (fun c_8 => ?_)
  · have h := ite_t c_8 h
    exact hJ_41 q_1 s11 H locs ls h hw (lv_sub hl [1, 0] rfl)
  · have h := ite_f c_8 h
    refine lv_iload_n hx hb dX11_clause_11 rfl (lv_at hl 0 rfl) ?_
    refine lv_bipush (v := 100) hx hb dX11_clause_12 (by decide) ?_
    refine lv_icmp_eq (tgt := 41) hx hb dX11_clause_14 (by decide) (fun c_14 => ?_) (fun c_14 => ?_)
    · have h := ite_t c_14 h
      exact hJ_41 q_1 s11 H locs ls h hw (lv_sub hl [1, 0] rfl)
    · have h := ite_f c_14 h
      refine lv_iload_n hx hb dX11_clause_17 rfl (lv_at hl 0 rfl) ?_
      refine lv_bipush (v := 116) hx hb dX11_clause_18 (by decide) ?_
      refine lv_icmp_eq (tgt := 41) hx hb dX11_clause_20 (by decide) (fun c_20 => ?_) (fun c_20 => ?_)
      · have h := ite_t c_20 h
        exact hJ_41 q_1 s11 H locs ls h hw (lv_sub hl [1, 0] rfl)
      · have h := ite_f c_20 h
        refine lv_iload_n hx hb dX11_clause_23 rfl (lv_at hl 0 rfl) ?_
        refine lv_bipush (v := 120) hx hb dX11_clause_24 (by decide) ?_
        refine lv_icmp_eq (tgt := 41) hx hb dX11_clause_26 (by decide) (fun c_26 => ?_) (fun c_26 => ?_)
        · have h := ite_t c_26 h
          exact hJ_41 q_1 s11 H locs ls h hw (lv_sub hl [1, 0] rfl)
        · have h := ite_f c_26 h
          refine lv_aload_n hx hb dX11_clause_29 rfl (lv_at hl 1 rfl) ?_
          refine lv_iconst (v := 1) hx hb dX11_clause_30 (by decide) ?_
          refine lv_aload_n hx hb dX11_clause_31 rfl (lv_at hl 1 rfl) ?_
          refine gX11_285 hx hb hts hown hK hw dX11_clause_32 ?_
          obtain ⟨q_35, h_35, h⟩ := bnd_e h
          have pg_35 := preG (av := [.ref (ad 0), .int ((1 : Int32)), .int ((s11.1 0 43))]) hK hw.1 hw.2.1 NM_keep NM_blind
          refine endV (mc := 0) (ms := 0) (va_runV (As := [.int ((1 : Int32)), .int ((s11.1 0 43))]) (rest := []) ⟨hx, hb, hml, hown, hts⟩ (m11_wrongs l D ad cy H.size s11 ((1 : Int32)) ((s11.1 0 43)) q_35 h_35) (wX11_310 0 hts ⟨Nat.le_of_ble_eq_true rfl, Nat.le_of_ble_eq_true rfl⟩) ⟨pg_35.1, va_recv hK hw.1 (ci := 11) (q0 := 0) rfl eM_0, pg_35.2⟩ rfl rfl hl.1 rfl (lv_room (Nat.le_of_ble_eq_true rfl)) dX11_clause_35 ⟨Nat.le_refl _, Nat.le_refl _⟩) hw.2.2 (afr_in hw.2.2) (fun H locs hw => ?_)
          refine lv_goto (tgt := 59) hx hb dX11_clause_38 (by decide) ?_
          exact hJ_59 q_1 q_35 H locs ls h hw (lv_sub hl [1, 0] rfl)
theorem dX11_worked_0 : decode cX11_worked 0 = .ok (.iload_n 0, 1) := by decide +kernel
theorem dX11_worked_1 : decode cX11_worked 1 = .ok (.lookupswitch 131 #[(37, 93), (42, 75), (43, 67), (45, 71), (47, 79), (60, 107), (62, 119)], 67) := by decide +kernel
theorem dX11_worked_68 : decode cX11_worked 68 = .ok (.lload_n 1, 1) := by decide +kernel
theorem dX11_worked_69 : decode cX11_worked 69 = .ok (.lload_n 3, 1) := by decide +kernel
theorem dX11_worked_70 : decode cX11_worked 70 = .ok (.ladd, 1) := by decide +kernel
theorem dX11_worked_71 : decode cX11_worked 71 = .ok (.lreturn, 1) := by decide +kernel
theorem dX11_worked_72 : decode cX11_worked 72 = .ok (.lload_n 1, 1) := by decide +kernel
theorem dX11_worked_73 : decode cX11_worked 73 = .ok (.lload_n 3, 1) := by decide +kernel
theorem dX11_worked_74 : decode cX11_worked 74 = .ok (.lsub, 1) := by decide +kernel
theorem dX11_worked_75 : decode cX11_worked 75 = .ok (.lreturn, 1) := by decide +kernel
theorem dX11_worked_76 : decode cX11_worked 76 = .ok (.lload_n 1, 1) := by decide +kernel
theorem dX11_worked_77 : decode cX11_worked 77 = .ok (.lload_n 3, 1) := by decide +kernel
theorem dX11_worked_78 : decode cX11_worked 78 = .ok (.lmul, 1) := by decide +kernel
theorem dX11_worked_79 : decode cX11_worked 79 = .ok (.lreturn, 1) := by decide +kernel
theorem dX11_worked_80 : decode cX11_worked 80 = .ok (.lload_n 3, 1) := by decide +kernel
theorem dX11_worked_81 : decode cX11_worked 81 = .ok (.lconst 0, 1) := by decide +kernel
theorem dX11_worked_82 : decode cX11_worked 82 = .ok (.lcmp, 1) := by decide +kernel
theorem dX11_worked_83 : decode cX11_worked 83 = .ok (.ifCond .ne 7, 3) := by decide +kernel
theorem dX11_worked_86 : decode cX11_worked 86 = .ok (.lconst 0, 1) := by decide +kernel
theorem dX11_worked_87 : decode cX11_worked 87 = .ok (.goto 6, 3) := by decide +kernel
theorem dX11_worked_90 : decode cX11_worked 90 = .ok (.lload_n 1, 1) := by decide +kernel
theorem dX11_worked_91 : decode cX11_worked 91 = .ok (.lload_n 3, 1) := by decide +kernel
theorem dX11_worked_92 : decode cX11_worked 92 = .ok (.ldiv, 1) := by decide +kernel
theorem dX11_worked_93 : decode cX11_worked 93 = .ok (.lreturn, 1) := by decide +kernel
theorem dX11_worked_94 : decode cX11_worked 94 = .ok (.lload_n 3, 1) := by decide +kernel
theorem dX11_worked_95 : decode cX11_worked 95 = .ok (.lconst 0, 1) := by decide +kernel
theorem dX11_worked_96 : decode cX11_worked 96 = .ok (.lcmp, 1) := by decide +kernel
theorem dX11_worked_97 : decode cX11_worked 97 = .ok (.ifCond .ne 7, 3) := by decide +kernel
theorem dX11_worked_100 : decode cX11_worked 100 = .ok (.lconst 0, 1) := by decide +kernel
theorem dX11_worked_101 : decode cX11_worked 101 = .ok (.goto 6, 3) := by decide +kernel
theorem dX11_worked_104 : decode cX11_worked 104 = .ok (.lload_n 1, 1) := by decide +kernel
theorem dX11_worked_105 : decode cX11_worked 105 = .ok (.lload_n 3, 1) := by decide +kernel
theorem dX11_worked_106 : decode cX11_worked 106 = .ok (.lrem, 1) := by decide +kernel
theorem dX11_worked_107 : decode cX11_worked 107 = .ok (.lreturn, 1) := by decide +kernel
theorem dX11_worked_108 : decode cX11_worked 108 = .ok (.lload_n 1, 1) := by decide +kernel
theorem dX11_worked_109 : decode cX11_worked 109 = .ok (.lload_n 3, 1) := by decide +kernel
theorem dX11_worked_110 : decode cX11_worked 110 = .ok (.lcmp, 1) := by decide +kernel
theorem dX11_worked_111 : decode cX11_worked 111 = .ok (.ifCond .ge 7, 3) := by decide +kernel
theorem dX11_worked_114 : decode cX11_worked 114 = .ok (.lconst 1, 1) := by decide +kernel
theorem dX11_worked_115 : decode cX11_worked 115 = .ok (.goto 4, 3) := by decide +kernel
theorem dX11_worked_118 : decode cX11_worked 118 = .ok (.lconst 0, 1) := by decide +kernel
theorem dX11_worked_119 : decode cX11_worked 119 = .ok (.lreturn, 1) := by decide +kernel
theorem dX11_worked_120 : decode cX11_worked 120 = .ok (.lload_n 1, 1) := by decide +kernel
theorem dX11_worked_121 : decode cX11_worked 121 = .ok (.lload_n 3, 1) := by decide +kernel
theorem dX11_worked_122 : decode cX11_worked 122 = .ok (.lcmp, 1) := by decide +kernel
theorem dX11_worked_123 : decode cX11_worked 123 = .ok (.ifCond .le 7, 3) := by decide +kernel
theorem dX11_worked_126 : decode cX11_worked 126 = .ok (.lconst 1, 1) := by decide +kernel
theorem dX11_worked_127 : decode cX11_worked 127 = .ok (.goto 4, 3) := by decide +kernel
theorem dX11_worked_130 : decode cX11_worked 130 = .ok (.lconst 0, 1) := by decide +kernel
theorem dX11_worked_131 : decode cX11_worked 131 = .ok (.lreturn, 1) := by decide +kernel
theorem dX11_worked_132 : decode cX11_worked 132 = .ok (.lload_n 1, 1) := by decide +kernel
theorem dX11_worked_133 : decode cX11_worked 133 = .ok (.lload_n 3, 1) := by decide +kernel
theorem dX11_worked_134 : decode cX11_worked 134 = .ok (.lcmp, 1) := by decide +kernel
theorem dX11_worked_135 : decode cX11_worked 135 = .ok (.ifCond .ne 7, 3) := by decide +kernel
theorem dX11_worked_138 : decode cX11_worked 138 = .ok (.lconst 1, 1) := by decide +kernel
theorem dX11_worked_139 : decode cX11_worked 139 = .ok (.goto 4, 3) := by decide +kernel
theorem dX11_worked_142 : decode cX11_worked 142 = .ok (.lconst 0, 1) := by decide +kernel
theorem dX11_worked_143 : decode cX11_worked 143 = .ok (.lreturn, 1) := by decide +kernel
def f11_worked_j143 (k0_j143 : Int64) : Option (Int64) := some k0_j143
def f11_worked_j131 (k0_j131 : Int64) : Option (Int64) := some k0_j131
def f11_worked_j119 (k0_j119 : Int64) : Option (Int64) := some k0_j119
def f11_worked_j107 (k0_j107 : Int64) : Option (Int64) := some k0_j107
def f11_worked_j93 (k0_j93 : Int64) : Option (Int64) := some k0_j93
def f11_worked (a0 : Int32) (a1 : Int64) (a3 : Int64) : Option (Int64) := if a0 = 37 then (if (lg_cmp a3 ((0 : Int64))) = 0 then (f11_worked_j107 ((0 : Int64))) else (chk (decide (¬ a3 = 0)) (f11_worked_j107 ((a1 - a1 / a3 * a3))))) else if a0 = 42 then (some ((a1 * a3))) else if a0 = 43 then (some ((a1 + a3))) else if a0 = 45 then (some ((a1 - a3))) else if a0 = 47 then (if (lg_cmp a3 ((0 : Int64))) = 0 then (f11_worked_j93 ((0 : Int64))) else (chk (decide (¬ a3 = 0)) (f11_worked_j93 ((a1 / a3))))) else if a0 = 60 then (if 0 ≤ (lg_cmp a1 a3) then (f11_worked_j119 ((0 : Int64))) else (f11_worked_j119 ((1 : Int64)))) else if a0 = 62 then (if (lg_cmp a1 a3) ≤ 0 then (f11_worked_j131 ((0 : Int64))) else (f11_worked_j131 ((1 : Int64)))) else (if (lg_cmp a1 a3) = 0 then (f11_worked_j143 ((1 : Int64))) else (f11_worked_j143 ((0 : Int64))))
set_option maxHeartbeats 4000000 in
set_option maxRecDepth 100000 in
theorem m11_worked (l : Launch) (D : va_G) (ad : Nat → Nat) (cy : Nat → ClassId) (sz : Nat) (s11 : OS) (a0 : Int32) (a1 : Int64) (a3 : Int64) (r : Int64) (h : f11_worked a0 a1 a3 = some r) : Met l yX11_worked (wsOf yX11_worked cX11_worked 5 (some .long)) (rmL 0) (va_Pc ([.int a0, .long a1, .long a3] : List Value) (PreG D cy (cellsM ad cy s11) sz NM)) (QcL D ad 66 (cellsM ad cy s11) (r) sz) 0 0 (Afr ad 66 sz) := by
  refine metG (own := RX11) (by decide) rfl (Nat.le_of_ble_eq_true rfl) fstM ?_ sz
  intro p e s m below meth c ls C0 hw hl
  obtain ⟨hx, hb, hml, hown, hts, hr, hlk, hK, hN⟩ := C0
  have hl : lv_has ls 5 [(0, .int a0), (1, .long a1), (3, .long a3)] := hl
  generalize hQ : MQ below (QcL D ad 66 (cellsM ad cy s11) (r) s.heap.size) ([.int a0, .long a1, .long a3] : List Value).toArray s 0 0 (Afr ad 66 s.heap.size) = Q
  obtain ⟨H, hH⟩ : ∃ H : Heap, H = s.heap := ⟨_, rfl⟩
  obtain ⟨locs, hlc⟩ : ∃ L : List Loc, L = [] := ⟨_, rfl⟩
  have hw : Wd D (cellsM ad cy s11) (Afr ad 66 s.heap.size) s.heap H locs := by rw [hH, hlc]; exact hw
  suffices h0 : W p l e (rmL 0) s m ([.int a0, .long a1, .long a3] : List Value).toArray below meth c H locs 0 0 Q (F0 m 0 ls []) by rw [hH, hlc] at h0; exact h0
  clear hH hlc
  unfold f11_worked at h
  have hJ_143 : ∀ (k0_j143 : Int64) (H : Heap) (locs : List Loc) (ls : Array Slot), f11_worked_j143 k0_j143 = some r → Wd D (cellsM ad cy s11) (Afr ad 66 s.heap.size) s.heap H locs → lv_has ls 5 [] → W p l e (rmL 0) s m ([.int a0, .long a1, .long a3] : List Value).toArray below meth c H locs 0 0 Q (F0 m 143 ls [.long k0_j143]) := by
    intro k0_j143 H locs ls h hw hl
    unfold f11_worked_j143 at h
    have h := Option.some.inj h
    subst h
    rw [← hQ]
    exact retL hx hb hr hlk hw dX11_worked_143
  have hJ_131 : ∀ (k0_j131 : Int64) (H : Heap) (locs : List Loc) (ls : Array Slot), f11_worked_j131 k0_j131 = some r → Wd D (cellsM ad cy s11) (Afr ad 66 s.heap.size) s.heap H locs → lv_has ls 5 [] → W p l e (rmL 0) s m ([.int a0, .long a1, .long a3] : List Value).toArray below meth c H locs 0 0 Q (F0 m 131 ls [.long k0_j131]) := by
    intro k0_j131 H locs ls h hw hl
    unfold f11_worked_j131 at h
    have h := Option.some.inj h
    subst h
    rw [← hQ]
    exact retL hx hb hr hlk hw dX11_worked_131
  have hJ_119 : ∀ (k0_j119 : Int64) (H : Heap) (locs : List Loc) (ls : Array Slot), f11_worked_j119 k0_j119 = some r → Wd D (cellsM ad cy s11) (Afr ad 66 s.heap.size) s.heap H locs → lv_has ls 5 [] → W p l e (rmL 0) s m ([.int a0, .long a1, .long a3] : List Value).toArray below meth c H locs 0 0 Q (F0 m 119 ls [.long k0_j119]) := by
    intro k0_j119 H locs ls h hw hl
    unfold f11_worked_j119 at h
    have h := Option.some.inj h
    subst h
    rw [← hQ]
    exact retL hx hb hr hlk hw dX11_worked_119
  have hJ_107 : ∀ (k0_j107 : Int64) (H : Heap) (locs : List Loc) (ls : Array Slot), f11_worked_j107 k0_j107 = some r → Wd D (cellsM ad cy s11) (Afr ad 66 s.heap.size) s.heap H locs → lv_has ls 5 [] → W p l e (rmL 0) s m ([.int a0, .long a1, .long a3] : List Value).toArray below meth c H locs 0 0 Q (F0 m 107 ls [.long k0_j107]) := by
    intro k0_j107 H locs ls h hw hl
    unfold f11_worked_j107 at h
    have h := Option.some.inj h
    subst h
    rw [← hQ]
    exact retL hx hb hr hlk hw dX11_worked_107
  have hJ_93 : ∀ (k0_j93 : Int64) (H : Heap) (locs : List Loc) (ls : Array Slot), f11_worked_j93 k0_j93 = some r → Wd D (cellsM ad cy s11) (Afr ad 66 s.heap.size) s.heap H locs → lv_has ls 5 [] → W p l e (rmL 0) s m ([.int a0, .long a1, .long a3] : List Value).toArray below meth c H locs 0 0 Q (F0 m 93 ls [.long k0_j93]) := by
    intro k0_j93 H locs ls h hw hl
    unfold f11_worked_j93 at h
    have h := Option.some.inj h
    subst h
    rw [← hQ]
    exact retL hx hb hr hlk hw dX11_worked_93
  refine lv_iload_n hx hb dX11_worked_0 rfl (lv_at hl 0 rfl) ?_
  have q_1 : ∀ tgt : Nat, W p l e (rmL 0) s m ([.int a0, .long a1, .long a3] : List Value).toArray below meth c H locs 0 0 Q (F0 m tgt ls []) → W p l e (rmL 0) s m ([.int a0, .long a1, .long a3] : List Value).toArray below meth c H locs 0 0 Q (F0 m tgt ls []) := fun _ z => z
  by_cases c_1_37 : a0 = 37
  · have h := ite_t c_1_37 h
    refine lv_lookup (off := 93) (tgt := 94) hx hb dX11_worked_1 (by decide) (by rw [c_1_37]; rfl) (by decide) ?_
    refine lv_lload_n hx hb dX11_worked_94 rfl (lv_at hl 2 rfl) ?_
    refine lv_lconst (v := 0) hx hb dX11_worked_95 (by decide) ?_
    refine W.lcmp hx hb dX11_worked_96 ?_
    refine lv_if_ne (tgt := 104) hx hb dX11_worked_97 (by decide) (fun c_97 => ?_) (fun c_97 => ?_)
    · have h := ite_f c_97 h
      refine lv_lload_n hx hb dX11_worked_104 rfl (lv_at hl 1 rfl) ?_
      refine lv_lload_n hx hb dX11_worked_105 rfl (lv_at hl 2 rfl) ?_
      obtain ⟨hz_106, h⟩ := chk_e h
      refine lv_lrem hx hb dX11_worked_106 (of_decide_eq_true hz_106) ?_
      exact hJ_107 ((a1 - a1 / a3 * a3)) H locs ls h hw (lv_sub hl [] rfl)
    · have h := ite_t c_97 h
      refine lv_lconst (v := 0) hx hb dX11_worked_100 (by decide) ?_
      refine lv_goto (tgt := 107) hx hb dX11_worked_101 (by decide) ?_
      exact hJ_107 ((0 : Int64)) H locs ls h hw (lv_sub hl [] rfl)
  have h := ite_f c_1_37 h
  by_cases c_1_42 : a0 = 42
  · have h := ite_t c_1_42 h
    refine lv_lookup (off := 75) (tgt := 76) hx hb dX11_worked_1 (by decide) (by rw [c_1_42]; rfl) (by decide) ?_
    refine lv_lload_n hx hb dX11_worked_76 rfl (lv_at hl 1 rfl) ?_
    refine lv_lload_n hx hb dX11_worked_77 rfl (lv_at hl 2 rfl) ?_
    refine lv_lmul hx hb dX11_worked_78 ?_
    have h := Option.some.inj h
    subst h
    rw [← hQ]
    exact retL hx hb hr hlk hw dX11_worked_79
  have h := ite_f c_1_42 h
  by_cases c_1_43 : a0 = 43
  · have h := ite_t c_1_43 h
    refine lv_lookup (off := 67) (tgt := 68) hx hb dX11_worked_1 (by decide) (by rw [c_1_43]; rfl) (by decide) ?_
    refine lv_lload_n hx hb dX11_worked_68 rfl (lv_at hl 1 rfl) ?_
    refine lv_lload_n hx hb dX11_worked_69 rfl (lv_at hl 2 rfl) ?_
    refine lv_ladd hx hb dX11_worked_70 ?_
    have h := Option.some.inj h
    subst h
    rw [← hQ]
    exact retL hx hb hr hlk hw dX11_worked_71
  have h := ite_f c_1_43 h
  by_cases c_1_45 : a0 = 45
  · have h := ite_t c_1_45 h
    refine lv_lookup (off := 71) (tgt := 72) hx hb dX11_worked_1 (by decide) (by rw [c_1_45]; rfl) (by decide) ?_
    refine lv_lload_n hx hb dX11_worked_72 rfl (lv_at hl 1 rfl) ?_
    refine lv_lload_n hx hb dX11_worked_73 rfl (lv_at hl 2 rfl) ?_
    refine lv_lsub hx hb dX11_worked_74 ?_
    have h := Option.some.inj h
    subst h
    rw [← hQ]
    exact retL hx hb hr hlk hw dX11_worked_75
  have h := ite_f c_1_45 h
  by_cases c_1_47 : a0 = 47
  · have h := ite_t c_1_47 h
    refine lv_lookup (off := 79) (tgt := 80) hx hb dX11_worked_1 (by decide) (by rw [c_1_47]; rfl) (by decide) ?_
    refine lv_lload_n hx hb dX11_worked_80 rfl (lv_at hl 2 rfl) ?_
    refine lv_lconst (v := 0) hx hb dX11_worked_81 (by decide) ?_
    refine W.lcmp hx hb dX11_worked_82 ?_
    refine lv_if_ne (tgt := 90) hx hb dX11_worked_83 (by decide) (fun c_83 => ?_) (fun c_83 => ?_)
    · have h := ite_f c_83 h
      refine lv_lload_n hx hb dX11_worked_90 rfl (lv_at hl 1 rfl) ?_
      refine lv_lload_n hx hb dX11_worked_91 rfl (lv_at hl 2 rfl) ?_
      obtain ⟨hz_92, h⟩ := chk_e h
      refine lv_ldiv hx hb dX11_worked_92 (of_decide_eq_true hz_92) ?_
      exact hJ_93 ((a1 / a3)) H locs ls h hw (lv_sub hl [] rfl)
    · have h := ite_t c_83 h
      refine lv_lconst (v := 0) hx hb dX11_worked_86 (by decide) ?_
      refine lv_goto (tgt := 93) hx hb dX11_worked_87 (by decide) ?_
      exact hJ_93 ((0 : Int64)) H locs ls h hw (lv_sub hl [] rfl)
  have h := ite_f c_1_47 h
  by_cases c_1_60 : a0 = 60
  · have h := ite_t c_1_60 h
    refine lv_lookup (off := 107) (tgt := 108) hx hb dX11_worked_1 (by decide) (by rw [c_1_60]; rfl) (by decide) ?_
    refine lv_lload_n hx hb dX11_worked_108 rfl (lv_at hl 1 rfl) ?_
    refine lv_lload_n hx hb dX11_worked_109 rfl (lv_at hl 2 rfl) ?_
    refine W.lcmp hx hb dX11_worked_110 ?_
    refine lv_if_ge (tgt := 118) hx hb dX11_worked_111 (by decide) (fun c_111 => ?_) (fun c_111 => ?_)
    · have h := ite_t c_111 h
      refine lv_lconst (v := 0) hx hb dX11_worked_118 (by decide) ?_
      exact hJ_119 ((0 : Int64)) H locs ls h hw (lv_sub hl [] rfl)
    · have h := ite_f c_111 h
      refine lv_lconst (v := 1) hx hb dX11_worked_114 (by decide) ?_
      refine lv_goto (tgt := 119) hx hb dX11_worked_115 (by decide) ?_
      exact hJ_119 ((1 : Int64)) H locs ls h hw (lv_sub hl [] rfl)
  have h := ite_f c_1_60 h
  by_cases c_1_62 : a0 = 62
  · have h := ite_t c_1_62 h
    refine lv_lookup (off := 119) (tgt := 120) hx hb dX11_worked_1 (by decide) (by rw [c_1_62]; rfl) (by decide) ?_
    refine lv_lload_n hx hb dX11_worked_120 rfl (lv_at hl 1 rfl) ?_
    refine lv_lload_n hx hb dX11_worked_121 rfl (lv_at hl 2 rfl) ?_
    refine W.lcmp hx hb dX11_worked_122 ?_
    refine lv_if_le (tgt := 130) hx hb dX11_worked_123 (by decide) (fun c_123 => ?_) (fun c_123 => ?_)
    · have h := ite_t c_123 h
      refine lv_lconst (v := 0) hx hb dX11_worked_130 (by decide) ?_
      exact hJ_131 ((0 : Int64)) H locs ls h hw (lv_sub hl [] rfl)
    · have h := ite_f c_123 h
      refine lv_lconst (v := 1) hx hb dX11_worked_126 (by decide) ?_
      refine lv_goto (tgt := 131) hx hb dX11_worked_127 (by decide) ?_
      exact hJ_131 ((1 : Int64)) H locs ls h hw (lv_sub hl [] rfl)
  have h := ite_f c_1_62 h
  refine lv_lookup (off := 131) (tgt := 132) hx hb dX11_worked_1 (by decide) (by show Op.lookupswitch.offset [(37, 93), (42, 75), (43, 67), (45, 71), (47, 79), (60, 107), (62, 119)] 131 _ = _; rw [lv_osw (a := 37) c_1_37 rfl, lv_osw (a := 42) c_1_42 rfl, lv_osw (a := 43) c_1_43 rfl, lv_osw (a := 45) c_1_45 rfl, lv_osw (a := 47) c_1_47 rfl, lv_osw (a := 60) c_1_60 rfl, lv_osw (a := 62) c_1_62 rfl]; rfl) (by decide) ?_
  refine lv_lload_n hx hb dX11_worked_132 rfl (lv_at hl 1 rfl) ?_
  refine lv_lload_n hx hb dX11_worked_133 rfl (lv_at hl 2 rfl) ?_
  refine W.lcmp hx hb dX11_worked_134 ?_
  refine lv_if_ne (tgt := 142) hx hb dX11_worked_135 (by decide) (fun c_135 => ?_) (fun c_135 => ?_)
  · have h := ite_f c_135 h
    refine lv_lconst (v := 0) hx hb dX11_worked_142 (by decide) ?_
    exact hJ_143 ((0 : Int64)) H locs ls h hw (lv_sub hl [] rfl)
  · have h := ite_t c_135 h
    refine lv_lconst (v := 1) hx hb dX11_worked_138 (by decide) ?_
    refine lv_goto (tgt := 143) hx hb dX11_worked_139 (by decide) ?_
    exact hJ_143 ((1 : Int64)) H locs ls h hw (lv_sub hl [] rfl)
theorem dX11_does_0 : decode cX11_does 0 = .ok (.iload_n 2, 1) := by decide +kernel
theorem dX11_does_1 : decode cX11_does 1 = .ok (.iconst 1, 1) := by decide +kernel
theorem dX11_does_2 : decode cX11_does 2 = .ok (.iadd, 1) := by decide +kernel
theorem dX11_does_3 : decode cX11_does 3 = .ok (.istore_n 3, 1) := by decide +kernel
theorem dX11_does_4 : decode cX11_does 4 = .ok (.iload_n 1, 1) := by decide +kernel
theorem dX11_does_5 : decode cX11_does 5 = .ok (.bipush 38, 2) := by decide +kernel
theorem dX11_does_7 : decode cX11_does 7 = .ok (.if_icmp .eq 9, 3) := by decide +kernel
theorem dX11_does_10 : decode cX11_does 10 = .ok (.iload_n 1, 1) := by decide +kernel
theorem dX11_does_11 : decode cX11_does 11 = .ok (.bipush 124, 2) := by decide +kernel
theorem dX11_does_13 : decode cX11_does 13 = .ok (.if_icmp .ne 59, 3) := by decide +kernel
theorem dX11_does_16 : decode cX11_does 16 = .ok (.aload_n 0, 1) := by decide +kernel
theorem dX11_does_17 : decode cX11_does 17 = .ok (.getfield 115, 3) := by decide +kernel
theorem dX11_does_20 : decode cX11_does 20 = .ok (.iload_n 2, 1) := by decide +kernel
theorem dX11_does_21 : decode cX11_does 21 = .ok (.baload, 1) := by decide +kernel
theorem dX11_does_22 : decode cX11_does 22 = .ok (.ifCond .ne 24, 3) := by decide +kernel
theorem dX11_does_25 : decode cX11_does 25 = .ok (.aload_n 0, 1) := by decide +kernel
theorem dX11_does_26 : decode cX11_does 26 = .ok (.getfield 112, 3) := by decide +kernel
theorem dX11_does_29 : decode cX11_does 29 = .ok (.iload_n 2, 1) := by decide +kernel
theorem dX11_does_30 : decode cX11_does 30 = .ok (.laload, 1) := by decide +kernel
theorem dX11_does_31 : decode cX11_does 31 = .ok (.iload_n 1, 1) := by decide +kernel
theorem dX11_does_32 : decode cX11_does 32 = .ok (.bipush 38, 2) := by decide +kernel
theorem dX11_does_34 : decode cX11_does 34 = .ok (.if_icmp .ne 7, 3) := by decide +kernel
theorem dX11_does_37 : decode cX11_does 37 = .ok (.lconst 1, 1) := by decide +kernel
theorem dX11_does_38 : decode cX11_does 38 = .ok (.goto 4, 3) := by decide +kernel
theorem dX11_does_41 : decode cX11_does 41 = .ok (.lconst 0, 1) := by decide +kernel
theorem dX11_does_42 : decode cX11_does 42 = .ok (.lcmp, 1) := by decide +kernel
theorem dX11_does_43 : decode cX11_does 43 = .ok (.ifCond .eq 4, 3) := by decide +kernel
theorem dX11_does_46 : decode cX11_does 46 = .ok (.return_, 1) := by decide +kernel
theorem dX11_does_47 : decode cX11_does 47 = .ok (.aload_n 0, 1) := by decide +kernel
theorem dX11_does_48 : decode cX11_does 48 = .ok (.getfield 112, 3) := by decide +kernel
theorem dX11_does_51 : decode cX11_does 51 = .ok (.iload_n 2, 1) := by decide +kernel
theorem dX11_does_52 : decode cX11_does 52 = .ok (.aload_n 0, 1) := by decide +kernel
theorem dX11_does_53 : decode cX11_does 53 = .ok (.getfield 112, 3) := by decide +kernel
theorem dX11_does_56 : decode cX11_does 56 = .ok (.iload_n 3, 1) := by decide +kernel
theorem dX11_does_57 : decode cX11_does 57 = .ok (.laload, 1) := by decide +kernel
theorem dX11_does_58 : decode cX11_does 58 = .ok (.lastore, 1) := by decide +kernel
theorem dX11_does_59 : decode cX11_does 59 = .ok (.aload_n 0, 1) := by decide +kernel
theorem dX11_does_60 : decode cX11_does 60 = .ok (.getfield 115, 3) := by decide +kernel
theorem dX11_does_63 : decode cX11_does 63 = .ok (.iload_n 2, 1) := by decide +kernel
theorem dX11_does_64 : decode cX11_does 64 = .ok (.aload_n 0, 1) := by decide +kernel
theorem dX11_does_65 : decode cX11_does 65 = .ok (.getfield 115, 3) := by decide +kernel
theorem dX11_does_68 : decode cX11_does 68 = .ok (.iload_n 3, 1) := by decide +kernel
theorem dX11_does_69 : decode cX11_does 69 = .ok (.baload, 1) := by decide +kernel
theorem dX11_does_70 : decode cX11_does 70 = .ok (.bastore, 1) := by decide +kernel
theorem dX11_does_71 : decode cX11_does 71 = .ok (.return_, 1) := by decide +kernel
theorem dX11_does_72 : decode cX11_does 72 = .ok (.aload_n 0, 1) := by decide +kernel
theorem dX11_does_73 : decode cX11_does 73 = .ok (.getfield 115, 3) := by decide +kernel
theorem dX11_does_76 : decode cX11_does 76 = .ok (.iload_n 2, 1) := by decide +kernel
theorem dX11_does_77 : decode cX11_does 77 = .ok (.aload_n 0, 1) := by decide +kernel
theorem dX11_does_78 : decode cX11_does 78 = .ok (.getfield 115, 3) := by decide +kernel
theorem dX11_does_81 : decode cX11_does 81 = .ok (.iload_n 2, 1) := by decide +kernel
theorem dX11_does_82 : decode cX11_does 82 = .ok (.baload, 1) := by decide +kernel
theorem dX11_does_83 : decode cX11_does 83 = .ok (.ifCond .ne 35, 3) := by decide +kernel
theorem dX11_does_86 : decode cX11_does 86 = .ok (.aload_n 0, 1) := by decide +kernel
theorem dX11_does_87 : decode cX11_does 87 = .ok (.getfield 115, 3) := by decide +kernel
theorem dX11_does_90 : decode cX11_does 90 = .ok (.iload_n 3, 1) := by decide +kernel
theorem dX11_does_91 : decode cX11_does 91 = .ok (.baload, 1) := by decide +kernel
theorem dX11_does_92 : decode cX11_does 92 = .ok (.ifCond .ne 26, 3) := by decide +kernel
theorem dX11_does_95 : decode cX11_does 95 = .ok (.iload_n 1, 1) := by decide +kernel
theorem dX11_does_96 : decode cX11_does 96 = .ok (.bipush 47, 2) := by decide +kernel
theorem dX11_does_98 : decode cX11_does 98 = .ok (.if_icmp .eq 9, 3) := by decide +kernel
theorem dX11_does_101 : decode cX11_does 101 = .ok (.iload_n 1, 1) := by decide +kernel
theorem dX11_does_102 : decode cX11_does 102 = .ok (.bipush 37, 2) := by decide +kernel
theorem dX11_does_104 : decode cX11_does 104 = .ok (.if_icmp .ne 18, 3) := by decide +kernel
theorem dX11_does_107 : decode cX11_does 107 = .ok (.aload_n 0, 1) := by decide +kernel
theorem dX11_does_108 : decode cX11_does 108 = .ok (.getfield 112, 3) := by decide +kernel
theorem dX11_does_111 : decode cX11_does 111 = .ok (.iload_n 3, 1) := by decide +kernel
theorem dX11_does_112 : decode cX11_does 112 = .ok (.laload, 1) := by decide +kernel
theorem dX11_does_113 : decode cX11_does 113 = .ok (.lconst 0, 1) := by decide +kernel
theorem dX11_does_114 : decode cX11_does 114 = .ok (.lcmp, 1) := by decide +kernel
theorem dX11_does_115 : decode cX11_does 115 = .ok (.ifCond .ne 7, 3) := by decide +kernel
theorem dX11_does_118 : decode cX11_does 118 = .ok (.iconst 1, 1) := by decide +kernel
theorem dX11_does_119 : decode cX11_does 119 = .ok (.goto 4, 3) := by decide +kernel
theorem dX11_does_122 : decode cX11_does 122 = .ok (.iconst 0, 1) := by decide +kernel
theorem dX11_does_123 : decode cX11_does 123 = .ok (.bastore, 1) := by decide +kernel
theorem dX11_does_124 : decode cX11_does 124 = .ok (.aload_n 0, 1) := by decide +kernel
theorem dX11_does_125 : decode cX11_does 125 = .ok (.getfield 112, 3) := by decide +kernel
theorem dX11_does_128 : decode cX11_does 128 = .ok (.iload_n 2, 1) := by decide +kernel
theorem dX11_does_129 : decode cX11_does 129 = .ok (.iload_n 1, 1) := by decide +kernel
theorem dX11_does_130 : decode cX11_does 130 = .ok (.aload_n 0, 1) := by decide +kernel
theorem dX11_does_131 : decode cX11_does 131 = .ok (.getfield 112, 3) := by decide +kernel
theorem dX11_does_134 : decode cX11_does 134 = .ok (.iload_n 2, 1) := by decide +kernel
theorem dX11_does_135 : decode cX11_does 135 = .ok (.laload, 1) := by decide +kernel
theorem dX11_does_136 : decode cX11_does 136 = .ok (.aload_n 0, 1) := by decide +kernel
theorem dX11_does_137 : decode cX11_does 137 = .ok (.getfield 112, 3) := by decide +kernel
theorem dX11_does_140 : decode cX11_does 140 = .ok (.iload_n 3, 1) := by decide +kernel
theorem dX11_does_141 : decode cX11_does 141 = .ok (.laload, 1) := by decide +kernel
theorem dX11_does_142 : decode cX11_does 142 = .ok (.invokestatic 418, 3) := by decide +kernel
theorem dX11_does_145 : decode cX11_does 145 = .ok (.lastore, 1) := by decide +kernel
theorem dX11_does_146 : decode cX11_does 146 = .ok (.return_, 1) := by decide +kernel
def f11_does_j123 (v1_j123 : Int32) (v2_j123 : Int32) (v3_j123 : Int32) (k1_j123 : Int32) (k2_j123 : Int32) (s11_j123 : OS) : Option (OS) := chk (inb k1_j123 200) (nm (wI s11_j123 57 k1_j123.toNatClampNeg (vp_nar .boolean k2_j123)) fun s11_123 => chk (inb v2_j123 200) (nm (s11_123.2 56 v2_j123.toNatClampNeg) fun y_135 => chk (inb v3_j123 200) (nm (s11_123.2 56 v3_j123.toNatClampNeg) fun y_141 => Option.bind (f11_worked v1_j123 y_135 y_141) fun q_142 => chk (inb v2_j123 200) (nm (wL s11_123 56 v2_j123.toNatClampNeg q_142) fun s11_145 => some s11_145))))
def f11_does_j122 (v1_j122 : Int32) (v2_j122 : Int32) (v3_j122 : Int32) (k1_j122 : Int32) (s11_j122 : OS) : Option (OS) := f11_does_j123 v1_j122 v2_j122 v3_j122 k1_j122 ((0 : Int32)) s11_j122
def f11_does_j118 (v1_j118 : Int32) (v2_j118 : Int32) (v3_j118 : Int32) (k1_j118 : Int32) (s11_j118 : OS) : Option (OS) := f11_does_j123 v1_j118 v2_j118 v3_j118 k1_j118 ((1 : Int32)) s11_j118
def f11_does_j107 (v1_j107 : Int32) (v2_j107 : Int32) (v3_j107 : Int32) (k1_j107 : Int32) (s11_j107 : OS) : Option (OS) := chk (inb v3_j107 200) (nm (s11_j107.2 56 v3_j107.toNatClampNeg) fun y_112 => if (lg_cmp y_112 ((0 : Int64))) = 0 then (f11_does_j118 v1_j107 v2_j107 v3_j107 k1_j107 s11_j107) else (f11_does_j122 v1_j107 v2_j107 v3_j107 k1_j107 s11_j107))
def f11_does_j46 (s11_j46 : OS) : Option (OS) := some s11_j46
def f11_does_j42 (v2_j42 : Int32) (v3_j42 : Int32) (k0_j42 : Int64) (k1_j42 : Int64) (s11_j42 : OS) : Option (OS) := if (lg_cmp k0_j42 k1_j42) = 0 then (chk (inb v3_j42 200) (nm (s11_j42.2 56 v3_j42.toNatClampNeg) fun y_57 => chk (inb v2_j42 200) (nm (wL s11_j42 56 v2_j42.toNatClampNeg y_57) fun s11_58 => chk (inb v3_j42 200) (nm (s11_58.1 57 v3_j42.toNatClampNeg) fun y_69 => chk (inb v2_j42 200) (nm (wI s11_58 57 v2_j42.toNatClampNeg (vp_nar .boolean y_69)) fun s11_70 => some s11_70))))) else (f11_does_j46 s11_j42)
def f11_does_j16 (v1_j16 : Int32) (v2_j16 : Int32) (v3_j16 : Int32) (s11_j16 : OS) : Option (OS) := chk (inb v2_j16 200) (nm (s11_j16.1 57 v2_j16.toNatClampNeg) fun y_21 => if y_21 = 0 then (chk (inb v2_j16 200) (nm (s11_j16.2 56 v2_j16.toNatClampNeg) fun y_30 => if v1_j16 = (38 : Int32) then (f11_does_j42 v2_j16 v3_j16 y_30 ((1 : Int64)) s11_j16) else (f11_does_j42 v2_j16 v3_j16 y_30 ((0 : Int64)) s11_j16))) else (f11_does_j46 s11_j16))
def f11_does (a1 : Int32) (a2 : Int32) (s11 : OS) : Option (OS) := nm ((a2 + (1 : Int32))) fun n_3 => if a1 = (38 : Int32) then (f11_does_j16 a1 a2 n_3 s11) else (if a1 = (124 : Int32) then (f11_does_j16 a1 a2 n_3 s11) else (chk (inb a2 200) (nm (s11.1 57 a2.toNatClampNeg) fun y_82 => if y_82 = 0 then (chk (inb n_3 200) (nm (s11.1 57 n_3.toNatClampNeg) fun y_91 => if y_91 = 0 then (if a1 = (47 : Int32) then (f11_does_j107 a1 a2 n_3 a2 s11) else (if a1 = (37 : Int32) then (f11_does_j107 a1 a2 n_3 a2 s11) else (f11_does_j122 a1 a2 n_3 a2 s11))) else (f11_does_j118 a1 a2 n_3 a2 s11))) else (f11_does_j118 a1 a2 n_3 a2 s11))))
set_option maxHeartbeats 4000000 in
set_option maxRecDepth 100000 in
theorem m11_does (l : Launch) (D : va_G) (ad : Nat → Nat) (cy : Nat → ClassId) (sz : Nat) (s11 : OS) (a1 : Int32) (a2 : Int32) (r : OS) (h : f11_does a1 a2 s11 = some r) : Met l yX11_does (wsOf yX11_does cX11_does 4 none) (rmL 1) (va_Pc ([.ref (ad 0), .int a1, .int a2] : List Value) (PreG D cy (cellsM ad cy s11) sz NM)) (QcV D ad 66 (cellsM ad cy r) sz) 0 0 (Afr ad 66 sz) := by
  refine metG (own := RX11) (by decide) rfl (Nat.le_of_ble_eq_true rfl) fstM ?_ sz
  intro p e s m below meth c ls C0 hw hl
  obtain ⟨hx, hb, hml, hown, hts, hr, hlk, hK, hN⟩ := C0
  have hl : lv_has ls 4 [(0, .ref (ad 0)), (1, .int a1), (2, .int a2)] := hl
  generalize hQ : MQ below (QcV D ad 66 (cellsM ad cy r) s.heap.size) ([.ref (ad 0), .int a1, .int a2] : List Value).toArray s 0 0 (Afr ad 66 s.heap.size) = Q
  obtain ⟨H, hH⟩ : ∃ H : Heap, H = s.heap := ⟨_, rfl⟩
  obtain ⟨locs, hlc⟩ : ∃ L : List Loc, L = [] := ⟨_, rfl⟩
  have hw : Wd D (cellsM ad cy s11) (Afr ad 66 s.heap.size) s.heap H locs := by rw [hH, hlc]; exact hw
  suffices h0 : W p l e (rmL 1) s m ([.ref (ad 0), .int a1, .int a2] : List Value).toArray below meth c H locs 0 0 Q (F0 m 0 ls []) by rw [hH, hlc] at h0; exact h0
  clear hH hlc
  unfold f11_does at h
  have hJ_123 : ∀ (v1_j123 : Int32) (v2_j123 : Int32) (v3_j123 : Int32) (k1_j123 : Int32) (k2_j123 : Int32) (s11_j123 : OS) (H : Heap) (locs : List Loc) (ls : Array Slot), f11_does_j123 v1_j123 v2_j123 v3_j123 k1_j123 k2_j123 s11_j123 = some r → Wd D (cellsM ad cy s11_j123) (Afr ad 66 s.heap.size) s.heap H locs → lv_has ls 4 [(0, .ref (ad 0)), (1, .int v1_j123), (2, .int v2_j123), (3, .int v3_j123)] → W p l e (rmL 1) s m ([.ref (ad 0), .int a1, .int a2] : List Value).toArray below meth c H locs 0 0 Q (F0 m 123 ls [.int k2_j123, .int k1_j123, .ref (ad 35)]) := by
    intro v1_j123 v2_j123 v3_j123 k1_j123 k2_j123 s11_j123 H locs ls h hw hl
    unfold f11_does_j123 at h
    obtain ⟨hi_123, h⟩ := chk_e h
    obtain ⟨s11_123, e_123, h⟩ := nam_e h
    refine aM35 hx hb hK hw hi_123 e_123 dX11_does_123 (fun H locs hw => ?_)
    refine lv_aload_n hx hb dX11_does_124 rfl (lv_at hl 0 rfl) ?_
    refine gX11_112 hx hb hts hown hK hw dX11_does_125 ?_
    refine lv_iload_n hx hb dX11_does_128 rfl (lv_at hl 2 rfl) ?_
    refine lv_iload_n hx hb dX11_does_129 rfl (lv_at hl 1 rfl) ?_
    refine lv_aload_n hx hb dX11_does_130 rfl (lv_at hl 0 rfl) ?_
    refine gX11_112 hx hb hts hown hK hw dX11_does_131 ?_
    refine lv_iload_n hx hb dX11_does_134 rfl (lv_at hl 2 rfl) ?_
    obtain ⟨hi_135, h⟩ := chk_e h
    obtain ⟨y_135, e_135, h⟩ := nam_e h
    refine lM34 hx hb hK hw hi_135 e_135 dX11_does_135 ?_
    refine lv_aload_n hx hb dX11_does_136 rfl (lv_at hl 0 rfl) ?_
    refine gX11_112 hx hb hts hown hK hw dX11_does_137 ?_
    refine lv_iload_n hx hb dX11_does_140 rfl (lv_at hl 3 rfl) ?_
    obtain ⟨hi_141, h⟩ := chk_e h
    obtain ⟨y_141, e_141, h⟩ := nam_e h
    refine lM34 hx hb hK hw hi_141 e_141 dX11_does_141 ?_
    obtain ⟨q_142, h_142, h⟩ := bnd_e h
    have pg_142 := preG (av := [.int v1_j123, .long y_135, .long y_141]) hK hw.1 hw.2.1 NM_keep NM_blind
    refine endL (mc := 0) (ms := 0) (va_runS (As := [.int v1_j123, .long y_135, .long y_141]) (rest := [.int v2_j123, .ref (ad 34)]) ⟨hx, hb, hml, hown, hts⟩ (m11_worked l D ad cy H.size s11_123 v1_j123 y_135 y_141 q_142 h_142) (wX11_418 0 hts ⟨Nat.le_of_ble_eq_true rfl, Nat.le_of_ble_eq_true rfl⟩) pg_142 rfl rfl hl.1 rfl (lv_room (Nat.le_of_ble_eq_true rfl)) dX11_does_142 ⟨Nat.le_refl _, Nat.le_refl _⟩) hw.2.2 (afr_in hw.2.2) (fun H locs hw => ?_)
    obtain ⟨hi_145, h⟩ := chk_e h
    obtain ⟨s11_145, e_145, h⟩ := nam_e h
    refine aM34 hx hb hK hw hi_145 e_145 dX11_does_145 (fun H locs hw => ?_)
    have h := Option.some.inj h
    subst h
    rw [← hQ]
    exact retV hx hb hr hlk hw dX11_does_146
  have hJ_122 : ∀ (v1_j122 : Int32) (v2_j122 : Int32) (v3_j122 : Int32) (k1_j122 : Int32) (s11_j122 : OS) (H : Heap) (locs : List Loc) (ls : Array Slot), f11_does_j122 v1_j122 v2_j122 v3_j122 k1_j122 s11_j122 = some r → Wd D (cellsM ad cy s11_j122) (Afr ad 66 s.heap.size) s.heap H locs → lv_has ls 4 [(0, .ref (ad 0)), (1, .int v1_j122), (2, .int v2_j122), (3, .int v3_j122)] → W p l e (rmL 1) s m ([.ref (ad 0), .int a1, .int a2] : List Value).toArray below meth c H locs 0 0 Q (F0 m 122 ls [.int k1_j122, .ref (ad 35)]) := by
    intro v1_j122 v2_j122 v3_j122 k1_j122 s11_j122 H locs ls h hw hl
    unfold f11_does_j122 at h
    refine lv_iconst (v := 0) hx hb dX11_does_122 (by decide) ?_
    exact hJ_123 v1_j122 v2_j122 v3_j122 k1_j122 ((0 : Int32)) s11_j122 H locs ls h hw (lv_sub hl [0, 1, 2, 3] rfl)
  have hJ_118 : ∀ (v1_j118 : Int32) (v2_j118 : Int32) (v3_j118 : Int32) (k1_j118 : Int32) (s11_j118 : OS) (H : Heap) (locs : List Loc) (ls : Array Slot), f11_does_j118 v1_j118 v2_j118 v3_j118 k1_j118 s11_j118 = some r → Wd D (cellsM ad cy s11_j118) (Afr ad 66 s.heap.size) s.heap H locs → lv_has ls 4 [(0, .ref (ad 0)), (1, .int v1_j118), (2, .int v2_j118), (3, .int v3_j118)] → W p l e (rmL 1) s m ([.ref (ad 0), .int a1, .int a2] : List Value).toArray below meth c H locs 0 0 Q (F0 m 118 ls [.int k1_j118, .ref (ad 35)]) := by
    intro v1_j118 v2_j118 v3_j118 k1_j118 s11_j118 H locs ls h hw hl
    unfold f11_does_j118 at h
    refine lv_iconst (v := 1) hx hb dX11_does_118 (by decide) ?_
    refine lv_goto (tgt := 123) hx hb dX11_does_119 (by decide) ?_
    exact hJ_123 v1_j118 v2_j118 v3_j118 k1_j118 ((1 : Int32)) s11_j118 H locs ls h hw (lv_sub hl [0, 1, 2, 3] rfl)
  have hJ_107 : ∀ (v1_j107 : Int32) (v2_j107 : Int32) (v3_j107 : Int32) (k1_j107 : Int32) (s11_j107 : OS) (H : Heap) (locs : List Loc) (ls : Array Slot), f11_does_j107 v1_j107 v2_j107 v3_j107 k1_j107 s11_j107 = some r → Wd D (cellsM ad cy s11_j107) (Afr ad 66 s.heap.size) s.heap H locs → lv_has ls 4 [(0, .ref (ad 0)), (1, .int v1_j107), (2, .int v2_j107), (3, .int v3_j107)] → W p l e (rmL 1) s m ([.ref (ad 0), .int a1, .int a2] : List Value).toArray below meth c H locs 0 0 Q (F0 m 107 ls [.int k1_j107, .ref (ad 35)]) := by
    intro v1_j107 v2_j107 v3_j107 k1_j107 s11_j107 H locs ls h hw hl
    unfold f11_does_j107 at h
    refine lv_aload_n hx hb dX11_does_107 rfl (lv_at hl 0 rfl) ?_
    refine gX11_112 hx hb hts hown hK hw dX11_does_108 ?_
    refine lv_iload_n hx hb dX11_does_111 rfl (lv_at hl 3 rfl) ?_
    obtain ⟨hi_112, h⟩ := chk_e h
    obtain ⟨y_112, e_112, h⟩ := nam_e h
    refine lM34 hx hb hK hw hi_112 e_112 dX11_does_112 ?_
    refine lv_lconst (v := 0) hx hb dX11_does_113 (by decide) ?_
    refine W.lcmp hx hb dX11_does_114 ?_
    refine lv_if_ne (tgt := 122) hx hb dX11_does_115 (by decide) (fun c_115 => ?_) (fun c_115 => ?_)
    · have h := ite_f c_115 h
      exact hJ_122 v1_j107 v2_j107 v3_j107 k1_j107 s11_j107 H locs ls h hw (lv_sub hl [0, 1, 2, 3] rfl)
    · have h := ite_t c_115 h
      exact hJ_118 v1_j107 v2_j107 v3_j107 k1_j107 s11_j107 H locs ls h hw (lv_sub hl [0, 1, 2, 3] rfl)
  have hJ_46 : ∀ (s11_j46 : OS) (H : Heap) (locs : List Loc) (ls : Array Slot), f11_does_j46 s11_j46 = some r → Wd D (cellsM ad cy s11_j46) (Afr ad 66 s.heap.size) s.heap H locs → lv_has ls 4 [] → W p l e (rmL 1) s m ([.ref (ad 0), .int a1, .int a2] : List Value).toArray below meth c H locs 0 0 Q (F0 m 46 ls []) := by
    intro s11_j46 H locs ls h hw hl
    unfold f11_does_j46 at h
    have h := Option.some.inj h
    subst h
    rw [← hQ]
    exact retV hx hb hr hlk hw dX11_does_46
  have hJ_42 : ∀ (v2_j42 : Int32) (v3_j42 : Int32) (k0_j42 : Int64) (k1_j42 : Int64) (s11_j42 : OS) (H : Heap) (locs : List Loc) (ls : Array Slot), f11_does_j42 v2_j42 v3_j42 k0_j42 k1_j42 s11_j42 = some r → Wd D (cellsM ad cy s11_j42) (Afr ad 66 s.heap.size) s.heap H locs → lv_has ls 4 [(0, .ref (ad 0)), (2, .int v2_j42), (3, .int v3_j42)] → W p l e (rmL 1) s m ([.ref (ad 0), .int a1, .int a2] : List Value).toArray below meth c H locs 0 0 Q (F0 m 42 ls [.long k1_j42, .long k0_j42]) := by
    intro v2_j42 v3_j42 k0_j42 k1_j42 s11_j42 H locs ls h hw hl
    unfold f11_does_j42 at h
    refine W.lcmp hx hb dX11_does_42 ?_
    refine lv_if_eq (tgt := 47) hx hb dX11_does_43 (by decide) (fun c_43 => ?_) (fun c_43 => ?_)
    · have h := ite_t c_43 h
      refine lv_aload_n hx hb dX11_does_47 rfl (lv_at hl 0 rfl) ?_
      refine gX11_112 hx hb hts hown hK hw dX11_does_48 ?_
      refine lv_iload_n hx hb dX11_does_51 rfl (lv_at hl 1 rfl) ?_
      refine lv_aload_n hx hb dX11_does_52 rfl (lv_at hl 0 rfl) ?_
      refine gX11_112 hx hb hts hown hK hw dX11_does_53 ?_
      refine lv_iload_n hx hb dX11_does_56 rfl (lv_at hl 2 rfl) ?_
      obtain ⟨hi_57, h⟩ := chk_e h
      obtain ⟨y_57, e_57, h⟩ := nam_e h
      refine lM34 hx hb hK hw hi_57 e_57 dX11_does_57 ?_
      obtain ⟨hi_58, h⟩ := chk_e h
      obtain ⟨s11_58, e_58, h⟩ := nam_e h
      refine aM34 hx hb hK hw hi_58 e_58 dX11_does_58 (fun H locs hw => ?_)
      refine lv_aload_n hx hb dX11_does_59 rfl (lv_at hl 0 rfl) ?_
      refine gX11_115 hx hb hts hown hK hw dX11_does_60 ?_
      refine lv_iload_n hx hb dX11_does_63 rfl (lv_at hl 1 rfl) ?_
      refine lv_aload_n hx hb dX11_does_64 rfl (lv_at hl 0 rfl) ?_
      refine gX11_115 hx hb hts hown hK hw dX11_does_65 ?_
      refine lv_iload_n hx hb dX11_does_68 rfl (lv_at hl 2 rfl) ?_
      obtain ⟨hi_69, h⟩ := chk_e h
      obtain ⟨y_69, e_69, h⟩ := nam_e h
      refine lM35 hx hb hK hw hi_69 e_69 dX11_does_69 ?_
      obtain ⟨hi_70, h⟩ := chk_e h
      obtain ⟨s11_70, e_70, h⟩ := nam_e h
      refine aM35 hx hb hK hw hi_70 e_70 dX11_does_70 (fun H locs hw => ?_)
      have h := Option.some.inj h
      subst h
      rw [← hQ]
      exact retV hx hb hr hlk hw dX11_does_71
    · have h := ite_f c_43 h
      exact hJ_46 s11_j42 H locs ls h hw (lv_sub hl [] rfl)
  have hJ_16 : ∀ (v1_j16 : Int32) (v2_j16 : Int32) (v3_j16 : Int32) (s11_j16 : OS) (H : Heap) (locs : List Loc) (ls : Array Slot), f11_does_j16 v1_j16 v2_j16 v3_j16 s11_j16 = some r → Wd D (cellsM ad cy s11_j16) (Afr ad 66 s.heap.size) s.heap H locs → lv_has ls 4 [(0, .ref (ad 0)), (1, .int v1_j16), (2, .int v2_j16), (3, .int v3_j16)] → W p l e (rmL 1) s m ([.ref (ad 0), .int a1, .int a2] : List Value).toArray below meth c H locs 0 0 Q (F0 m 16 ls []) := by
    intro v1_j16 v2_j16 v3_j16 s11_j16 H locs ls h hw hl
    unfold f11_does_j16 at h
    refine lv_aload_n hx hb dX11_does_16 rfl (lv_at hl 0 rfl) ?_
    refine gX11_115 hx hb hts hown hK hw dX11_does_17 ?_
    refine lv_iload_n hx hb dX11_does_20 rfl (lv_at hl 2 rfl) ?_
    obtain ⟨hi_21, h⟩ := chk_e h
    obtain ⟨y_21, e_21, h⟩ := nam_e h
    refine lM35 hx hb hK hw hi_21 e_21 dX11_does_21 ?_
    refine lv_if_ne (tgt := 46) hx hb dX11_does_22 (by decide) (fun c_22 => ?_) (fun c_22 => ?_)
    · have h := ite_f c_22 h
      exact hJ_46 s11_j16 H locs ls h hw (lv_sub hl [] rfl)
    · have h := ite_t c_22 h
      refine lv_aload_n hx hb dX11_does_25 rfl (lv_at hl 0 rfl) ?_
      refine gX11_112 hx hb hts hown hK hw dX11_does_26 ?_
      refine lv_iload_n hx hb dX11_does_29 rfl (lv_at hl 2 rfl) ?_
      obtain ⟨hi_30, h⟩ := chk_e h
      obtain ⟨y_30, e_30, h⟩ := nam_e h
      refine lM34 hx hb hK hw hi_30 e_30 dX11_does_30 ?_
      refine lv_iload_n hx hb dX11_does_31 rfl (lv_at hl 1 rfl) ?_
      refine lv_bipush (v := 38) hx hb dX11_does_32 (by decide) ?_
      refine lv_icmp_ne (tgt := 41) hx hb dX11_does_34 (by decide) (fun c_34 => ?_) (fun c_34 => ?_)
      · have h := ite_f c_34 h
        refine lv_lconst (v := 0) hx hb dX11_does_41 (by decide) ?_
        exact hJ_42 v2_j16 v3_j16 y_30 ((0 : Int64)) s11_j16 H locs ls h hw (lv_sub hl [0, 2, 3] rfl)
      · have h := ite_t c_34 h
        refine lv_lconst (v := 1) hx hb dX11_does_37 (by decide) ?_
        refine lv_goto (tgt := 42) hx hb dX11_does_38 (by decide) ?_
        exact hJ_42 v2_j16 v3_j16 y_30 ((1 : Int64)) s11_j16 H locs ls h hw (lv_sub hl [0, 2, 3] rfl)
  refine lv_iload_n hx hb dX11_does_0 rfl (lv_at hl 2 rfl) ?_
  refine lv_iconst (v := 1) hx hb dX11_does_1 (by decide) ?_
  refine lv_iadd hx hb dX11_does_2 ?_
  obtain ⟨n_3, e_3, h⟩ := nam_e h
  refine topI e_3 ?_
  refine lv_istore_n (lv' := [(3, .int n_3), (0, .ref (ad 0)), (1, .int a1), (2, .int a2)]) hx hb dX11_does_3 rfl hl (by decide) rfl (fun ls hl => ?_)
  refine lv_iload_n hx hb dX11_does_4 rfl (lv_at hl 2 rfl) ?_
  refine lv_bipush (v := 38) hx hb dX11_does_5 (by decide) ?_
  refine lv_icmp_eq (tgt := 16) hx hb dX11_does_7 (by decide) (fun c_7 => ?_) (fun c_7 => ?_)
  · have h := ite_t c_7 h
    exact hJ_16 a1 a2 n_3 s11 H locs ls h hw (lv_sub hl [1, 2, 3, 0] rfl)
  · have h := ite_f c_7 h
    refine lv_iload_n hx hb dX11_does_10 rfl (lv_at hl 2 rfl) ?_
    refine lv_bipush (v := 124) hx hb dX11_does_11 (by decide) ?_
    refine lv_icmp_ne (tgt := 72) hx hb dX11_does_13 (by decide) (fun c_13 => ?_) (fun c_13 => ?_)
    · have h := ite_f c_13 h
      refine lv_aload_n hx hb dX11_does_72 rfl (lv_at hl 1 rfl) ?_
      refine gX11_115 hx hb hts hown hK hw dX11_does_73 ?_
      refine lv_iload_n hx hb dX11_does_76 rfl (lv_at hl 3 rfl) ?_
      refine lv_aload_n hx hb dX11_does_77 rfl (lv_at hl 1 rfl) ?_
      refine gX11_115 hx hb hts hown hK hw dX11_does_78 ?_
      refine lv_iload_n hx hb dX11_does_81 rfl (lv_at hl 3 rfl) ?_
      obtain ⟨hi_82, h⟩ := chk_e h
      obtain ⟨y_82, e_82, h⟩ := nam_e h
      refine lM35 hx hb hK hw hi_82 e_82 dX11_does_82 ?_
      refine lv_if_ne (tgt := 118) hx hb dX11_does_83 (by decide) (fun c_83 => ?_) (fun c_83 => ?_)
      · have h := ite_f c_83 h
        exact hJ_118 a1 a2 n_3 a2 s11 H locs ls h hw (lv_sub hl [1, 2, 3, 0] rfl)
      · have h := ite_t c_83 h
        refine lv_aload_n hx hb dX11_does_86 rfl (lv_at hl 1 rfl) ?_
        refine gX11_115 hx hb hts hown hK hw dX11_does_87 ?_
        refine lv_iload_n hx hb dX11_does_90 rfl (lv_at hl 0 rfl) ?_
        obtain ⟨hi_91, h⟩ := chk_e h
        obtain ⟨y_91, e_91, h⟩ := nam_e h
        refine lM35 hx hb hK hw hi_91 e_91 dX11_does_91 ?_
        refine lv_if_ne (tgt := 118) hx hb dX11_does_92 (by decide) (fun c_92 => ?_) (fun c_92 => ?_)
        · have h := ite_f c_92 h
          exact hJ_118 a1 a2 n_3 a2 s11 H locs ls h hw (lv_sub hl [1, 2, 3, 0] rfl)
        · have h := ite_t c_92 h
          refine lv_iload_n hx hb dX11_does_95 rfl (lv_at hl 2 rfl) ?_
          refine lv_bipush (v := 47) hx hb dX11_does_96 (by decide) ?_
          refine lv_icmp_eq (tgt := 107) hx hb dX11_does_98 (by decide) (fun c_98 => ?_) (fun c_98 => ?_)
          · have h := ite_t c_98 h
            exact hJ_107 a1 a2 n_3 a2 s11 H locs ls h hw (lv_sub hl [1, 2, 3, 0] rfl)
          · have h := ite_f c_98 h
            refine lv_iload_n hx hb dX11_does_101 rfl (lv_at hl 2 rfl) ?_
            refine lv_bipush (v := 37) hx hb dX11_does_102 (by decide) ?_
            refine lv_icmp_ne (tgt := 122) hx hb dX11_does_104 (by decide) (fun c_104 => ?_) (fun c_104 => ?_)
            · have h := ite_f c_104 h
              exact hJ_122 a1 a2 n_3 a2 s11 H locs ls h hw (lv_sub hl [1, 2, 3, 0] rfl)
            · have h := ite_t c_104 h
              exact hJ_107 a1 a2 n_3 a2 s11 H locs ls h hw (lv_sub hl [1, 2, 3, 0] rfl)
    · have h := ite_t c_13 h
      exact hJ_16 a1 a2 n_3 s11 H locs ls h hw (lv_sub hl [1, 2, 3, 0] rfl)
theorem dX11_inCabinets_0 : decode cX11_inCabinets 0 = .ok (.lconst 0, 1) := by decide +kernel
theorem dX11_inCabinets_1 : decode cX11_inCabinets 1 = .ok (.lstore 4, 2) := by decide +kernel
theorem dX11_inCabinets_3 : decode cX11_inCabinets 3 = .ok (.iconst 0, 1) := by decide +kernel
theorem dX11_inCabinets_4 : decode cX11_inCabinets 4 = .ok (.istore 6, 2) := by decide +kernel
theorem dX11_inCabinets_6 : decode cX11_inCabinets 6 = .ok (.iload 6, 2) := by decide +kernel
theorem dX11_inCabinets_8 : decode cX11_inCabinets 8 = .ok (.aload_n 0, 1) := by decide +kernel
theorem dX11_inCabinets_9 : decode cX11_inCabinets 9 = .ok (.getfield 235, 3) := by decide +kernel
theorem dX11_inCabinets_12 : decode cX11_inCabinets 12 = .ok (.if_icmp .ge 69, 3) := by decide +kernel
theorem dX11_inCabinets_15 : decode cX11_inCabinets 15 = .ok (.lload 4, 2) := by decide +kernel
theorem dX11_inCabinets_17 : decode cX11_inCabinets 17 = .ok (.aload_n 0, 1) := by decide +kernel
theorem dX11_inCabinets_18 : decode cX11_inCabinets 18 = .ok (.getfield 13, 3) := by decide +kernel
theorem dX11_inCabinets_21 : decode cX11_inCabinets 21 = .ok (.iload 6, 2) := by decide +kernel
theorem dX11_inCabinets_23 : decode cX11_inCabinets 23 = .ok (.iaload, 1) := by decide +kernel
theorem dX11_inCabinets_24 : decode cX11_inCabinets 24 = .ok (.iload_n 1, 1) := by decide +kernel
theorem dX11_inCabinets_25 : decode cX11_inCabinets 25 = .ok (.if_icmp .ne 46, 3) := by decide +kernel
theorem dX11_inCabinets_28 : decode cX11_inCabinets 28 = .ok (.aload_n 0, 1) := by decide +kernel
theorem dX11_inCabinets_29 : decode cX11_inCabinets 29 = .ok (.getfield 26, 3) := by decide +kernel
theorem dX11_inCabinets_32 : decode cX11_inCabinets 32 = .ok (.iload 6, 2) := by decide +kernel
theorem dX11_inCabinets_34 : decode cX11_inCabinets 34 = .ok (.iaload, 1) := by decide +kernel
theorem dX11_inCabinets_35 : decode cX11_inCabinets 35 = .ok (.bipush 10, 2) := by decide +kernel
theorem dX11_inCabinets_37 : decode cX11_inCabinets 37 = .ok (.if_icmp .ge 34, 3) := by decide +kernel
theorem dX11_inCabinets_40 : decode cX11_inCabinets 40 = .ok (.iload 6, 2) := by decide +kernel
theorem dX11_inCabinets_42 : decode cX11_inCabinets 42 = .ok (.iload_n 3, 1) := by decide +kernel
theorem dX11_inCabinets_43 : decode cX11_inCabinets 43 = .ok (.if_icmp .eq 28, 3) := by decide +kernel
theorem dX11_inCabinets_46 : decode cX11_inCabinets 46 = .ok (.iload_n 2, 1) := by decide +kernel
theorem dX11_inCabinets_47 : decode cX11_inCabinets 47 = .ok (.ifCond .eq 13, 3) := by decide +kernel
theorem dX11_inCabinets_50 : decode cX11_inCabinets 50 = .ok (.aload_n 0, 1) := by decide +kernel
theorem dX11_inCabinets_51 : decode cX11_inCabinets 51 = .ok (.getfield 23, 3) := by decide +kernel
theorem dX11_inCabinets_54 : decode cX11_inCabinets 54 = .ok (.iload 6, 2) := by decide +kernel
theorem dX11_inCabinets_56 : decode cX11_inCabinets 56 = .ok (.iaload, 1) := by decide +kernel
theorem dX11_inCabinets_57 : decode cX11_inCabinets 57 = .ok (.ifCond .ne 14, 3) := by decide +kernel
theorem dX11_inCabinets_60 : decode cX11_inCabinets 60 = .ok (.aload_n 0, 1) := by decide +kernel
theorem dX11_inCabinets_61 : decode cX11_inCabinets 61 = .ok (.getfield 20, 3) := by decide +kernel
theorem dX11_inCabinets_64 : decode cX11_inCabinets 64 = .ok (.iload 6, 2) := by decide +kernel
theorem dX11_inCabinets_66 : decode cX11_inCabinets 66 = .ok (.iaload, 1) := by decide +kernel
theorem dX11_inCabinets_67 : decode cX11_inCabinets 67 = .ok (.i2l, 1) := by decide +kernel
theorem dX11_inCabinets_68 : decode cX11_inCabinets 68 = .ok (.goto 4, 3) := by decide +kernel
theorem dX11_inCabinets_71 : decode cX11_inCabinets 71 = .ok (.lconst 0, 1) := by decide +kernel
theorem dX11_inCabinets_72 : decode cX11_inCabinets 72 = .ok (.ladd, 1) := by decide +kernel
theorem dX11_inCabinets_73 : decode cX11_inCabinets 73 = .ok (.lstore 4, 2) := by decide +kernel
theorem dX11_inCabinets_75 : decode cX11_inCabinets 75 = .ok (.iinc 6 1, 3) := by decide +kernel
theorem dX11_inCabinets_78 : decode cX11_inCabinets 78 = .ok (.goto (-72), 3) := by decide +kernel
theorem dX11_inCabinets_81 : decode cX11_inCabinets 81 = .ok (.lload 4, 2) := by decide +kernel
theorem dX11_inCabinets_83 : decode cX11_inCabinets 83 = .ok (.lreturn, 1) := by decide +kernel
noncomputable def f11_inCabinets_j72 (v1_j72 : Int32) (v2_j72 : Int32) (v3_j72 : Int32) (v6_j72 : Int32) (k0_j72 : Int64) (k1_j72 : Int64) (s11_j72 : OS) : Option ((Int64 × Int32) ⊕ (Int64)) := nm ((k0_j72 + k1_j72)) fun n_73 => nm (v6_j72 + (1 : Int32)) fun n_75 => some (Sum.inl (n_73, n_75))
noncomputable def f11_inCabinets_j71 (v1_j71 : Int32) (v2_j71 : Int32) (v3_j71 : Int32) (v6_j71 : Int32) (k0_j71 : Int64) (s11_j71 : OS) : Option ((Int64 × Int32) ⊕ (Int64)) := f11_inCabinets_j72 v1_j71 v2_j71 v3_j71 v6_j71 k0_j71 ((0 : Int64)) s11_j71
noncomputable def f11_inCabinets_j60 (v1_j60 : Int32) (v2_j60 : Int32) (v3_j60 : Int32) (v6_j60 : Int32) (k0_j60 : Int64) (s11_j60 : OS) : Option ((Int64 × Int32) ⊕ (Int64)) := chk (inb v6_j60 150) (nm (s11_j60.1 14 v6_j60.toNatClampNeg) fun y_66 => f11_inCabinets_j72 v1_j60 v2_j60 v3_j60 v6_j60 k0_j60 ((y_66).toInt64) s11_j60)
noncomputable def f11_inCabinets_l6 (v1_i6 : Int32) (v2_i6 : Int32) (v3_i6 : Int32) (s11_i6 : OS) : Int64 × Int32 → Option ((Int64 × Int32) ⊕ (Int64)) := fun t_6 => if (s11_i6.1 0 3) ≤ t_6.2 then (Option.map Sum.inr (some t_6.1)) else (chk (inb t_6.2 150) (nm (s11_i6.1 12 t_6.2.toNatClampNeg) fun y_23 => if y_23 = v1_i6 then (chk (inb t_6.2 150) (nm (s11_i6.1 16 t_6.2.toNatClampNeg) fun y_34 => if (10 : Int32) ≤ y_34 then (f11_inCabinets_j71 v1_i6 v2_i6 v3_i6 t_6.2 t_6.1 s11_i6) else (if t_6.2 = v3_i6 then (f11_inCabinets_j71 v1_i6 v2_i6 v3_i6 t_6.2 t_6.1 s11_i6) else (if v2_i6 = 0 then (f11_inCabinets_j60 v1_i6 v2_i6 v3_i6 t_6.2 t_6.1 s11_i6) else (chk (inb t_6.2 150) (nm (s11_i6.1 15 t_6.2.toNatClampNeg) fun y_56 => if y_56 = 0 then (f11_inCabinets_j60 v1_i6 v2_i6 v3_i6 t_6.2 t_6.1 s11_i6) else (f11_inCabinets_j71 v1_i6 v2_i6 v3_i6 t_6.2 t_6.1 s11_i6))))))) else (f11_inCabinets_j71 v1_i6 v2_i6 v3_i6 t_6.2 t_6.1 s11_i6)))
noncomputable def f11_inCabinets (a1 : Int32) (a2 : Int32) (a3 : Int32) (s11 : OS) : Option (Int64) := loop (f11_inCabinets_l6 a1 a2 a3 s11) ((0 : Int64), (0 : Int32))
set_option maxHeartbeats 4000000 in
set_option maxRecDepth 100000 in
theorem m11_inCabinets (l : Launch) (D : va_G) (ad : Nat → Nat) (cy : Nat → ClassId) (sz : Nat) (s11 : OS) (a1 : Int32) (a2 : Int32) (a3 : Int32) (r : Int64) (h : f11_inCabinets a1 a2 a3 s11 = some r) : Met l yX11_inCabinets (wsOf yX11_inCabinets cX11_inCabinets 7 (some .long)) (rmL 0) (va_Pc ([.ref (ad 0), .int a1, .int a2, .int a3] : List Value) (PreG D cy (cellsM ad cy s11) sz NM)) (QcL D ad 66 (cellsM ad cy s11) (r) sz) 0 0 (Afr ad 66 sz) := by
  refine metG (own := RX11) (by decide) rfl (Nat.le_of_ble_eq_true rfl) fstM ?_ sz
  intro p e s m below meth c ls C0 hw hl
  obtain ⟨hx, hb, hml, hown, hts, hr, hlk, hK, hN⟩ := C0
  have hl : lv_has ls 7 [(0, .ref (ad 0)), (1, .int a1), (2, .int a2), (3, .int a3)] := hl
  generalize hQ : MQ below (QcL D ad 66 (cellsM ad cy s11) (r) s.heap.size) ([.ref (ad 0), .int a1, .int a2, .int a3] : List Value).toArray s 0 0 (Afr ad 66 s.heap.size) = Q
  obtain ⟨H, hH⟩ : ∃ H : Heap, H = s.heap := ⟨_, rfl⟩
  obtain ⟨locs, hlc⟩ : ∃ L : List Loc, L = [] := ⟨_, rfl⟩
  have hw : Wd D (cellsM ad cy s11) (Afr ad 66 s.heap.size) s.heap H locs := by rw [hH, hlc]; exact hw
  suffices h0 : W p l e (rmL 0) s m ([.ref (ad 0), .int a1, .int a2, .int a3] : List Value).toArray below meth c H locs 0 0 Q (F0 m 0 ls []) by rw [hH, hlc] at h0; exact h0
  clear hH hlc
  unfold f11_inCabinets at h
  refine lv_lconst (v := 0) hx hb dX11_inCabinets_0 (by decide) ?_
  refine lv_lstore (lv' := [(4, .long ((0 : Int64))), (0, .ref (ad 0)), (1, .int a1), (2, .int a2), (3, .int a3)]) hx hb dX11_inCabinets_1 hl (by decide) rfl (fun ls hl => ?_)
  refine lv_iconst (v := 0) hx hb dX11_inCabinets_3 (by decide) ?_
  refine lv_istore (lv' := [(6, .int ((0 : Int32))), (4, .long ((0 : Int64))), (0, .ref (ad 0)), (1, .int a1), (2, .int a2), (3, .int a3)]) hx hb dX11_inCabinets_4 hl (by decide) rfl (fun ls hl => ?_)
  obtain ⟨n_6, hn_6⟩ := loop_e h
  have hL_6 : ∀ (n : Nat) (t_6 : Int64 × Int32) (H : Heap) (locs : List Loc) (ls : Array Slot), loopN (f11_inCabinets_l6 a1 a2 a3 s11) n t_6 = some r → Wd D (cellsM ad cy s11) (Afr ad 66 s.heap.size) s.heap H locs → lv_has ls 7 [(4, .long t_6.1), (6, .int t_6.2), (1, .int a1), (2, .int a2), (3, .int a3), (0, .ref (ad 0))] → W p l e (rmL 0) s m ([.ref (ad 0), .int a1, .int a2, .int a3] : List Value).toArray below meth c H locs 0 0 Q (F0 m 6 ls []) := by
    intro n
    induction n with
    | zero => intro t_6 H locs ls hn; cases hn
    | succ n ih_6 =>
      intro t_6 H locs ls hn hw hl
      obtain ⟨x_6, h, hx_6⟩ := loopN_e hn
      unfold f11_inCabinets_l6 at h
      have hJ_72 : ∀ (v6_j72 : Int32) (k0_j72 : Int64) (k1_j72 : Int64) (H : Heap) (locs : List Loc) (ls : Array Slot), f11_inCabinets_j72 a1 a2 a3 v6_j72 k0_j72 k1_j72 s11 = some x_6 → Wd D (cellsM ad cy s11) (Afr ad 66 s.heap.size) s.heap H locs → lv_has ls 7 [(0, .ref (ad 0)), (1, .int a1), (2, .int a2), (3, .int a3), (6, .int v6_j72)] → W p l e (rmL 0) s m ([.ref (ad 0), .int a1, .int a2, .int a3] : List Value).toArray below meth c H locs 0 0 Q (F0 m 72 ls [.long k1_j72, .long k0_j72]) := by
        intro v6_j72 k0_j72 k1_j72 H locs ls h hw hl
        unfold f11_inCabinets_j72 at h
        refine lv_ladd hx hb dX11_inCabinets_72 ?_
        obtain ⟨n_73, e_73, h⟩ := nam_e h
        refine topL e_73 ?_
        refine lv_lstore (lv' := [(4, .long n_73), (0, .ref (ad 0)), (1, .int a1), (2, .int a2), (3, .int a3), (6, .int v6_j72)]) hx hb dX11_inCabinets_73 hl (by decide) rfl (fun ls hl => ?_)
        obtain ⟨n_75, e_75, h⟩ := nam_e h
        refine lv_iinc (v := n_75) (lv' := [(6, .int n_75), (4, .long n_73), (0, .ref (ad 0)), (1, .int a1), (2, .int a2), (3, .int a3)]) hx hb dX11_inCabinets_75 hl (k := 5) rfl (by rw [e_75]; rfl) (by decide) rfl (fun ls hl => ?_)
        refine lv_goto (tgt := 6) hx hb dX11_inCabinets_78 (by decide) ?_
        exact ih_6 (n_73, n_75) H locs ls (nx_l hx_6 h) hw (lv_sub hl [1, 0, 3, 4, 5, 2] rfl)
      have hJ_71 : ∀ (v6_j71 : Int32) (k0_j71 : Int64) (H : Heap) (locs : List Loc) (ls : Array Slot), f11_inCabinets_j71 a1 a2 a3 v6_j71 k0_j71 s11 = some x_6 → Wd D (cellsM ad cy s11) (Afr ad 66 s.heap.size) s.heap H locs → lv_has ls 7 [(0, .ref (ad 0)), (1, .int a1), (2, .int a2), (3, .int a3), (6, .int v6_j71)] → W p l e (rmL 0) s m ([.ref (ad 0), .int a1, .int a2, .int a3] : List Value).toArray below meth c H locs 0 0 Q (F0 m 71 ls [.long k0_j71]) := by
        intro v6_j71 k0_j71 H locs ls h hw hl
        unfold f11_inCabinets_j71 at h
        refine lv_lconst (v := 0) hx hb dX11_inCabinets_71 (by decide) ?_
        exact hJ_72 v6_j71 k0_j71 ((0 : Int64)) H locs ls h hw (lv_sub hl [0, 1, 2, 3, 4] rfl)
      have hJ_60 : ∀ (v6_j60 : Int32) (k0_j60 : Int64) (H : Heap) (locs : List Loc) (ls : Array Slot), f11_inCabinets_j60 a1 a2 a3 v6_j60 k0_j60 s11 = some x_6 → Wd D (cellsM ad cy s11) (Afr ad 66 s.heap.size) s.heap H locs → lv_has ls 7 [(0, .ref (ad 0)), (1, .int a1), (2, .int a2), (3, .int a3), (6, .int v6_j60)] → W p l e (rmL 0) s m ([.ref (ad 0), .int a1, .int a2, .int a3] : List Value).toArray below meth c H locs 0 0 Q (F0 m 60 ls [.long k0_j60]) := by
        intro v6_j60 k0_j60 H locs ls h hw hl
        unfold f11_inCabinets_j60 at h
        refine lv_aload_n hx hb dX11_inCabinets_60 rfl (lv_at hl 0 rfl) ?_
        refine gX11_20 hx hb hts hown hK hw dX11_inCabinets_61 ?_
        refine lv_iload hx hb dX11_inCabinets_64 (lv_at hl 4 rfl) ?_
        obtain ⟨hi_66, h⟩ := chk_e h
        obtain ⟨y_66, e_66, h⟩ := nam_e h
        refine lM4 hx hb hK hw hi_66 e_66 dX11_inCabinets_66 ?_
        refine lv_i2l hx hb dX11_inCabinets_67 rfl ?_
        refine lv_goto (tgt := 72) hx hb dX11_inCabinets_68 (by decide) ?_
        exact hJ_72 v6_j60 k0_j60 ((y_66).toInt64) H locs ls h hw (lv_sub hl [0, 1, 2, 3, 4] rfl)
      refine lv_iload hx hb dX11_inCabinets_6 (lv_at hl 1 rfl) ?_
      refine lv_aload_n hx hb dX11_inCabinets_8 rfl (lv_at hl 5 rfl) ?_
      refine gX11_235 hx hb hts hown hK hw dX11_inCabinets_9 ?_
      refine lv_icmp_ge (tgt := 81) hx hb dX11_inCabinets_12 (by decide) (fun c_12 => ?_) (fun c_12 => ?_)
      · have h := ite_t c_12 h
        have h := nx_m hx_6 h
        refine lv_lload hx hb dX11_inCabinets_81 (lv_at hl 0 rfl) ?_
        have h := Option.some.inj h
        subst h
        rw [← hQ]
        exact retL hx hb hr hlk hw dX11_inCabinets_83
      · have h := ite_f c_12 h
        refine lv_lload hx hb dX11_inCabinets_15 (lv_at hl 0 rfl) ?_
        refine lv_aload_n hx hb dX11_inCabinets_17 rfl (lv_at hl 5 rfl) ?_
        refine gX11_13 hx hb hts hown hK hw dX11_inCabinets_18 ?_
        refine lv_iload hx hb dX11_inCabinets_21 (lv_at hl 1 rfl) ?_
        obtain ⟨hi_23, h⟩ := chk_e h
        obtain ⟨y_23, e_23, h⟩ := nam_e h
        refine lM2 hx hb hK hw hi_23 e_23 dX11_inCabinets_23 ?_
        refine lv_iload_n hx hb dX11_inCabinets_24 rfl (lv_at hl 2 rfl) ?_
        refine lv_icmp_ne (tgt := 71) hx hb dX11_inCabinets_25 (by decide) (fun c_25 => ?_) (fun c_25 => ?_)
        · have h := ite_f c_25 h
          exact hJ_71 t_6.2 t_6.1 H locs ls h hw (lv_sub hl [5, 2, 3, 4, 1] rfl)
        · have h := ite_t c_25 h
          refine lv_aload_n hx hb dX11_inCabinets_28 rfl (lv_at hl 5 rfl) ?_
          refine gX11_26 hx hb hts hown hK hw dX11_inCabinets_29 ?_
          refine lv_iload hx hb dX11_inCabinets_32 (lv_at hl 1 rfl) ?_
          obtain ⟨hi_34, h⟩ := chk_e h
          obtain ⟨y_34, e_34, h⟩ := nam_e h
          refine lM6 hx hb hK hw hi_34 e_34 dX11_inCabinets_34 ?_
          refine lv_bipush (v := 10) hx hb dX11_inCabinets_35 (by decide) ?_
          refine lv_icmp_ge (tgt := 71) hx hb dX11_inCabinets_37 (by decide) (fun c_37 => ?_) (fun c_37 => ?_)
          · have h := ite_t c_37 h
            exact hJ_71 t_6.2 t_6.1 H locs ls h hw (lv_sub hl [5, 2, 3, 4, 1] rfl)
          · have h := ite_f c_37 h
            refine lv_iload hx hb dX11_inCabinets_40 (lv_at hl 1 rfl) ?_
            refine lv_iload_n hx hb dX11_inCabinets_42 rfl (lv_at hl 4 rfl) ?_
            refine lv_icmp_eq (tgt := 71) hx hb dX11_inCabinets_43 (by decide) (fun c_43 => ?_) (fun c_43 => ?_)
            · have h := ite_t c_43 h
              exact hJ_71 t_6.2 t_6.1 H locs ls h hw (lv_sub hl [5, 2, 3, 4, 1] rfl)
            · have h := ite_f c_43 h
              refine lv_iload_n hx hb dX11_inCabinets_46 rfl (lv_at hl 3 rfl) ?_
              refine lv_if_eq (tgt := 60) hx hb dX11_inCabinets_47 (by decide) (fun c_47 => ?_) (fun c_47 => ?_)
              · have h := ite_t c_47 h
                exact hJ_60 t_6.2 t_6.1 H locs ls h hw (lv_sub hl [5, 2, 3, 4, 1] rfl)
              · have h := ite_f c_47 h
                refine lv_aload_n hx hb dX11_inCabinets_50 rfl (lv_at hl 5 rfl) ?_
                refine gX11_23 hx hb hts hown hK hw dX11_inCabinets_51 ?_
                refine lv_iload hx hb dX11_inCabinets_54 (lv_at hl 1 rfl) ?_
                obtain ⟨hi_56, h⟩ := chk_e h
                obtain ⟨y_56, e_56, h⟩ := nam_e h
                refine lM5 hx hb hK hw hi_56 e_56 dX11_inCabinets_56 ?_
                refine lv_if_ne (tgt := 71) hx hb dX11_inCabinets_57 (by decide) (fun c_57 => ?_) (fun c_57 => ?_)
                · have h := ite_f c_57 h
                  exact hJ_71 t_6.2 t_6.1 H locs ls h hw (lv_sub hl [5, 2, 3, 4, 1] rfl)
                · have h := ite_t c_57 h
                  exact hJ_60 t_6.2 t_6.1 H locs ls h hw (lv_sub hl [5, 2, 3, 4, 1] rfl)
  exact hL_6 n_6 ((0 : Int64), (0 : Int32)) H locs ls hn_6 hw (lv_sub hl [1, 0, 3, 4, 5, 2] rfl)
theorem dX11_loansOf_0 : decode cX11_loansOf 0 = .ok (.iconst 0, 1) := by decide +kernel
theorem dX11_loansOf_1 : decode cX11_loansOf 1 = .ok (.istore_n 2, 1) := by decide +kernel
theorem dX11_loansOf_2 : decode cX11_loansOf 2 = .ok (.iconst 0, 1) := by decide +kernel
theorem dX11_loansOf_3 : decode cX11_loansOf 3 = .ok (.istore_n 3, 1) := by decide +kernel
theorem dX11_loansOf_4 : decode cX11_loansOf 4 = .ok (.iload_n 3, 1) := by decide +kernel
theorem dX11_loansOf_5 : decode cX11_loansOf 5 = .ok (.aload_n 0, 1) := by decide +kernel
theorem dX11_loansOf_6 : decode cX11_loansOf 6 = .ok (.getfield 399, 3) := by decide +kernel
theorem dX11_loansOf_9 : decode cX11_loansOf 9 = .ok (.if_icmp .ge 37, 3) := by decide +kernel
theorem dX11_loansOf_12 : decode cX11_loansOf 12 = .ok (.iload_n 2, 1) := by decide +kernel
theorem dX11_loansOf_13 : decode cX11_loansOf 13 = .ok (.aload_n 0, 1) := by decide +kernel
theorem dX11_loansOf_14 : decode cX11_loansOf 14 = .ok (.getfield 124, 3) := by decide +kernel
theorem dX11_loansOf_17 : decode cX11_loansOf 17 = .ok (.iload_n 3, 1) := by decide +kernel
theorem dX11_loansOf_18 : decode cX11_loansOf 18 = .ok (.iaload, 1) := by decide +kernel
theorem dX11_loansOf_19 : decode cX11_loansOf 19 = .ok (.iload_n 1, 1) := by decide +kernel
theorem dX11_loansOf_20 : decode cX11_loansOf 20 = .ok (.if_icmp .ne 17, 3) := by decide +kernel
theorem dX11_loansOf_23 : decode cX11_loansOf 23 = .ok (.aload_n 0, 1) := by decide +kernel
theorem dX11_loansOf_24 : decode cX11_loansOf 24 = .ok (.getfield 133, 3) := by decide +kernel
theorem dX11_loansOf_27 : decode cX11_loansOf 27 = .ok (.iload_n 3, 1) := by decide +kernel
theorem dX11_loansOf_28 : decode cX11_loansOf 28 = .ok (.iaload, 1) := by decide +kernel
theorem dX11_loansOf_29 : decode cX11_loansOf 29 = .ok (.iconst (-1), 1) := by decide +kernel
theorem dX11_loansOf_30 : decode cX11_loansOf 30 = .ok (.if_icmp .ne 7, 3) := by decide +kernel
theorem dX11_loansOf_33 : decode cX11_loansOf 33 = .ok (.iconst 1, 1) := by decide +kernel
theorem dX11_loansOf_34 : decode cX11_loansOf 34 = .ok (.goto 4, 3) := by decide +kernel
theorem dX11_loansOf_37 : decode cX11_loansOf 37 = .ok (.iconst 0, 1) := by decide +kernel
theorem dX11_loansOf_38 : decode cX11_loansOf 38 = .ok (.iadd, 1) := by decide +kernel
theorem dX11_loansOf_39 : decode cX11_loansOf 39 = .ok (.istore_n 2, 1) := by decide +kernel
theorem dX11_loansOf_40 : decode cX11_loansOf 40 = .ok (.iinc 3 1, 3) := by decide +kernel
theorem dX11_loansOf_43 : decode cX11_loansOf 43 = .ok (.goto (-39), 3) := by decide +kernel
theorem dX11_loansOf_46 : decode cX11_loansOf 46 = .ok (.iload_n 2, 1) := by decide +kernel
theorem dX11_loansOf_47 : decode cX11_loansOf 47 = .ok (.ireturn, 1) := by decide +kernel
noncomputable def f11_loansOf_j38 (v1_j38 : Int32) (v3_j38 : Int32) (k0_j38 : Int32) (k1_j38 : Int32) (s11_j38 : OS) : Option ((Int32 × Int32) ⊕ (Int32)) := nm ((k0_j38 + k1_j38)) fun n_39 => nm (v3_j38 + (1 : Int32)) fun n_40 => some (Sum.inl (n_39, n_40))
noncomputable def f11_loansOf_j37 (v1_j37 : Int32) (v3_j37 : Int32) (k0_j37 : Int32) (s11_j37 : OS) : Option ((Int32 × Int32) ⊕ (Int32)) := f11_loansOf_j38 v1_j37 v3_j37 k0_j37 ((0 : Int32)) s11_j37
noncomputable def f11_loansOf_l4 (v1_i4 : Int32) (s11_i4 : OS) : Int32 × Int32 → Option ((Int32 × Int32) ⊕ (Int32)) := fun t_4 => if (s11_i4.1 0 5) ≤ t_4.2 then (Option.map Sum.inr (some t_4.1)) else (chk (inb t_4.2 100) (nm (s11_i4.1 60 t_4.2.toNatClampNeg) fun y_18 => if y_18 = v1_i4 then (chk (inb t_4.2 100) (nm (s11_i4.1 63 t_4.2.toNatClampNeg) fun y_28 => if y_28 = (-1 : Int32) then (f11_loansOf_j38 v1_i4 t_4.2 t_4.1 ((1 : Int32)) s11_i4) else (f11_loansOf_j37 v1_i4 t_4.2 t_4.1 s11_i4))) else (f11_loansOf_j37 v1_i4 t_4.2 t_4.1 s11_i4)))
noncomputable def f11_loansOf (a1 : Int32) (s11 : OS) : Option (Int32) := loop (f11_loansOf_l4 a1 s11) ((0 : Int32), (0 : Int32))
set_option maxHeartbeats 4000000 in
set_option maxRecDepth 100000 in
theorem m11_loansOf (l : Launch) (D : va_G) (ad : Nat → Nat) (cy : Nat → ClassId) (sz : Nat) (s11 : OS) (a1 : Int32) (r : Int32) (h : f11_loansOf a1 s11 = some r) : Met l yX11_loansOf (wsOf yX11_loansOf cX11_loansOf 4 (some .int)) (rmL 0) (va_Pc ([.ref (ad 0), .int a1] : List Value) (PreG D cy (cellsM ad cy s11) sz NM)) (QcI D ad 66 (cellsM ad cy s11) (r) sz) 0 0 (Afr ad 66 sz) := by
  refine metG (own := RX11) (by decide) rfl (Nat.le_of_ble_eq_true rfl) fstM ?_ sz
  intro p e s m below meth c ls C0 hw hl
  obtain ⟨hx, hb, hml, hown, hts, hr, hlk, hK, hN⟩ := C0
  have hl : lv_has ls 4 [(0, .ref (ad 0)), (1, .int a1)] := hl
  generalize hQ : MQ below (QcI D ad 66 (cellsM ad cy s11) (r) s.heap.size) ([.ref (ad 0), .int a1] : List Value).toArray s 0 0 (Afr ad 66 s.heap.size) = Q
  obtain ⟨H, hH⟩ : ∃ H : Heap, H = s.heap := ⟨_, rfl⟩
  obtain ⟨locs, hlc⟩ : ∃ L : List Loc, L = [] := ⟨_, rfl⟩
  have hw : Wd D (cellsM ad cy s11) (Afr ad 66 s.heap.size) s.heap H locs := by rw [hH, hlc]; exact hw
  suffices h0 : W p l e (rmL 0) s m ([.ref (ad 0), .int a1] : List Value).toArray below meth c H locs 0 0 Q (F0 m 0 ls []) by rw [hH, hlc] at h0; exact h0
  clear hH hlc
  unfold f11_loansOf at h
  refine lv_iconst (v := 0) hx hb dX11_loansOf_0 (by decide) ?_
  refine lv_istore_n (lv' := [(2, .int ((0 : Int32))), (0, .ref (ad 0)), (1, .int a1)]) hx hb dX11_loansOf_1 rfl hl (by decide) rfl (fun ls hl => ?_)
  refine lv_iconst (v := 0) hx hb dX11_loansOf_2 (by decide) ?_
  refine lv_istore_n (lv' := [(3, .int ((0 : Int32))), (2, .int ((0 : Int32))), (0, .ref (ad 0)), (1, .int a1)]) hx hb dX11_loansOf_3 rfl hl (by decide) rfl (fun ls hl => ?_)
  obtain ⟨n_4, hn_4⟩ := loop_e h
  have hL_4 : ∀ (n : Nat) (t_4 : Int32 × Int32) (H : Heap) (locs : List Loc) (ls : Array Slot), loopN (f11_loansOf_l4 a1 s11) n t_4 = some r → Wd D (cellsM ad cy s11) (Afr ad 66 s.heap.size) s.heap H locs → lv_has ls 4 [(2, .int t_4.1), (3, .int t_4.2), (1, .int a1), (0, .ref (ad 0))] → W p l e (rmL 0) s m ([.ref (ad 0), .int a1] : List Value).toArray below meth c H locs 0 0 Q (F0 m 4 ls []) := by
    intro n
    induction n with
    | zero => intro t_4 H locs ls hn; cases hn
    | succ n ih_4 =>
      intro t_4 H locs ls hn hw hl
      obtain ⟨x_4, h, hx_4⟩ := loopN_e hn
      unfold f11_loansOf_l4 at h
      have hJ_38 : ∀ (v3_j38 : Int32) (k0_j38 : Int32) (k1_j38 : Int32) (H : Heap) (locs : List Loc) (ls : Array Slot), f11_loansOf_j38 a1 v3_j38 k0_j38 k1_j38 s11 = some x_4 → Wd D (cellsM ad cy s11) (Afr ad 66 s.heap.size) s.heap H locs → lv_has ls 4 [(0, .ref (ad 0)), (1, .int a1), (3, .int v3_j38)] → W p l e (rmL 0) s m ([.ref (ad 0), .int a1] : List Value).toArray below meth c H locs 0 0 Q (F0 m 38 ls [.int k1_j38, .int k0_j38]) := by
        intro v3_j38 k0_j38 k1_j38 H locs ls h hw hl
        unfold f11_loansOf_j38 at h
        refine lv_iadd hx hb dX11_loansOf_38 ?_
        obtain ⟨n_39, e_39, h⟩ := nam_e h
        refine topI e_39 ?_
        refine lv_istore_n (lv' := [(2, .int n_39), (0, .ref (ad 0)), (1, .int a1), (3, .int v3_j38)]) hx hb dX11_loansOf_39 rfl hl (by decide) rfl (fun ls hl => ?_)
        obtain ⟨n_40, e_40, h⟩ := nam_e h
        refine lv_iinc (v := n_40) (lv' := [(3, .int n_40), (2, .int n_39), (0, .ref (ad 0)), (1, .int a1)]) hx hb dX11_loansOf_40 hl (k := 3) rfl (by rw [e_40]; rfl) (by decide) rfl (fun ls hl => ?_)
        refine lv_goto (tgt := 4) hx hb dX11_loansOf_43 (by decide) ?_
        exact ih_4 (n_39, n_40) H locs ls (nx_l hx_4 h) hw (lv_sub hl [1, 0, 3, 2] rfl)
      have hJ_37 : ∀ (v3_j37 : Int32) (k0_j37 : Int32) (H : Heap) (locs : List Loc) (ls : Array Slot), f11_loansOf_j37 a1 v3_j37 k0_j37 s11 = some x_4 → Wd D (cellsM ad cy s11) (Afr ad 66 s.heap.size) s.heap H locs → lv_has ls 4 [(0, .ref (ad 0)), (1, .int a1), (3, .int v3_j37)] → W p l e (rmL 0) s m ([.ref (ad 0), .int a1] : List Value).toArray below meth c H locs 0 0 Q (F0 m 37 ls [.int k0_j37]) := by
        intro v3_j37 k0_j37 H locs ls h hw hl
        unfold f11_loansOf_j37 at h
        refine lv_iconst (v := 0) hx hb dX11_loansOf_37 (by decide) ?_
        exact hJ_38 v3_j37 k0_j37 ((0 : Int32)) H locs ls h hw (lv_sub hl [0, 1, 2] rfl)
      refine lv_iload_n hx hb dX11_loansOf_4 rfl (lv_at hl 1 rfl) ?_
      refine lv_aload_n hx hb dX11_loansOf_5 rfl (lv_at hl 3 rfl) ?_
      refine gX11_399 hx hb hts hown hK hw dX11_loansOf_6 ?_
      refine lv_icmp_ge (tgt := 46) hx hb dX11_loansOf_9 (by decide) (fun c_9 => ?_) (fun c_9 => ?_)
      · have h := ite_t c_9 h
        have h := nx_m hx_4 h
        refine lv_iload_n hx hb dX11_loansOf_46 rfl (lv_at hl 0 rfl) ?_
        have h := Option.some.inj h
        subst h
        rw [← hQ]
        exact retI hx hb hr hlk hw rfl dX11_loansOf_47
      · have h := ite_f c_9 h
        refine lv_iload_n hx hb dX11_loansOf_12 rfl (lv_at hl 0 rfl) ?_
        refine lv_aload_n hx hb dX11_loansOf_13 rfl (lv_at hl 3 rfl) ?_
        refine gX11_124 hx hb hts hown hK hw dX11_loansOf_14 ?_
        refine lv_iload_n hx hb dX11_loansOf_17 rfl (lv_at hl 1 rfl) ?_
        obtain ⟨hi_18, h⟩ := chk_e h
        obtain ⟨y_18, e_18, h⟩ := nam_e h
        refine lM38 hx hb hK hw hi_18 e_18 dX11_loansOf_18 ?_
        refine lv_iload_n hx hb dX11_loansOf_19 rfl (lv_at hl 2 rfl) ?_
        refine lv_icmp_ne (tgt := 37) hx hb dX11_loansOf_20 (by decide) (fun c_20 => ?_) (fun c_20 => ?_)
        · have h := ite_f c_20 h
          exact hJ_37 t_4.2 t_4.1 H locs ls h hw (lv_sub hl [3, 2, 1] rfl)
        · have h := ite_t c_20 h
          refine lv_aload_n hx hb dX11_loansOf_23 rfl (lv_at hl 3 rfl) ?_
          refine gX11_133 hx hb hts hown hK hw dX11_loansOf_24 ?_
          refine lv_iload_n hx hb dX11_loansOf_27 rfl (lv_at hl 1 rfl) ?_
          obtain ⟨hi_28, h⟩ := chk_e h
          obtain ⟨y_28, e_28, h⟩ := nam_e h
          refine lM41 hx hb hK hw hi_28 e_28 dX11_loansOf_28 ?_
          refine lv_iconst (v := (-1)) hx hb dX11_loansOf_29 (by decide) ?_
          refine lv_icmp_ne (tgt := 37) hx hb dX11_loansOf_30 (by decide) (fun c_30 => ?_) (fun c_30 => ?_)
          · have h := ite_f c_30 h
            exact hJ_37 t_4.2 t_4.1 H locs ls h hw (lv_sub hl [3, 2, 1] rfl)
          · have h := ite_t c_30 h
            refine lv_iconst (v := 1) hx hb dX11_loansOf_33 (by decide) ?_
            refine lv_goto (tgt := 38) hx hb dX11_loansOf_34 (by decide) ?_
            exact hJ_38 t_4.2 t_4.1 ((1 : Int32)) H locs ls h hw (lv_sub hl [3, 2, 1] rfl)
  exact hL_4 n_4 ((0 : Int32), (0 : Int32)) H locs ls hn_4 hw (lv_sub hl [1, 0, 3, 2] rfl)
theorem dX11_sizeOf_0 : decode cX11_sizeOf 0 = .ok (.iconst 0, 1) := by decide +kernel
theorem dX11_sizeOf_1 : decode cX11_sizeOf 1 = .ok (.istore_n 1, 1) := by decide +kernel
theorem dX11_sizeOf_2 : decode cX11_sizeOf 2 = .ok (.iload_n 0, 1) := by decide +kernel
theorem dX11_sizeOf_3 : decode cX11_sizeOf 3 = .ok (.istore_n 2, 1) := by decide +kernel
theorem dX11_sizeOf_4 : decode cX11_sizeOf 4 = .ok (.iload_n 2, 1) := by decide +kernel
theorem dX11_sizeOf_5 : decode cX11_sizeOf 5 = .ok (.ifCond .eq 15, 3) := by decide +kernel
theorem dX11_sizeOf_8 : decode cX11_sizeOf 8 = .ok (.iinc 1 1, 3) := by decide +kernel
theorem dX11_sizeOf_11 : decode cX11_sizeOf 11 = .ok (.iload_n 2, 1) := by decide +kernel
theorem dX11_sizeOf_12 : decode cX11_sizeOf 12 = .ok (.iload_n 2, 1) := by decide +kernel
theorem dX11_sizeOf_13 : decode cX11_sizeOf 13 = .ok (.iconst 1, 1) := by decide +kernel
theorem dX11_sizeOf_14 : decode cX11_sizeOf 14 = .ok (.isub, 1) := by decide +kernel
theorem dX11_sizeOf_15 : decode cX11_sizeOf 15 = .ok (.iand, 1) := by decide +kernel
theorem dX11_sizeOf_16 : decode cX11_sizeOf 16 = .ok (.istore_n 2, 1) := by decide +kernel
theorem dX11_sizeOf_17 : decode cX11_sizeOf 17 = .ok (.goto (-13), 3) := by decide +kernel
theorem dX11_sizeOf_20 : decode cX11_sizeOf 20 = .ok (.iload_n 1, 1) := by decide +kernel
theorem dX11_sizeOf_21 : decode cX11_sizeOf 21 = .ok (.ireturn, 1) := by decide +kernel
noncomputable def f11_sizeOf_l4  : Int32 × Int32 → Option ((Int32 × Int32) ⊕ (Int32)) := fun t_4 => if t_4.2 = 0 then (Option.map Sum.inr (some t_4.1)) else (nm (t_4.1 + (1 : Int32)) fun n_8 => nm ((t_4.2 &&& (t_4.2 - (1 : Int32)))) fun n_16 => some (Sum.inl (n_8, n_16)))
noncomputable def f11_sizeOf (a0 : Int32) : Option (Int32) := loop (f11_sizeOf_l4) ((0 : Int32), a0)
set_option maxHeartbeats 4000000 in
set_option maxRecDepth 100000 in
theorem m11_sizeOf (l : Launch) (D : va_G) (ad : Nat → Nat) (cy : Nat → ClassId) (sz : Nat) (s11 : OS) (a0 : Int32) (r : Int32) (h : f11_sizeOf a0 = some r) : Met l yX11_sizeOf (wsOf yX11_sizeOf cX11_sizeOf 3 (some .int)) (rmL 0) (va_Pc ([.int a0] : List Value) (PreG D cy (cellsM ad cy s11) sz NM)) (QcI D ad 66 (cellsM ad cy s11) (r) sz) 0 0 (Afr ad 66 sz) := by
  refine metG (own := RX11) (by decide) rfl (Nat.le_of_ble_eq_true rfl) fstM ?_ sz
  intro p e s m below meth c ls C0 hw hl
  obtain ⟨hx, hb, hml, hown, hts, hr, hlk, hK, hN⟩ := C0
  have hl : lv_has ls 3 [(0, .int a0)] := hl
  generalize hQ : MQ below (QcI D ad 66 (cellsM ad cy s11) (r) s.heap.size) ([.int a0] : List Value).toArray s 0 0 (Afr ad 66 s.heap.size) = Q
  obtain ⟨H, hH⟩ : ∃ H : Heap, H = s.heap := ⟨_, rfl⟩
  obtain ⟨locs, hlc⟩ : ∃ L : List Loc, L = [] := ⟨_, rfl⟩
  have hw : Wd D (cellsM ad cy s11) (Afr ad 66 s.heap.size) s.heap H locs := by rw [hH, hlc]; exact hw
  suffices h0 : W p l e (rmL 0) s m ([.int a0] : List Value).toArray below meth c H locs 0 0 Q (F0 m 0 ls []) by rw [hH, hlc] at h0; exact h0
  clear hH hlc
  unfold f11_sizeOf at h
  refine lv_iconst (v := 0) hx hb dX11_sizeOf_0 (by decide) ?_
  refine lv_istore_n (lv' := [(1, .int ((0 : Int32))), (0, .int a0)]) hx hb dX11_sizeOf_1 rfl hl (by decide) rfl (fun ls hl => ?_)
  refine lv_iload_n hx hb dX11_sizeOf_2 rfl (lv_at hl 1 rfl) ?_
  refine lv_istore_n (lv' := [(2, .int a0), (1, .int ((0 : Int32))), (0, .int a0)]) hx hb dX11_sizeOf_3 rfl hl (by decide) rfl (fun ls hl => ?_)
  obtain ⟨n_4, hn_4⟩ := loop_e h
  have hL_4 : ∀ (n : Nat) (t_4 : Int32 × Int32) (H : Heap) (locs : List Loc) (ls : Array Slot), loopN (f11_sizeOf_l4) n t_4 = some r → Wd D (cellsM ad cy s11) (Afr ad 66 s.heap.size) s.heap H locs → lv_has ls 3 [(1, .int t_4.1), (2, .int t_4.2)] → W p l e (rmL 0) s m ([.int a0] : List Value).toArray below meth c H locs 0 0 Q (F0 m 4 ls []) := by
    intro n
    induction n with
    | zero => intro t_4 H locs ls hn; cases hn
    | succ n ih_4 =>
      intro t_4 H locs ls hn hw hl
      obtain ⟨x_4, h, hx_4⟩ := loopN_e hn
      unfold f11_sizeOf_l4 at h
      refine lv_iload_n hx hb dX11_sizeOf_4 rfl (lv_at hl 1 rfl) ?_
      refine lv_if_eq (tgt := 20) hx hb dX11_sizeOf_5 (by decide) (fun c_5 => ?_) (fun c_5 => ?_)
      · have h := ite_t c_5 h
        have h := nx_m hx_4 h
        refine lv_iload_n hx hb dX11_sizeOf_20 rfl (lv_at hl 0 rfl) ?_
        have h := Option.some.inj h
        subst h
        rw [← hQ]
        exact retI hx hb hr hlk hw rfl dX11_sizeOf_21
      · have h := ite_f c_5 h
        obtain ⟨n_8, e_8, h⟩ := nam_e h
        refine lv_iinc (v := n_8) (lv' := [(1, .int n_8), (2, .int t_4.2)]) hx hb dX11_sizeOf_8 hl (k := 0) rfl (by rw [e_8]; rfl) (by decide) rfl (fun ls hl => ?_)
        refine lv_iload_n hx hb dX11_sizeOf_11 rfl (lv_at hl 1 rfl) ?_
        refine lv_iload_n hx hb dX11_sizeOf_12 rfl (lv_at hl 1 rfl) ?_
        refine lv_iconst (v := 1) hx hb dX11_sizeOf_13 (by decide) ?_
        refine lv_isub hx hb dX11_sizeOf_14 ?_
        refine lv_iand hx hb dX11_sizeOf_15 ?_
        obtain ⟨n_16, e_16, h⟩ := nam_e h
        refine topI e_16 ?_
        refine lv_istore_n (lv' := [(2, .int n_16), (1, .int n_8)]) hx hb dX11_sizeOf_16 rfl hl (by decide) rfl (fun ls hl => ?_)
        refine lv_goto (tgt := 4) hx hb dX11_sizeOf_17 (by decide) ?_
        exact ih_4 (n_8, n_16) H locs ls (nx_l hx_4 h) hw (lv_sub hl [1, 0] rfl)
  exact hL_4 n_4 ((0 : Int32), a0) H locs ls hn_4 hw (lv_sub hl [1, 0] rfl)
theorem dX11_valueOf_0 : decode cX11_valueOf 0 = .ok (.aload_n 0, 1) := by decide +kernel
theorem dX11_valueOf_1 : decode cX11_valueOf 1 = .ok (.getfield 402, 3) := by decide +kernel
theorem dX11_valueOf_4 : decode cX11_valueOf 4 = .ok (.istore_n 2, 1) := by decide +kernel
theorem dX11_valueOf_5 : decode cX11_valueOf 5 = .ok (.aload_n 0, 1) := by decide +kernel
theorem dX11_valueOf_6 : decode cX11_valueOf 6 = .ok (.getfield 405, 3) := by decide +kernel
theorem dX11_valueOf_9 : decode cX11_valueOf 9 = .ok (.istore_n 3, 1) := by decide +kernel
theorem dX11_valueOf_10 : decode cX11_valueOf 10 = .ok (.iload_n 1, 1) := by decide +kernel
theorem dX11_valueOf_11 : decode cX11_valueOf 11 = .ok (.tableswitch 175 97 119 #[161, 175, 175, 175, 175, 105, 175, 113, 175, 175, 121, 148, 137, 175, 175, 175, 175, 175, 168, 175, 175, 175, 129], 105) := by decide +kernel
theorem dX11_valueOf_116 : decode cX11_valueOf 116 = .ok (.aload_n 0, 1) := by decide +kernel
theorem dX11_valueOf_117 : decode cX11_valueOf 117 = .ok (.getfield 73, 3) := by decide +kernel
theorem dX11_valueOf_120 : decode cX11_valueOf 120 = .ok (.iload_n 3, 1) := by decide +kernel
theorem dX11_valueOf_121 : decode cX11_valueOf 121 = .ok (.iaload, 1) := by decide +kernel
theorem dX11_valueOf_122 : decode cX11_valueOf 122 = .ok (.i2l, 1) := by decide +kernel
theorem dX11_valueOf_123 : decode cX11_valueOf 123 = .ok (.lreturn, 1) := by decide +kernel
theorem dX11_valueOf_124 : decode cX11_valueOf 124 = .ok (.aload_n 0, 1) := by decide +kernel
theorem dX11_valueOf_125 : decode cX11_valueOf 125 = .ok (.getfield 70, 3) := by decide +kernel
theorem dX11_valueOf_128 : decode cX11_valueOf 128 = .ok (.iload_n 3, 1) := by decide +kernel
theorem dX11_valueOf_129 : decode cX11_valueOf 129 = .ok (.iaload, 1) := by decide +kernel
theorem dX11_valueOf_130 : decode cX11_valueOf 130 = .ok (.i2l, 1) := by decide +kernel
theorem dX11_valueOf_131 : decode cX11_valueOf 131 = .ok (.lreturn, 1) := by decide +kernel
theorem dX11_valueOf_132 : decode cX11_valueOf 132 = .ok (.aload_n 0, 1) := by decide +kernel
theorem dX11_valueOf_133 : decode cX11_valueOf 133 = .ok (.getfield 13, 3) := by decide +kernel
theorem dX11_valueOf_136 : decode cX11_valueOf 136 = .ok (.iload_n 2, 1) := by decide +kernel
theorem dX11_valueOf_137 : decode cX11_valueOf 137 = .ok (.iaload, 1) := by decide +kernel
theorem dX11_valueOf_138 : decode cX11_valueOf 138 = .ok (.i2l, 1) := by decide +kernel
theorem dX11_valueOf_139 : decode cX11_valueOf 139 = .ok (.lreturn, 1) := by decide +kernel
theorem dX11_valueOf_140 : decode cX11_valueOf 140 = .ok (.aload_n 0, 1) := by decide +kernel
theorem dX11_valueOf_141 : decode cX11_valueOf 141 = .ok (.getfield 20, 3) := by decide +kernel
theorem dX11_valueOf_144 : decode cX11_valueOf 144 = .ok (.iload_n 2, 1) := by decide +kernel
theorem dX11_valueOf_145 : decode cX11_valueOf 145 = .ok (.iaload, 1) := by decide +kernel
theorem dX11_valueOf_146 : decode cX11_valueOf 146 = .ok (.i2l, 1) := by decide +kernel
theorem dX11_valueOf_147 : decode cX11_valueOf 147 = .ok (.lreturn, 1) := by decide +kernel
theorem dX11_valueOf_148 : decode cX11_valueOf 148 = .ok (.aload_n 0, 1) := by decide +kernel
theorem dX11_valueOf_149 : decode cX11_valueOf 149 = .ok (.getfield 23, 3) := by decide +kernel
theorem dX11_valueOf_152 : decode cX11_valueOf 152 = .ok (.iload_n 2, 1) := by decide +kernel
theorem dX11_valueOf_153 : decode cX11_valueOf 153 = .ok (.iaload, 1) := by decide +kernel
theorem dX11_valueOf_154 : decode cX11_valueOf 154 = .ok (.invokestatic 408, 3) := by decide +kernel
theorem dX11_valueOf_157 : decode cX11_valueOf 157 = .ok (.i2l, 1) := by decide +kernel
theorem dX11_valueOf_158 : decode cX11_valueOf 158 = .ok (.lreturn, 1) := by decide +kernel
theorem dX11_valueOf_159 : decode cX11_valueOf 159 = .ok (.aload_n 0, 1) := by decide +kernel
theorem dX11_valueOf_160 : decode cX11_valueOf 160 = .ok (.aload_n 0, 1) := by decide +kernel
theorem dX11_valueOf_161 : decode cX11_valueOf 161 = .ok (.getfield 13, 3) := by decide +kernel
theorem dX11_valueOf_164 : decode cX11_valueOf 164 = .ok (.iload_n 2, 1) := by decide +kernel
theorem dX11_valueOf_165 : decode cX11_valueOf 165 = .ok (.iaload, 1) := by decide +kernel
theorem dX11_valueOf_166 : decode cX11_valueOf 166 = .ok (.iconst 0, 1) := by decide +kernel
theorem dX11_valueOf_167 : decode cX11_valueOf 167 = .ok (.iconst (-1), 1) := by decide +kernel
theorem dX11_valueOf_168 : decode cX11_valueOf 168 = .ok (.invokevirtual 411, 3) := by decide +kernel
theorem dX11_valueOf_171 : decode cX11_valueOf 171 = .ok (.lreturn, 1) := by decide +kernel
theorem dX11_valueOf_172 : decode cX11_valueOf 172 = .ok (.aload_n 0, 1) := by decide +kernel
theorem dX11_valueOf_173 : decode cX11_valueOf 173 = .ok (.iload_n 3, 1) := by decide +kernel
theorem dX11_valueOf_174 : decode cX11_valueOf 174 = .ok (.invokevirtual 415, 3) := by decide +kernel
theorem dX11_valueOf_177 : decode cX11_valueOf 177 = .ok (.i2l, 1) := by decide +kernel
theorem dX11_valueOf_178 : decode cX11_valueOf 178 = .ok (.lreturn, 1) := by decide +kernel
theorem dX11_valueOf_179 : decode cX11_valueOf 179 = .ok (.aload_n 0, 1) := by decide +kernel
theorem dX11_valueOf_180 : decode cX11_valueOf 180 = .ok (.getfield 76, 3) := by decide +kernel
theorem dX11_valueOf_183 : decode cX11_valueOf 183 = .ok (.iload_n 3, 1) := by decide +kernel
theorem dX11_valueOf_184 : decode cX11_valueOf 184 = .ok (.laload, 1) := by decide +kernel
theorem dX11_valueOf_185 : decode cX11_valueOf 185 = .ok (.lreturn, 1) := by decide +kernel
theorem dX11_valueOf_186 : decode cX11_valueOf 186 = .ok (.aload_n 0, 1) := by decide +kernel
theorem dX11_valueOf_187 : decode cX11_valueOf 187 = .ok (.getfield 225, 3) := by decide +kernel
theorem dX11_valueOf_190 : decode cX11_valueOf 190 = .ok (.i2l, 1) := by decide +kernel
theorem dX11_valueOf_191 : decode cX11_valueOf 191 = .ok (.lreturn, 1) := by decide +kernel
noncomputable def f11_valueOf (a1 : Int32) (s11 : OS) : Option (Int64) := nm ((s11.1 0 53)) fun n_4 => nm ((s11.1 0 54)) fun n_9 => if a1 = 97 then (Option.bind (f11_loansOf n_9 s11) fun q_174 => some ((q_174).toInt64)) else if a1 = 102 then (chk (inb n_9 20) (nm (s11.1 32 n_9.toNatClampNeg) fun y_121 => some ((y_121).toInt64))) else if a1 = 104 then (chk (inb n_9 20) (nm (s11.1 31 n_9.toNatClampNeg) fun y_129 => some ((y_129).toInt64))) else if a1 = 107 then (chk (inb n_4 150) (nm (s11.1 12 n_4.toNatClampNeg) fun y_137 => some ((y_137).toInt64))) else if a1 = 108 then (chk (inb n_4 150) (nm (s11.1 12 n_4.toNatClampNeg) fun y_165 => Option.bind (f11_inCabinets y_165 ((0 : Int32)) ((-1 : Int32)) s11) fun q_168 => some q_168)) else if a1 = 109 then (chk (inb n_4 150) (nm (s11.1 15 n_4.toNatClampNeg) fun y_153 => Option.bind (f11_sizeOf y_153) fun q_154 => some ((q_154).toInt64))) else if a1 = 115 then (chk (inb n_9 20) (nm (s11.2 33 n_9.toNatClampNeg) fun y_184 => some y_184)) else if a1 = 119 then (chk (inb n_4 150) (nm (s11.1 14 n_4.toNatClampNeg) fun y_145 => some ((y_145).toInt64))) else (some (((s11.1 0 2)).toInt64))
set_option maxHeartbeats 4000000 in
set_option maxRecDepth 100000 in
theorem m11_valueOf (l : Launch) (D : va_G) (ad : Nat → Nat) (cy : Nat → ClassId) (sz : Nat) (s11 : OS) (a1 : Int32) (r : Int64) (h : f11_valueOf a1 s11 = some r) : Met l yX11_valueOf (wsOf yX11_valueOf cX11_valueOf 4 (some .long)) (rmL 1) (va_Pc ([.ref (ad 0), .int a1] : List Value) (PreG D cy (cellsM ad cy s11) sz NM)) (QcL D ad 66 (cellsM ad cy s11) (r) sz) 0 0 (Afr ad 66 sz) := by
  refine metG (own := RX11) (by decide) rfl (Nat.le_of_ble_eq_true rfl) fstM ?_ sz
  intro p e s m below meth c ls C0 hw hl
  obtain ⟨hx, hb, hml, hown, hts, hr, hlk, hK, hN⟩ := C0
  have hl : lv_has ls 4 [(0, .ref (ad 0)), (1, .int a1)] := hl
  generalize hQ : MQ below (QcL D ad 66 (cellsM ad cy s11) (r) s.heap.size) ([.ref (ad 0), .int a1] : List Value).toArray s 0 0 (Afr ad 66 s.heap.size) = Q
  obtain ⟨H, hH⟩ : ∃ H : Heap, H = s.heap := ⟨_, rfl⟩
  obtain ⟨locs, hlc⟩ : ∃ L : List Loc, L = [] := ⟨_, rfl⟩
  have hw : Wd D (cellsM ad cy s11) (Afr ad 66 s.heap.size) s.heap H locs := by rw [hH, hlc]; exact hw
  suffices h0 : W p l e (rmL 1) s m ([.ref (ad 0), .int a1] : List Value).toArray below meth c H locs 0 0 Q (F0 m 0 ls []) by rw [hH, hlc] at h0; exact h0
  clear hH hlc
  unfold f11_valueOf at h
  refine lv_aload_n hx hb dX11_valueOf_0 rfl (lv_at hl 0 rfl) ?_
  refine gX11_402 hx hb hts hown hK hw dX11_valueOf_1 ?_
  obtain ⟨n_4, e_4, h⟩ := nam_e h
  refine topI e_4 ?_
  refine lv_istore_n (lv' := [(2, .int n_4), (0, .ref (ad 0)), (1, .int a1)]) hx hb dX11_valueOf_4 rfl hl (by decide) rfl (fun ls hl => ?_)
  refine lv_aload_n hx hb dX11_valueOf_5 rfl (lv_at hl 1 rfl) ?_
  refine gX11_405 hx hb hts hown hK hw dX11_valueOf_6 ?_
  obtain ⟨n_9, e_9, h⟩ := nam_e h
  refine topI e_9 ?_
  refine lv_istore_n (lv' := [(3, .int n_9), (2, .int n_4), (0, .ref (ad 0)), (1, .int a1)]) hx hb dX11_valueOf_9 rfl hl (by decide) rfl (fun ls hl => ?_)
  refine lv_iload_n hx hb dX11_valueOf_10 rfl (lv_at hl 3 rfl) ?_
  have q_11 : ∀ tgt : Nat, W p l e (rmL 1) s m ([.ref (ad 0), .int a1] : List Value).toArray below meth c H locs 0 0 Q (F0 m tgt ls []) → W p l e (rmL 1) s m ([.ref (ad 0), .int a1] : List Value).toArray below meth c H locs 0 0 Q (F0 m tgt ls []) := fun _ z => z
  by_cases c_11_97 : a1 = 97
  · have h := ite_t c_11_97 h
    refine lv_tableIn (off := 161) (tgt := 172) hx hb dX11_valueOf_11 (by rw [c_11_97]; decide) (by rw [c_11_97]; decide) (by rw [c_11_97]; rfl) (by decide) ?_
    refine lv_aload_n hx hb dX11_valueOf_172 rfl (lv_at hl 2 rfl) ?_
    refine lv_iload_n hx hb dX11_valueOf_173 rfl (lv_at hl 0 rfl) ?_
    obtain ⟨q_174, h_174, h⟩ := bnd_e h
    have pg_174 := preG (av := [.ref (ad 0), .int n_9]) hK hw.1 hw.2.1 NM_keep NM_blind
    refine endI (mc := 0) (ms := 0) (va_runV (As := [.int n_9]) (rest := []) ⟨hx, hb, hml, hown, hts⟩ (m11_loansOf l D ad cy H.size s11 n_9 q_174 h_174) (wX11_415 0 hts ⟨Nat.le_of_ble_eq_true rfl, Nat.le_of_ble_eq_true rfl⟩) ⟨pg_174.1, va_recv hK hw.1 (ci := 11) (q0 := 0) rfl eM_0, pg_174.2⟩ rfl rfl hl.1 rfl (lv_room (Nat.le_of_ble_eq_true rfl)) dX11_valueOf_174 ⟨Nat.le_refl _, Nat.le_refl _⟩) hw.2.2 (afr_in hw.2.2) (fun H locs hw => ?_)
    refine lv_i2l hx hb dX11_valueOf_177 rfl ?_
    have h := Option.some.inj h
    subst h
    rw [← hQ]
    exact retL hx hb hr hlk hw dX11_valueOf_178
  have h := ite_f c_11_97 h
  by_cases c_11_102 : a1 = 102
  · have h := ite_t c_11_102 h
    refine lv_tableIn (off := 105) (tgt := 116) hx hb dX11_valueOf_11 (by rw [c_11_102]; decide) (by rw [c_11_102]; decide) (by rw [c_11_102]; rfl) (by decide) ?_
    refine lv_aload_n hx hb dX11_valueOf_116 rfl (lv_at hl 2 rfl) ?_
    refine gX11_73 hx hb hts hown hK hw dX11_valueOf_117 ?_
    refine lv_iload_n hx hb dX11_valueOf_120 rfl (lv_at hl 0 rfl) ?_
    obtain ⟨hi_121, h⟩ := chk_e h
    obtain ⟨y_121, e_121, h⟩ := nam_e h
    refine lM21 hx hb hK hw hi_121 e_121 dX11_valueOf_121 ?_
    refine lv_i2l hx hb dX11_valueOf_122 rfl ?_
    have h := Option.some.inj h
    subst h
    rw [← hQ]
    exact retL hx hb hr hlk hw dX11_valueOf_123
  have h := ite_f c_11_102 h
  by_cases c_11_104 : a1 = 104
  · have h := ite_t c_11_104 h
    refine lv_tableIn (off := 113) (tgt := 124) hx hb dX11_valueOf_11 (by rw [c_11_104]; decide) (by rw [c_11_104]; decide) (by rw [c_11_104]; rfl) (by decide) ?_
    refine lv_aload_n hx hb dX11_valueOf_124 rfl (lv_at hl 2 rfl) ?_
    refine gX11_70 hx hb hts hown hK hw dX11_valueOf_125 ?_
    refine lv_iload_n hx hb dX11_valueOf_128 rfl (lv_at hl 0 rfl) ?_
    obtain ⟨hi_129, h⟩ := chk_e h
    obtain ⟨y_129, e_129, h⟩ := nam_e h
    refine lM20 hx hb hK hw hi_129 e_129 dX11_valueOf_129 ?_
    refine lv_i2l hx hb dX11_valueOf_130 rfl ?_
    have h := Option.some.inj h
    subst h
    rw [← hQ]
    exact retL hx hb hr hlk hw dX11_valueOf_131
  have h := ite_f c_11_104 h
  by_cases c_11_107 : a1 = 107
  · have h := ite_t c_11_107 h
    refine lv_tableIn (off := 121) (tgt := 132) hx hb dX11_valueOf_11 (by rw [c_11_107]; decide) (by rw [c_11_107]; decide) (by rw [c_11_107]; rfl) (by decide) ?_
    refine lv_aload_n hx hb dX11_valueOf_132 rfl (lv_at hl 2 rfl) ?_
    refine gX11_13 hx hb hts hown hK hw dX11_valueOf_133 ?_
    refine lv_iload_n hx hb dX11_valueOf_136 rfl (lv_at hl 1 rfl) ?_
    obtain ⟨hi_137, h⟩ := chk_e h
    obtain ⟨y_137, e_137, h⟩ := nam_e h
    refine lM2 hx hb hK hw hi_137 e_137 dX11_valueOf_137 ?_
    refine lv_i2l hx hb dX11_valueOf_138 rfl ?_
    have h := Option.some.inj h
    subst h
    rw [← hQ]
    exact retL hx hb hr hlk hw dX11_valueOf_139
  have h := ite_f c_11_107 h
  by_cases c_11_108 : a1 = 108
  · have h := ite_t c_11_108 h
    refine lv_tableIn (off := 148) (tgt := 159) hx hb dX11_valueOf_11 (by rw [c_11_108]; decide) (by rw [c_11_108]; decide) (by rw [c_11_108]; rfl) (by decide) ?_
    refine lv_aload_n hx hb dX11_valueOf_159 rfl (lv_at hl 2 rfl) ?_
    refine lv_aload_n hx hb dX11_valueOf_160 rfl (lv_at hl 2 rfl) ?_
    refine gX11_13 hx hb hts hown hK hw dX11_valueOf_161 ?_
    refine lv_iload_n hx hb dX11_valueOf_164 rfl (lv_at hl 1 rfl) ?_
    obtain ⟨hi_165, h⟩ := chk_e h
    obtain ⟨y_165, e_165, h⟩ := nam_e h
    refine lM2 hx hb hK hw hi_165 e_165 dX11_valueOf_165 ?_
    refine lv_iconst (v := 0) hx hb dX11_valueOf_166 (by decide) ?_
    refine lv_iconst (v := (-1)) hx hb dX11_valueOf_167 (by decide) ?_
    obtain ⟨q_168, h_168, h⟩ := bnd_e h
    have pg_168 := preG (av := [.ref (ad 0), .int y_165, .int ((0 : Int32)), .int ((-1 : Int32))]) hK hw.1 hw.2.1 NM_keep NM_blind
    refine endL (mc := 0) (ms := 0) (va_runV (As := [.int y_165, .int ((0 : Int32)), .int ((-1 : Int32))]) (rest := []) ⟨hx, hb, hml, hown, hts⟩ (m11_inCabinets l D ad cy H.size s11 y_165 ((0 : Int32)) ((-1 : Int32)) q_168 h_168) (wX11_411 0 hts ⟨Nat.le_of_ble_eq_true rfl, Nat.le_of_ble_eq_true rfl⟩) ⟨pg_168.1, va_recv hK hw.1 (ci := 11) (q0 := 0) rfl eM_0, pg_168.2⟩ rfl rfl hl.1 rfl (lv_room (Nat.le_of_ble_eq_true rfl)) dX11_valueOf_168 ⟨Nat.le_refl _, Nat.le_refl _⟩) hw.2.2 (afr_in hw.2.2) (fun H locs hw => ?_)
    have h := Option.some.inj h
    subst h
    rw [← hQ]
    exact retL hx hb hr hlk hw dX11_valueOf_171
  have h := ite_f c_11_108 h
  by_cases c_11_109 : a1 = 109
  · have h := ite_t c_11_109 h
    refine lv_tableIn (off := 137) (tgt := 148) hx hb dX11_valueOf_11 (by rw [c_11_109]; decide) (by rw [c_11_109]; decide) (by rw [c_11_109]; rfl) (by decide) ?_
    refine lv_aload_n hx hb dX11_valueOf_148 rfl (lv_at hl 2 rfl) ?_
    refine gX11_23 hx hb hts hown hK hw dX11_valueOf_149 ?_
    refine lv_iload_n hx hb dX11_valueOf_152 rfl (lv_at hl 1 rfl) ?_
    obtain ⟨hi_153, h⟩ := chk_e h
    obtain ⟨y_153, e_153, h⟩ := nam_e h
    refine lM5 hx hb hK hw hi_153 e_153 dX11_valueOf_153 ?_
    obtain ⟨q_154, h_154, h⟩ := bnd_e h
    have pg_154 := preG (av := [.int y_153]) hK hw.1 hw.2.1 NM_keep NM_blind
    refine endI (mc := 0) (ms := 0) (va_runS (As := [.int y_153]) (rest := []) ⟨hx, hb, hml, hown, hts⟩ (m11_sizeOf l D ad cy H.size s11 y_153 q_154 h_154) (wX11_408 0 hts ⟨Nat.le_of_ble_eq_true rfl, Nat.le_of_ble_eq_true rfl⟩) pg_154 rfl rfl hl.1 rfl (lv_room (Nat.le_of_ble_eq_true rfl)) dX11_valueOf_154 ⟨Nat.le_refl _, Nat.le_refl _⟩) hw.2.2 (afr_in hw.2.2) (fun H locs hw => ?_)
    refine lv_i2l hx hb dX11_valueOf_157 rfl ?_
    have h := Option.some.inj h
    subst h
    rw [← hQ]
    exact retL hx hb hr hlk hw dX11_valueOf_158
  have h := ite_f c_11_109 h
  by_cases c_11_115 : a1 = 115
  · have h := ite_t c_11_115 h
    refine lv_tableIn (off := 168) (tgt := 179) hx hb dX11_valueOf_11 (by rw [c_11_115]; decide) (by rw [c_11_115]; decide) (by rw [c_11_115]; rfl) (by decide) ?_
    refine lv_aload_n hx hb dX11_valueOf_179 rfl (lv_at hl 2 rfl) ?_
    refine gX11_76 hx hb hts hown hK hw dX11_valueOf_180 ?_
    refine lv_iload_n hx hb dX11_valueOf_183 rfl (lv_at hl 0 rfl) ?_
    obtain ⟨hi_184, h⟩ := chk_e h
    obtain ⟨y_184, e_184, h⟩ := nam_e h
    refine lM22 hx hb hK hw hi_184 e_184 dX11_valueOf_184 ?_
    have h := Option.some.inj h
    subst h
    rw [← hQ]
    exact retL hx hb hr hlk hw dX11_valueOf_185
  have h := ite_f c_11_115 h
  by_cases c_11_119 : a1 = 119
  · have h := ite_t c_11_119 h
    refine lv_tableIn (off := 129) (tgt := 140) hx hb dX11_valueOf_11 (by rw [c_11_119]; decide) (by rw [c_11_119]; decide) (by rw [c_11_119]; rfl) (by decide) ?_
    refine lv_aload_n hx hb dX11_valueOf_140 rfl (lv_at hl 2 rfl) ?_
    refine gX11_20 hx hb hts hown hK hw dX11_valueOf_141 ?_
    refine lv_iload_n hx hb dX11_valueOf_144 rfl (lv_at hl 1 rfl) ?_
    obtain ⟨hi_145, h⟩ := chk_e h
    obtain ⟨y_145, e_145, h⟩ := nam_e h
    refine lM4 hx hb hK hw hi_145 e_145 dX11_valueOf_145 ?_
    refine lv_i2l hx hb dX11_valueOf_146 rfl ?_
    have h := Option.some.inj h
    subst h
    rw [← hQ]
    exact retL hx hb hr hlk hw dX11_valueOf_147
  have h := ite_f c_11_119 h
  by_cases g_11_98 : a1 = 98
  · refine lv_tableIn (off := 175) (tgt := 186) hx hb dX11_valueOf_11 (by rw [g_11_98]; decide) (by rw [g_11_98]; decide) (by rw [g_11_98]; rfl) (by decide) ?_
    refine lv_aload_n hx hb dX11_valueOf_186 rfl (lv_at hl 2 rfl) ?_
    refine gX11_225 hx hb hts hown hK hw dX11_valueOf_187 ?_
    refine lv_i2l hx hb dX11_valueOf_190 rfl ?_
    have h := Option.some.inj h
    subst h
    rw [← hQ]
    exact retL hx hb hr hlk hw dX11_valueOf_191
  by_cases g_11_99 : a1 = 99
  · refine lv_tableIn (off := 175) (tgt := 186) hx hb dX11_valueOf_11 (by rw [g_11_99]; decide) (by rw [g_11_99]; decide) (by rw [g_11_99]; rfl) (by decide) ?_
    refine lv_aload_n hx hb dX11_valueOf_186 rfl (lv_at hl 2 rfl) ?_
    refine gX11_225 hx hb hts hown hK hw dX11_valueOf_187 ?_
    refine lv_i2l hx hb dX11_valueOf_190 rfl ?_
    have h := Option.some.inj h
    subst h
    rw [← hQ]
    exact retL hx hb hr hlk hw dX11_valueOf_191
  by_cases g_11_100 : a1 = 100
  · refine lv_tableIn (off := 175) (tgt := 186) hx hb dX11_valueOf_11 (by rw [g_11_100]; decide) (by rw [g_11_100]; decide) (by rw [g_11_100]; rfl) (by decide) ?_
    refine lv_aload_n hx hb dX11_valueOf_186 rfl (lv_at hl 2 rfl) ?_
    refine gX11_225 hx hb hts hown hK hw dX11_valueOf_187 ?_
    refine lv_i2l hx hb dX11_valueOf_190 rfl ?_
    have h := Option.some.inj h
    subst h
    rw [← hQ]
    exact retL hx hb hr hlk hw dX11_valueOf_191
  by_cases g_11_101 : a1 = 101
  · refine lv_tableIn (off := 175) (tgt := 186) hx hb dX11_valueOf_11 (by rw [g_11_101]; decide) (by rw [g_11_101]; decide) (by rw [g_11_101]; rfl) (by decide) ?_
    refine lv_aload_n hx hb dX11_valueOf_186 rfl (lv_at hl 2 rfl) ?_
    refine gX11_225 hx hb hts hown hK hw dX11_valueOf_187 ?_
    refine lv_i2l hx hb dX11_valueOf_190 rfl ?_
    have h := Option.some.inj h
    subst h
    rw [← hQ]
    exact retL hx hb hr hlk hw dX11_valueOf_191
  by_cases g_11_103 : a1 = 103
  · refine lv_tableIn (off := 175) (tgt := 186) hx hb dX11_valueOf_11 (by rw [g_11_103]; decide) (by rw [g_11_103]; decide) (by rw [g_11_103]; rfl) (by decide) ?_
    refine lv_aload_n hx hb dX11_valueOf_186 rfl (lv_at hl 2 rfl) ?_
    refine gX11_225 hx hb hts hown hK hw dX11_valueOf_187 ?_
    refine lv_i2l hx hb dX11_valueOf_190 rfl ?_
    have h := Option.some.inj h
    subst h
    rw [← hQ]
    exact retL hx hb hr hlk hw dX11_valueOf_191
  by_cases g_11_105 : a1 = 105
  · refine lv_tableIn (off := 175) (tgt := 186) hx hb dX11_valueOf_11 (by rw [g_11_105]; decide) (by rw [g_11_105]; decide) (by rw [g_11_105]; rfl) (by decide) ?_
    refine lv_aload_n hx hb dX11_valueOf_186 rfl (lv_at hl 2 rfl) ?_
    refine gX11_225 hx hb hts hown hK hw dX11_valueOf_187 ?_
    refine lv_i2l hx hb dX11_valueOf_190 rfl ?_
    have h := Option.some.inj h
    subst h
    rw [← hQ]
    exact retL hx hb hr hlk hw dX11_valueOf_191
  by_cases g_11_106 : a1 = 106
  · refine lv_tableIn (off := 175) (tgt := 186) hx hb dX11_valueOf_11 (by rw [g_11_106]; decide) (by rw [g_11_106]; decide) (by rw [g_11_106]; rfl) (by decide) ?_
    refine lv_aload_n hx hb dX11_valueOf_186 rfl (lv_at hl 2 rfl) ?_
    refine gX11_225 hx hb hts hown hK hw dX11_valueOf_187 ?_
    refine lv_i2l hx hb dX11_valueOf_190 rfl ?_
    have h := Option.some.inj h
    subst h
    rw [← hQ]
    exact retL hx hb hr hlk hw dX11_valueOf_191
  by_cases g_11_110 : a1 = 110
  · refine lv_tableIn (off := 175) (tgt := 186) hx hb dX11_valueOf_11 (by rw [g_11_110]; decide) (by rw [g_11_110]; decide) (by rw [g_11_110]; rfl) (by decide) ?_
    refine lv_aload_n hx hb dX11_valueOf_186 rfl (lv_at hl 2 rfl) ?_
    refine gX11_225 hx hb hts hown hK hw dX11_valueOf_187 ?_
    refine lv_i2l hx hb dX11_valueOf_190 rfl ?_
    have h := Option.some.inj h
    subst h
    rw [← hQ]
    exact retL hx hb hr hlk hw dX11_valueOf_191
  by_cases g_11_111 : a1 = 111
  · refine lv_tableIn (off := 175) (tgt := 186) hx hb dX11_valueOf_11 (by rw [g_11_111]; decide) (by rw [g_11_111]; decide) (by rw [g_11_111]; rfl) (by decide) ?_
    refine lv_aload_n hx hb dX11_valueOf_186 rfl (lv_at hl 2 rfl) ?_
    refine gX11_225 hx hb hts hown hK hw dX11_valueOf_187 ?_
    refine lv_i2l hx hb dX11_valueOf_190 rfl ?_
    have h := Option.some.inj h
    subst h
    rw [← hQ]
    exact retL hx hb hr hlk hw dX11_valueOf_191
  by_cases g_11_112 : a1 = 112
  · refine lv_tableIn (off := 175) (tgt := 186) hx hb dX11_valueOf_11 (by rw [g_11_112]; decide) (by rw [g_11_112]; decide) (by rw [g_11_112]; rfl) (by decide) ?_
    refine lv_aload_n hx hb dX11_valueOf_186 rfl (lv_at hl 2 rfl) ?_
    refine gX11_225 hx hb hts hown hK hw dX11_valueOf_187 ?_
    refine lv_i2l hx hb dX11_valueOf_190 rfl ?_
    have h := Option.some.inj h
    subst h
    rw [← hQ]
    exact retL hx hb hr hlk hw dX11_valueOf_191
  by_cases g_11_113 : a1 = 113
  · refine lv_tableIn (off := 175) (tgt := 186) hx hb dX11_valueOf_11 (by rw [g_11_113]; decide) (by rw [g_11_113]; decide) (by rw [g_11_113]; rfl) (by decide) ?_
    refine lv_aload_n hx hb dX11_valueOf_186 rfl (lv_at hl 2 rfl) ?_
    refine gX11_225 hx hb hts hown hK hw dX11_valueOf_187 ?_
    refine lv_i2l hx hb dX11_valueOf_190 rfl ?_
    have h := Option.some.inj h
    subst h
    rw [← hQ]
    exact retL hx hb hr hlk hw dX11_valueOf_191
  by_cases g_11_114 : a1 = 114
  · refine lv_tableIn (off := 175) (tgt := 186) hx hb dX11_valueOf_11 (by rw [g_11_114]; decide) (by rw [g_11_114]; decide) (by rw [g_11_114]; rfl) (by decide) ?_
    refine lv_aload_n hx hb dX11_valueOf_186 rfl (lv_at hl 2 rfl) ?_
    refine gX11_225 hx hb hts hown hK hw dX11_valueOf_187 ?_
    refine lv_i2l hx hb dX11_valueOf_190 rfl ?_
    have h := Option.some.inj h
    subst h
    rw [← hQ]
    exact retL hx hb hr hlk hw dX11_valueOf_191
  by_cases g_11_116 : a1 = 116
  · refine lv_tableIn (off := 175) (tgt := 186) hx hb dX11_valueOf_11 (by rw [g_11_116]; decide) (by rw [g_11_116]; decide) (by rw [g_11_116]; rfl) (by decide) ?_
    refine lv_aload_n hx hb dX11_valueOf_186 rfl (lv_at hl 2 rfl) ?_
    refine gX11_225 hx hb hts hown hK hw dX11_valueOf_187 ?_
    refine lv_i2l hx hb dX11_valueOf_190 rfl ?_
    have h := Option.some.inj h
    subst h
    rw [← hQ]
    exact retL hx hb hr hlk hw dX11_valueOf_191
  by_cases g_11_117 : a1 = 117
  · refine lv_tableIn (off := 175) (tgt := 186) hx hb dX11_valueOf_11 (by rw [g_11_117]; decide) (by rw [g_11_117]; decide) (by rw [g_11_117]; rfl) (by decide) ?_
    refine lv_aload_n hx hb dX11_valueOf_186 rfl (lv_at hl 2 rfl) ?_
    refine gX11_225 hx hb hts hown hK hw dX11_valueOf_187 ?_
    refine lv_i2l hx hb dX11_valueOf_190 rfl ?_
    have h := Option.some.inj h
    subst h
    rw [← hQ]
    exact retL hx hb hr hlk hw dX11_valueOf_191
  by_cases g_11_118 : a1 = 118
  · refine lv_tableIn (off := 175) (tgt := 186) hx hb dX11_valueOf_11 (by rw [g_11_118]; decide) (by rw [g_11_118]; decide) (by rw [g_11_118]; rfl) (by decide) ?_
    refine lv_aload_n hx hb dX11_valueOf_186 rfl (lv_at hl 2 rfl) ?_
    refine gX11_225 hx hb hts hown hK hw dX11_valueOf_187 ?_
    refine lv_i2l hx hb dX11_valueOf_190 rfl ?_
    have h := Option.some.inj h
    subst h
    rw [← hQ]
    exact retL hx hb hr hlk hw dX11_valueOf_191
  refine lv_tableOut (tgt := 186) hx hb dX11_valueOf_11 (by have := lv_neT c_11_97 (a := 97) rfl; have := lv_neT c_11_102 (a := 102) rfl; have := lv_neT c_11_104 (a := 104) rfl; have := lv_neT c_11_107 (a := 107) rfl; have := lv_neT c_11_108 (a := 108) rfl; have := lv_neT c_11_109 (a := 109) rfl; have := lv_neT c_11_115 (a := 115) rfl; have := lv_neT c_11_119 (a := 119) rfl; have := lv_neT g_11_98 (a := 98) rfl; have := lv_neT g_11_99 (a := 99) rfl; have := lv_neT g_11_100 (a := 100) rfl; have := lv_neT g_11_101 (a := 101) rfl; have := lv_neT g_11_103 (a := 103) rfl; have := lv_neT g_11_105 (a := 105) rfl; have := lv_neT g_11_106 (a := 106) rfl; have := lv_neT g_11_110 (a := 110) rfl; have := lv_neT g_11_111 (a := 111) rfl; have := lv_neT g_11_112 (a := 112) rfl; have := lv_neT g_11_113 (a := 113) rfl; have := lv_neT g_11_114 (a := 114) rfl; have := lv_neT g_11_116 (a := 116) rfl; have := lv_neT g_11_117 (a := 117) rfl; have := lv_neT g_11_118 (a := 118) rfl; omega) (by decide) ?_
  refine lv_aload_n hx hb dX11_valueOf_186 rfl (lv_at hl 2 rfl) ?_
  refine gX11_225 hx hb hts hown hK hw dX11_valueOf_187 ?_
  refine lv_i2l hx hb dX11_valueOf_190 rfl ?_
  have h := Option.some.inj h
  subst h
  rw [← hQ]
  exact retL hx hb hr hlk hw dX11_valueOf_191
theorem dX11_holds_0 : decode cX11_holds 0 = .ok (.iconst 0, 1) := by decide +kernel
theorem dX11_holds_1 : decode cX11_holds 1 = .ok (.istore_n 2, 1) := by decide +kernel
theorem dX11_holds_2 : decode cX11_holds 2 = .ok (.iload_n 1, 1) := by decide +kernel
theorem dX11_holds_3 : decode cX11_holds 3 = .ok (.bipush 12, 2) := by decide +kernel
theorem dX11_holds_5 : decode cX11_holds 5 = .ok (.idiv, 1) := by decide +kernel
theorem dX11_holds_6 : decode cX11_holds 6 = .ok (.sipush 160, 3) := by decide +kernel
theorem dX11_holds_9 : decode cX11_holds 9 = .ok (.imul, 1) := by decide +kernel
theorem dX11_holds_10 : decode cX11_holds 10 = .ok (.istore_n 3, 1) := by decide +kernel
theorem dX11_holds_11 : decode cX11_holds 11 = .ok (.iload_n 3, 1) := by decide +kernel
theorem dX11_holds_12 : decode cX11_holds 12 = .ok (.aload_n 0, 1) := by decide +kernel
theorem dX11_holds_13 : decode cX11_holds 13 = .ok (.getfield 97, 3) := by decide +kernel
theorem dX11_holds_16 : decode cX11_holds 16 = .ok (.iload_n 1, 1) := by decide +kernel
theorem dX11_holds_17 : decode cX11_holds 17 = .ok (.iaload, 1) := by decide +kernel
theorem dX11_holds_18 : decode cX11_holds 18 = .ok (.iadd, 1) := by decide +kernel
theorem dX11_holds_19 : decode cX11_holds 19 = .ok (.istore 4, 2) := by decide +kernel
theorem dX11_holds_21 : decode cX11_holds 21 = .ok (.iload 4, 2) := by decide +kernel
theorem dX11_holds_23 : decode cX11_holds 23 = .ok (.iload_n 3, 1) := by decide +kernel
theorem dX11_holds_24 : decode cX11_holds 24 = .ok (.aload_n 0, 1) := by decide +kernel
theorem dX11_holds_25 : decode cX11_holds 25 = .ok (.getfield 100, 3) := by decide +kernel
theorem dX11_holds_28 : decode cX11_holds 28 = .ok (.iload_n 1, 1) := by decide +kernel
theorem dX11_holds_29 : decode cX11_holds 29 = .ok (.iaload, 1) := by decide +kernel
theorem dX11_holds_30 : decode cX11_holds 30 = .ok (.iadd, 1) := by decide +kernel
theorem dX11_holds_31 : decode cX11_holds 31 = .ok (.if_icmp .ge 120, 3) := by decide +kernel
theorem dX11_holds_34 : decode cX11_holds 34 = .ok (.aload_n 0, 1) := by decide +kernel
theorem dX11_holds_35 : decode cX11_holds 35 = .ok (.getfield 103, 3) := by decide +kernel
theorem dX11_holds_38 : decode cX11_holds 38 = .ok (.iload 4, 2) := by decide +kernel
theorem dX11_holds_40 : decode cX11_holds 40 = .ok (.iaload, 1) := by decide +kernel
theorem dX11_holds_41 : decode cX11_holds 41 = .ok (.iconst 2, 1) := by decide +kernel
theorem dX11_holds_42 : decode cX11_holds 42 = .ok (.if_icmp .le 23, 3) := by decide +kernel
theorem dX11_holds_45 : decode cX11_holds 45 = .ok (.iinc 2 (-1), 3) := by decide +kernel
theorem dX11_holds_48 : decode cX11_holds 48 = .ok (.aload_n 0, 1) := by decide +kernel
theorem dX11_holds_49 : decode cX11_holds 49 = .ok (.aload_n 0, 1) := by decide +kernel
theorem dX11_holds_50 : decode cX11_holds 50 = .ok (.getfield 103, 3) := by decide +kernel
theorem dX11_holds_53 : decode cX11_holds 53 = .ok (.iload 4, 2) := by decide +kernel
theorem dX11_holds_55 : decode cX11_holds 55 = .ok (.iaload, 1) := by decide +kernel
theorem dX11_holds_56 : decode cX11_holds 56 = .ok (.iload_n 2, 1) := by decide +kernel
theorem dX11_holds_57 : decode cX11_holds 57 = .ok (.iconst 1, 1) := by decide +kernel
theorem dX11_holds_58 : decode cX11_holds 58 = .ok (.isub, 1) := by decide +kernel
theorem dX11_holds_59 : decode cX11_holds 59 = .ok (.invokevirtual 422, 3) := by decide +kernel
theorem dX11_holds_62 : decode cX11_holds 62 = .ok (.goto 83, 3) := by decide +kernel
theorem dX11_holds_65 : decode cX11_holds 65 = .ok (.aload_n 0, 1) := by decide +kernel
theorem dX11_holds_66 : decode cX11_holds 66 = .ok (.getfield 103, 3) := by decide +kernel
theorem dX11_holds_69 : decode cX11_holds 69 = .ok (.iload 4, 2) := by decide +kernel
theorem dX11_holds_71 : decode cX11_holds 71 = .ok (.iaload, 1) := by decide +kernel
theorem dX11_holds_72 : decode cX11_holds 72 = .ok (.iconst 2, 1) := by decide +kernel
theorem dX11_holds_73 : decode cX11_holds 73 = .ok (.if_icmp .ne 24, 3) := by decide +kernel
theorem dX11_holds_76 : decode cX11_holds 76 = .ok (.aload_n 0, 1) := by decide +kernel
theorem dX11_holds_77 : decode cX11_holds 77 = .ok (.getfield 112, 3) := by decide +kernel
theorem dX11_holds_80 : decode cX11_holds 80 = .ok (.iload_n 2, 1) := by decide +kernel
theorem dX11_holds_81 : decode cX11_holds 81 = .ok (.iconst 1, 1) := by decide +kernel
theorem dX11_holds_82 : decode cX11_holds 82 = .ok (.isub, 1) := by decide +kernel
theorem dX11_holds_83 : decode cX11_holds 83 = .ok (.lconst 1, 1) := by decide +kernel
theorem dX11_holds_84 : decode cX11_holds 84 = .ok (.aload_n 0, 1) := by decide +kernel
theorem dX11_holds_85 : decode cX11_holds 85 = .ok (.getfield 112, 3) := by decide +kernel
theorem dX11_holds_88 : decode cX11_holds 88 = .ok (.iload_n 2, 1) := by decide +kernel
theorem dX11_holds_89 : decode cX11_holds 89 = .ok (.iconst 1, 1) := by decide +kernel
theorem dX11_holds_90 : decode cX11_holds 90 = .ok (.isub, 1) := by decide +kernel
theorem dX11_holds_91 : decode cX11_holds 91 = .ok (.laload, 1) := by decide +kernel
theorem dX11_holds_92 : decode cX11_holds 92 = .ok (.lsub, 1) := by decide +kernel
theorem dX11_holds_93 : decode cX11_holds 93 = .ok (.lastore, 1) := by decide +kernel
theorem dX11_holds_94 : decode cX11_holds 94 = .ok (.goto 51, 3) := by decide +kernel
theorem dX11_holds_97 : decode cX11_holds 97 = .ok (.aload_n 0, 1) := by decide +kernel
theorem dX11_holds_98 : decode cX11_holds 98 = .ok (.getfield 115, 3) := by decide +kernel
theorem dX11_holds_101 : decode cX11_holds 101 = .ok (.iload_n 2, 1) := by decide +kernel
theorem dX11_holds_102 : decode cX11_holds 102 = .ok (.iconst 0, 1) := by decide +kernel
theorem dX11_holds_103 : decode cX11_holds 103 = .ok (.bastore, 1) := by decide +kernel
theorem dX11_holds_104 : decode cX11_holds 104 = .ok (.aload_n 0, 1) := by decide +kernel
theorem dX11_holds_105 : decode cX11_holds 105 = .ok (.getfield 112, 3) := by decide +kernel
theorem dX11_holds_108 : decode cX11_holds 108 = .ok (.iload_n 2, 1) := by decide +kernel
theorem dX11_holds_109 : decode cX11_holds 109 = .ok (.aload_n 0, 1) := by decide +kernel
theorem dX11_holds_110 : decode cX11_holds 110 = .ok (.getfield 103, 3) := by decide +kernel
theorem dX11_holds_113 : decode cX11_holds 113 = .ok (.iload 4, 2) := by decide +kernel
theorem dX11_holds_115 : decode cX11_holds 115 = .ok (.iaload, 1) := by decide +kernel
theorem dX11_holds_116 : decode cX11_holds 116 = .ok (.ifCond .ne 14, 3) := by decide +kernel
theorem dX11_holds_119 : decode cX11_holds 119 = .ok (.aload_n 0, 1) := by decide +kernel
theorem dX11_holds_120 : decode cX11_holds 120 = .ok (.getfield 106, 3) := by decide +kernel
theorem dX11_holds_123 : decode cX11_holds 123 = .ok (.iload 4, 2) := by decide +kernel
theorem dX11_holds_125 : decode cX11_holds 125 = .ok (.iaload, 1) := by decide +kernel
theorem dX11_holds_126 : decode cX11_holds 126 = .ok (.i2l, 1) := by decide +kernel
theorem dX11_holds_127 : decode cX11_holds 127 = .ok (.goto 14, 3) := by decide +kernel
theorem dX11_holds_130 : decode cX11_holds 130 = .ok (.aload_n 0, 1) := by decide +kernel
theorem dX11_holds_131 : decode cX11_holds 131 = .ok (.aload_n 0, 1) := by decide +kernel
theorem dX11_holds_132 : decode cX11_holds 132 = .ok (.getfield 106, 3) := by decide +kernel
theorem dX11_holds_135 : decode cX11_holds 135 = .ok (.iload 4, 2) := by decide +kernel
theorem dX11_holds_137 : decode cX11_holds 137 = .ok (.iaload, 1) := by decide +kernel
theorem dX11_holds_138 : decode cX11_holds 138 = .ok (.invokevirtual 425, 3) := by decide +kernel
theorem dX11_holds_141 : decode cX11_holds 141 = .ok (.lastore, 1) := by decide +kernel
theorem dX11_holds_142 : decode cX11_holds 142 = .ok (.iinc 2 1, 3) := by decide +kernel
theorem dX11_holds_145 : decode cX11_holds 145 = .ok (.iinc 4 1, 3) := by decide +kernel
theorem dX11_holds_148 : decode cX11_holds 148 = .ok (.goto (-127), 3) := by decide +kernel
theorem dX11_holds_151 : decode cX11_holds 151 = .ok (.aload_n 0, 1) := by decide +kernel
theorem dX11_holds_152 : decode cX11_holds 152 = .ok (.getfield 115, 3) := by decide +kernel
theorem dX11_holds_155 : decode cX11_holds 155 = .ok (.iconst 0, 1) := by decide +kernel
theorem dX11_holds_156 : decode cX11_holds 156 = .ok (.baload, 1) := by decide +kernel
theorem dX11_holds_157 : decode cX11_holds 157 = .ok (.ifCond .ne 18, 3) := by decide +kernel
theorem dX11_holds_160 : decode cX11_holds 160 = .ok (.aload_n 0, 1) := by decide +kernel
theorem dX11_holds_161 : decode cX11_holds 161 = .ok (.getfield 112, 3) := by decide +kernel
theorem dX11_holds_164 : decode cX11_holds 164 = .ok (.iconst 0, 1) := by decide +kernel
theorem dX11_holds_165 : decode cX11_holds 165 = .ok (.laload, 1) := by decide +kernel
theorem dX11_holds_166 : decode cX11_holds 166 = .ok (.lconst 1, 1) := by decide +kernel
theorem dX11_holds_167 : decode cX11_holds 167 = .ok (.lcmp, 1) := by decide +kernel
theorem dX11_holds_168 : decode cX11_holds 168 = .ok (.ifCond .ne 7, 3) := by decide +kernel
theorem dX11_holds_171 : decode cX11_holds 171 = .ok (.iconst 1, 1) := by decide +kernel
theorem dX11_holds_172 : decode cX11_holds 172 = .ok (.goto 4, 3) := by decide +kernel
theorem dX11_holds_175 : decode cX11_holds 175 = .ok (.iconst 0, 1) := by decide +kernel
theorem dX11_holds_176 : decode cX11_holds 176 = .ok (.ireturn, 1) := by decide +kernel
noncomputable def f11_holds_j176 (k0_j176 : Int32) (s11_j176 : OS) : Option (Int32 × OS) := chk (isB k0_j176) (some (k0_j176, s11_j176))
noncomputable def f11_holds_j175 (s11_j175 : OS) : Option (Int32 × OS) := f11_holds_j176 ((0 : Int32)) s11_j175
noncomputable def f11_holds_j145 (v1_j145 : Int32) (v2_j145 : Int32) (v3_j145 : Int32) (v4_j145 : Int32) (s11_j145 : OS) : Option ((Int32 × Int32 × OS) ⊕ (Int32 × OS)) := nm (v4_j145 + (1 : Int32)) fun n_145 => some (Sum.inl (v2_j145, n_145, s11_j145))
noncomputable def f11_holds_j141 (v1_j141 : Int32) (v2_j141 : Int32) (v3_j141 : Int32) (v4_j141 : Int32) (k1_j141 : Int32) (k2_j141 : Int64) (s11_j141 : OS) : Option ((Int32 × Int32 × OS) ⊕ (Int32 × OS)) := chk (inb k1_j141 200) (nm (wL s11_j141 56 k1_j141.toNatClampNeg k2_j141) fun s11_141 => nm (v2_j141 + (1 : Int32)) fun n_142 => f11_holds_j145 v1_j141 n_142 v3_j141 v4_j141 s11_141)
noncomputable def f11_holds_l21 (v1_i21 : Int32) (v3_i21 : Int32) : Int32 × Int32 × OS → Option ((Int32 × Int32 × OS) ⊕ (Int32 × OS)) := fun t_21 => chk (inb v1_i21 240) (nm (t_21.2.2.1 41 v1_i21.toNatClampNeg) fun y_29 => if (v3_i21 + y_29) ≤ t_21.2.1 then (Option.map Sum.inr (chk (inb ((0 : Int32)) 200) (nm (t_21.2.2.1 57 ((0 : Int32)).toNatClampNeg) fun y_156 => if y_156 = 0 then (chk (inb ((0 : Int32)) 200) (nm (t_21.2.2.2 56 ((0 : Int32)).toNatClampNeg) fun y_165 => if (lg_cmp y_165 ((1 : Int64))) = 0 then (f11_holds_j176 ((1 : Int32)) t_21.2.2) else (f11_holds_j175 t_21.2.2))) else (f11_holds_j175 t_21.2.2)))) else (chk (inb t_21.2.1 3200) (nm (t_21.2.2.1 42 t_21.2.1.toNatClampNeg) fun y_40 => if y_40 ≤ (2 : Int32) then (chk (inb t_21.2.1 3200) (nm (t_21.2.2.1 42 t_21.2.1.toNatClampNeg) fun y_71 => if y_71 = (2 : Int32) then (chk (inb ((t_21.1 - (1 : Int32))) 200) (nm (t_21.2.2.2 56 ((t_21.1 - (1 : Int32))).toNatClampNeg) fun y_91 => chk (inb ((t_21.1 - (1 : Int32))) 200) (nm (wL t_21.2.2 56 ((t_21.1 - (1 : Int32))).toNatClampNeg (((1 : Int64) - y_91))) fun s11_93 => f11_holds_j145 v1_i21 t_21.1 v3_i21 t_21.2.1 s11_93))) else (chk (inb t_21.1 200) (nm (wI t_21.2.2 57 t_21.1.toNatClampNeg (vp_nar .boolean ((0 : Int32)))) fun s11_103 => chk (inb t_21.2.1 3200) (nm (s11_103.1 42 t_21.2.1.toNatClampNeg) fun y_115 => if y_115 = 0 then (chk (inb t_21.2.1 3200) (nm (s11_103.1 43 t_21.2.1.toNatClampNeg) fun y_125 => f11_holds_j141 v1_i21 t_21.1 v3_i21 t_21.2.1 t_21.1 ((y_125).toInt64) s11_103)) else (chk (inb t_21.2.1 3200) (nm (s11_103.1 43 t_21.2.1.toNatClampNeg) fun y_137 => Option.bind (f11_valueOf y_137 s11_103) fun q_138 => f11_holds_j141 v1_i21 t_21.1 v3_i21 t_21.2.1 t_21.1 q_138 s11_103))))))) else (nm (t_21.1 + (-1 : Int32)) fun n_45 => chk (inb t_21.2.1 3200) (nm (t_21.2.2.1 42 t_21.2.1.toNatClampNeg) fun y_55 => Option.bind (f11_does y_55 ((n_45 - (1 : Int32))) t_21.2.2) fun q_59 => f11_holds_j145 v1_i21 n_45 v3_i21 t_21.2.1 q_59)))))
noncomputable def f11_holds (a1 : Int32) (s11 : OS) : Option (Int32 × OS) := nm (((a1 / (12 : Int32)) * (160 : Int32))) fun n_10 => chk (inb a1 240) (nm (s11.1 40 a1.toNatClampNeg) fun y_17 => nm ((n_10 + y_17)) fun n_19 => loop (f11_holds_l21 a1 n_10) ((0 : Int32), n_19, s11))
set_option maxHeartbeats 4000000 in
set_option maxRecDepth 100000 in
theorem m11_holds (l : Launch) (D : va_G) (ad : Nat → Nat) (cy : Nat → ClassId) (sz : Nat) (s11 : OS) (a1 : Int32) (r : Int32 × OS) (h : f11_holds a1 s11 = some r) : Met l yX11_holds (wsOf yX11_holds cX11_holds 5 (some .boolean)) (rmL 2) (va_Pc ([.ref (ad 0), .int a1] : List Value) (PreG D cy (cellsM ad cy s11) sz NM)) (QcI D ad 66 (cellsM ad cy r.2) (r.1) sz) 0 0 (Afr ad 66 sz) := by
  refine metG (own := RX11) (by decide) rfl (Nat.le_of_ble_eq_true rfl) fstM ?_ sz
  intro p e s m below meth c ls C0 hw hl
  obtain ⟨hx, hb, hml, hown, hts, hr, hlk, hK, hN⟩ := C0
  have hl : lv_has ls 5 [(0, .ref (ad 0)), (1, .int a1)] := hl
  generalize hQ : MQ below (QcI D ad 66 (cellsM ad cy r.2) (r.1) s.heap.size) ([.ref (ad 0), .int a1] : List Value).toArray s 0 0 (Afr ad 66 s.heap.size) = Q
  obtain ⟨H, hH⟩ : ∃ H : Heap, H = s.heap := ⟨_, rfl⟩
  obtain ⟨locs, hlc⟩ : ∃ L : List Loc, L = [] := ⟨_, rfl⟩
  have hw : Wd D (cellsM ad cy s11) (Afr ad 66 s.heap.size) s.heap H locs := by rw [hH, hlc]; exact hw
  suffices h0 : W p l e (rmL 2) s m ([.ref (ad 0), .int a1] : List Value).toArray below meth c H locs 0 0 Q (F0 m 0 ls []) by rw [hH, hlc] at h0; exact h0
  clear hH hlc
  unfold f11_holds at h
  have hJ_176 : ∀ (k0_j176 : Int32) (s11_j176 : OS) (H : Heap) (locs : List Loc) (ls : Array Slot), f11_holds_j176 k0_j176 s11_j176 = some r → Wd D (cellsM ad cy s11_j176) (Afr ad 66 s.heap.size) s.heap H locs → lv_has ls 5 [] → W p l e (rmL 2) s m ([.ref (ad 0), .int a1] : List Value).toArray below meth c H locs 0 0 Q (F0 m 176 ls [.int k0_j176]) := by
    intro k0_j176 s11_j176 H locs ls h hw hl
    unfold f11_holds_j176 at h
    obtain ⟨hz_176, h⟩ := chk_e h
    have h := Option.some.inj h
    subst h
    rw [← hQ]
    exact retI hx hb hr hlk hw (narB hz_176) dX11_holds_176
  have hJ_175 : ∀ (s11_j175 : OS) (H : Heap) (locs : List Loc) (ls : Array Slot), f11_holds_j175 s11_j175 = some r → Wd D (cellsM ad cy s11_j175) (Afr ad 66 s.heap.size) s.heap H locs → lv_has ls 5 [] → W p l e (rmL 2) s m ([.ref (ad 0), .int a1] : List Value).toArray below meth c H locs 0 0 Q (F0 m 175 ls []) := by
    intro s11_j175 H locs ls h hw hl
    unfold f11_holds_j175 at h
    refine lv_iconst (v := 0) hx hb dX11_holds_175 (by decide) ?_
    exact hJ_176 ((0 : Int32)) s11_j175 H locs ls h hw (lv_sub hl [] rfl)
  refine lv_iconst (v := 0) hx hb dX11_holds_0 (by decide) ?_
  refine lv_istore_n (lv' := [(2, .int ((0 : Int32))), (0, .ref (ad 0)), (1, .int a1)]) hx hb dX11_holds_1 rfl hl (by decide) rfl (fun ls hl => ?_)
  refine lv_iload_n hx hb dX11_holds_2 rfl (lv_at hl 2 rfl) ?_
  refine lv_bipush (v := 12) hx hb dX11_holds_3 (by decide) ?_
  refine lv_idiv hx hb dX11_holds_5 (by decide) ?_
  refine lv_sipush (v := 160) hx hb dX11_holds_6 (by decide) ?_
  refine lv_imul hx hb dX11_holds_9 ?_
  obtain ⟨n_10, e_10, h⟩ := nam_e h
  refine topI e_10 ?_
  refine lv_istore_n (lv' := [(3, .int n_10), (2, .int ((0 : Int32))), (0, .ref (ad 0)), (1, .int a1)]) hx hb dX11_holds_10 rfl hl (by decide) rfl (fun ls hl => ?_)
  refine lv_iload_n hx hb dX11_holds_11 rfl (lv_at hl 0 rfl) ?_
  refine lv_aload_n hx hb dX11_holds_12 rfl (lv_at hl 2 rfl) ?_
  refine gX11_97 hx hb hts hown hK hw dX11_holds_13 ?_
  refine lv_iload_n hx hb dX11_holds_16 rfl (lv_at hl 3 rfl) ?_
  obtain ⟨hi_17, h⟩ := chk_e h
  obtain ⟨y_17, e_17, h⟩ := nam_e h
  refine lM29 hx hb hK hw hi_17 e_17 dX11_holds_17 ?_
  refine lv_iadd hx hb dX11_holds_18 ?_
  obtain ⟨n_19, e_19, h⟩ := nam_e h
  refine topI e_19 ?_
  refine lv_istore (lv' := [(4, .int n_19), (3, .int n_10), (2, .int ((0 : Int32))), (0, .ref (ad 0)), (1, .int a1)]) hx hb dX11_holds_19 hl (by decide) rfl (fun ls hl => ?_)
  obtain ⟨n_21, hn_21⟩ := loop_e h
  have hL_21 : ∀ (n : Nat) (t_21 : Int32 × Int32 × OS) (H : Heap) (locs : List Loc) (ls : Array Slot), loopN (f11_holds_l21 a1 n_10) n t_21 = some r → Wd D (cellsM ad cy t_21.2.2) (Afr ad 66 s.heap.size) s.heap H locs → lv_has ls 5 [(2, .int t_21.1), (4, .int t_21.2.1), (1, .int a1), (3, .int n_10), (0, .ref (ad 0))] → W p l e (rmL 2) s m ([.ref (ad 0), .int a1] : List Value).toArray below meth c H locs 0 0 Q (F0 m 21 ls []) := by
    intro n
    induction n with
    | zero => intro t_21 H locs ls hn; cases hn
    | succ n ih_21 =>
      intro t_21 H locs ls hn hw hl
      obtain ⟨x_21, h, hx_21⟩ := loopN_e hn
      unfold f11_holds_l21 at h
      have hJ_145 : ∀ (v2_j145 : Int32) (v4_j145 : Int32) (s11_j145 : OS) (H : Heap) (locs : List Loc) (ls : Array Slot), f11_holds_j145 a1 v2_j145 n_10 v4_j145 s11_j145 = some x_21 → Wd D (cellsM ad cy s11_j145) (Afr ad 66 s.heap.size) s.heap H locs → lv_has ls 5 [(0, .ref (ad 0)), (1, .int a1), (2, .int v2_j145), (3, .int n_10), (4, .int v4_j145)] → W p l e (rmL 2) s m ([.ref (ad 0), .int a1] : List Value).toArray below meth c H locs 0 0 Q (F0 m 145 ls []) := by
        intro v2_j145 v4_j145 s11_j145 H locs ls h hw hl
        unfold f11_holds_j145 at h
        obtain ⟨n_145, e_145, h⟩ := nam_e h
        refine lv_iinc (v := n_145) (lv' := [(4, .int n_145), (0, .ref (ad 0)), (1, .int a1), (2, .int v2_j145), (3, .int n_10)]) hx hb dX11_holds_145 hl (k := 4) rfl (by rw [e_145]; rfl) (by decide) rfl (fun ls hl => ?_)
        refine lv_goto (tgt := 21) hx hb dX11_holds_148 (by decide) ?_
        exact ih_21 (v2_j145, n_145, s11_j145) H locs ls (nx_l hx_21 h) hw (lv_sub hl [3, 0, 2, 4, 1] rfl)
      have hJ_141 : ∀ (v2_j141 : Int32) (v4_j141 : Int32) (k1_j141 : Int32) (k2_j141 : Int64) (s11_j141 : OS) (H : Heap) (locs : List Loc) (ls : Array Slot), f11_holds_j141 a1 v2_j141 n_10 v4_j141 k1_j141 k2_j141 s11_j141 = some x_21 → Wd D (cellsM ad cy s11_j141) (Afr ad 66 s.heap.size) s.heap H locs → lv_has ls 5 [(0, .ref (ad 0)), (1, .int a1), (2, .int v2_j141), (3, .int n_10), (4, .int v4_j141)] → W p l e (rmL 2) s m ([.ref (ad 0), .int a1] : List Value).toArray below meth c H locs 0 0 Q (F0 m 141 ls [.long k2_j141, .int k1_j141, .ref (ad 34)]) := by
        intro v2_j141 v4_j141 k1_j141 k2_j141 s11_j141 H locs ls h hw hl
        unfold f11_holds_j141 at h
        obtain ⟨hi_141, h⟩ := chk_e h
        obtain ⟨s11_141, e_141, h⟩ := nam_e h
        refine aM34 hx hb hK hw hi_141 e_141 dX11_holds_141 (fun H locs hw => ?_)
        obtain ⟨n_142, e_142, h⟩ := nam_e h
        refine lv_iinc (v := n_142) (lv' := [(2, .int n_142), (0, .ref (ad 0)), (1, .int a1), (3, .int n_10), (4, .int v4_j141)]) hx hb dX11_holds_142 hl (k := 2) rfl (by rw [e_142]; rfl) (by decide) rfl (fun ls hl => ?_)
        exact hJ_145 n_142 v4_j141 s11_141 H locs ls h hw (lv_sub hl [1, 2, 0, 3, 4] rfl)
      refine lv_iload hx hb dX11_holds_21 (lv_at hl 1 rfl) ?_
      refine lv_iload_n hx hb dX11_holds_23 rfl (lv_at hl 3 rfl) ?_
      refine lv_aload_n hx hb dX11_holds_24 rfl (lv_at hl 4 rfl) ?_
      refine gX11_100 hx hb hts hown hK hw dX11_holds_25 ?_
      refine lv_iload_n hx hb dX11_holds_28 rfl (lv_at hl 2 rfl) ?_
      obtain ⟨hi_29, h⟩ := chk_e h
      obtain ⟨y_29, e_29, h⟩ := nam_e h
      refine lM30 hx hb hK hw hi_29 e_29 dX11_holds_29 ?_
      refine lv_iadd hx hb dX11_holds_30 ?_
      refine lv_icmp_ge (tgt := 151) hx hb dX11_holds_31 (by decide) (fun c_31 => ?_) (fun c_31 => ?_)
      · have h := ite_t c_31 h
        have h := nx_m hx_21 h
        refine lv_aload_n hx hb dX11_holds_151 rfl (lv_at hl 4 rfl) ?_
        refine gX11_115 hx hb hts hown hK hw dX11_holds_152 ?_
        refine lv_iconst (v := 0) hx hb dX11_holds_155 (by decide) ?_
        obtain ⟨hi_156, h⟩ := chk_e h
        obtain ⟨y_156, e_156, h⟩ := nam_e h
        refine lM35 hx hb hK hw hi_156 e_156 dX11_holds_156 ?_
        refine lv_if_ne (tgt := 175) hx hb dX11_holds_157 (by decide) (fun c_157 => ?_) (fun c_157 => ?_)
        · have h := ite_f c_157 h
          exact hJ_175 t_21.2.2 H locs ls h hw (lv_sub hl [] rfl)
        · have h := ite_t c_157 h
          refine lv_aload_n hx hb dX11_holds_160 rfl (lv_at hl 4 rfl) ?_
          refine gX11_112 hx hb hts hown hK hw dX11_holds_161 ?_
          refine lv_iconst (v := 0) hx hb dX11_holds_164 (by decide) ?_
          obtain ⟨hi_165, h⟩ := chk_e h
          obtain ⟨y_165, e_165, h⟩ := nam_e h
          refine lM34 hx hb hK hw hi_165 e_165 dX11_holds_165 ?_
          refine lv_lconst (v := 1) hx hb dX11_holds_166 (by decide) ?_
          refine W.lcmp hx hb dX11_holds_167 ?_
          refine lv_if_ne (tgt := 175) hx hb dX11_holds_168 (by decide) (fun c_168 => ?_) (fun c_168 => ?_)
          · have h := ite_f c_168 h
            exact hJ_175 t_21.2.2 H locs ls h hw (lv_sub hl [] rfl)
          · have h := ite_t c_168 h
            refine lv_iconst (v := 1) hx hb dX11_holds_171 (by decide) ?_
            refine lv_goto (tgt := 176) hx hb dX11_holds_172 (by decide) ?_
            exact hJ_176 ((1 : Int32)) t_21.2.2 H locs ls h hw (lv_sub hl [] rfl)
      · have h := ite_f c_31 h
        refine lv_aload_n hx hb dX11_holds_34 rfl (lv_at hl 4 rfl) ?_
        refine gX11_103 hx hb hts hown hK hw dX11_holds_35 ?_
        refine lv_iload hx hb dX11_holds_38 (lv_at hl 1 rfl) ?_
        obtain ⟨hi_40, h⟩ := chk_e h
        obtain ⟨y_40, e_40, h⟩ := nam_e h
        refine lM31 hx hb hK hw hi_40 e_40 dX11_holds_40 ?_
        refine lv_iconst (v := 2) hx hb dX11_holds_41 (by decide) ?_
        refine lv_icmp_le (tgt := 65) hx hb dX11_holds_42 (by decide) (fun c_42 => ?_) (fun c_42 => ?_)
        · have h := ite_t c_42 h
          refine lv_aload_n hx hb dX11_holds_65 rfl (lv_at hl 4 rfl) ?_
          refine gX11_103 hx hb hts hown hK hw dX11_holds_66 ?_
          refine lv_iload hx hb dX11_holds_69 (lv_at hl 1 rfl) ?_
          obtain ⟨hi_71, h⟩ := chk_e h
          obtain ⟨y_71, e_71, h⟩ := nam_e h
          refine lM31 hx hb hK hw hi_71 e_71 dX11_holds_71 ?_
          refine lv_iconst (v := 2) hx hb dX11_holds_72 (by decide) ?_
          refine lv_icmp_ne (tgt := 97) hx hb dX11_holds_73 (by decide) (fun c_73 => ?_) (fun c_73 => ?_)
          · have h := ite_f c_73 h
            refine lv_aload_n hx hb dX11_holds_97 rfl (lv_at hl 4 rfl) ?_
            refine gX11_115 hx hb hts hown hK hw dX11_holds_98 ?_
            refine lv_iload_n hx hb dX11_holds_101 rfl (lv_at hl 0 rfl) ?_
            refine lv_iconst (v := 0) hx hb dX11_holds_102 (by decide) ?_
            obtain ⟨hi_103, h⟩ := chk_e h
            obtain ⟨s11_103, e_103, h⟩ := nam_e h
            refine aM35 hx hb hK hw hi_103 e_103 dX11_holds_103 (fun H locs hw => ?_)
            refine lv_aload_n hx hb dX11_holds_104 rfl (lv_at hl 4 rfl) ?_
            refine gX11_112 hx hb hts hown hK hw dX11_holds_105 ?_
            refine lv_iload_n hx hb dX11_holds_108 rfl (lv_at hl 0 rfl) ?_
            refine lv_aload_n hx hb dX11_holds_109 rfl (lv_at hl 4 rfl) ?_
            refine gX11_103 hx hb hts hown hK hw dX11_holds_110 ?_
            refine lv_iload hx hb dX11_holds_113 (lv_at hl 1 rfl) ?_
            obtain ⟨hi_115, h⟩ := chk_e h
            obtain ⟨y_115, e_115, h⟩ := nam_e h
            refine lM31 hx hb hK hw hi_115 e_115 dX11_holds_115 ?_
            refine lv_if_ne (tgt := 130) hx hb dX11_holds_116 (by decide) (fun c_116 => ?_) (fun c_116 => ?_)
            · have h := ite_f c_116 h
              refine lv_aload_n hx hb dX11_holds_130 rfl (lv_at hl 4 rfl) ?_
              refine lv_aload_n hx hb dX11_holds_131 rfl (lv_at hl 4 rfl) ?_
              refine gX11_106 hx hb hts hown hK hw dX11_holds_132 ?_
              refine lv_iload hx hb dX11_holds_135 (lv_at hl 1 rfl) ?_
              obtain ⟨hi_137, h⟩ := chk_e h
              obtain ⟨y_137, e_137, h⟩ := nam_e h
              refine lM32 hx hb hK hw hi_137 e_137 dX11_holds_137 ?_
              obtain ⟨q_138, h_138, h⟩ := bnd_e h
              have pg_138 := preG (av := [.ref (ad 0), .int y_137]) hK hw.1 hw.2.1 NM_keep NM_blind
              refine endL (mc := 0) (ms := 0) (va_runV (As := [.int y_137]) (rest := [.int t_21.1, .ref (ad 34)]) ⟨hx, hb, hml, hown, hts⟩ (m11_valueOf l D ad cy H.size s11_103 y_137 q_138 h_138) (wX11_425 1 hts ⟨Nat.le_of_ble_eq_true rfl, Nat.le_of_ble_eq_true rfl⟩) ⟨pg_138.1, va_recv hK hw.1 (ci := 11) (q0 := 0) rfl eM_0, pg_138.2⟩ rfl rfl hl.1 rfl (lv_room (Nat.le_of_ble_eq_true rfl)) dX11_holds_138 ⟨Nat.le_refl _, Nat.le_refl _⟩) hw.2.2 (afr_in hw.2.2) (fun H locs hw => ?_)
              exact hJ_141 t_21.1 t_21.2.1 t_21.1 q_138 s11_103 H locs ls h hw (lv_sub hl [4, 2, 0, 3, 1] rfl)
            · have h := ite_t c_116 h
              refine lv_aload_n hx hb dX11_holds_119 rfl (lv_at hl 4 rfl) ?_
              refine gX11_106 hx hb hts hown hK hw dX11_holds_120 ?_
              refine lv_iload hx hb dX11_holds_123 (lv_at hl 1 rfl) ?_
              obtain ⟨hi_125, h⟩ := chk_e h
              obtain ⟨y_125, e_125, h⟩ := nam_e h
              refine lM32 hx hb hK hw hi_125 e_125 dX11_holds_125 ?_
              refine lv_i2l hx hb dX11_holds_126 rfl ?_
              refine lv_goto (tgt := 141) hx hb dX11_holds_127 (by decide) ?_
              exact hJ_141 t_21.1 t_21.2.1 t_21.1 ((y_125).toInt64) s11_103 H locs ls h hw (lv_sub hl [4, 2, 0, 3, 1] rfl)
          · have h := ite_t c_73 h
            refine lv_aload_n hx hb dX11_holds_76 rfl (lv_at hl 4 rfl) ?_
            refine gX11_112 hx hb hts hown hK hw dX11_holds_77 ?_
            refine lv_iload_n hx hb dX11_holds_80 rfl (lv_at hl 0 rfl) ?_
            refine lv_iconst (v := 1) hx hb dX11_holds_81 (by decide) ?_
            refine lv_isub hx hb dX11_holds_82 ?_
            refine lv_lconst (v := 1) hx hb dX11_holds_83 (by decide) ?_
            refine lv_aload_n hx hb dX11_holds_84 rfl (lv_at hl 4 rfl) ?_
            refine gX11_112 hx hb hts hown hK hw dX11_holds_85 ?_
            refine lv_iload_n hx hb dX11_holds_88 rfl (lv_at hl 0 rfl) ?_
            refine lv_iconst (v := 1) hx hb dX11_holds_89 (by decide) ?_
            refine lv_isub hx hb dX11_holds_90 ?_
            obtain ⟨hi_91, h⟩ := chk_e h
            obtain ⟨y_91, e_91, h⟩ := nam_e h
            refine lM34 hx hb hK hw hi_91 e_91 dX11_holds_91 ?_
            refine lv_lsub hx hb dX11_holds_92 ?_
            obtain ⟨hi_93, h⟩ := chk_e h
            obtain ⟨s11_93, e_93, h⟩ := nam_e h
            refine aM34 hx hb hK hw hi_93 e_93 dX11_holds_93 (fun H locs hw => ?_)
            refine lv_goto (tgt := 145) hx hb dX11_holds_94 (by decide) ?_
            exact hJ_145 t_21.1 t_21.2.1 s11_93 H locs ls h hw (lv_sub hl [4, 2, 0, 3, 1] rfl)
        · have h := ite_f c_42 h
          obtain ⟨n_45, e_45, h⟩ := nam_e h
          refine lv_iinc (v := n_45) (lv' := [(2, .int n_45), (4, .int t_21.2.1), (1, .int a1), (3, .int n_10), (0, .ref (ad 0))]) hx hb dX11_holds_45 hl (k := 0) rfl (by rw [e_45]; rfl) (by decide) rfl (fun ls hl => ?_)
          refine lv_aload_n hx hb dX11_holds_48 rfl (lv_at hl 4 rfl) ?_
          refine lv_aload_n hx hb dX11_holds_49 rfl (lv_at hl 4 rfl) ?_
          refine gX11_103 hx hb hts hown hK hw dX11_holds_50 ?_
          refine lv_iload hx hb dX11_holds_53 (lv_at hl 1 rfl) ?_
          obtain ⟨hi_55, h⟩ := chk_e h
          obtain ⟨y_55, e_55, h⟩ := nam_e h
          refine lM31 hx hb hK hw hi_55 e_55 dX11_holds_55 ?_
          refine lv_iload_n hx hb dX11_holds_56 rfl (lv_at hl 0 rfl) ?_
          refine lv_iconst (v := 1) hx hb dX11_holds_57 (by decide) ?_
          refine lv_isub hx hb dX11_holds_58 ?_
          obtain ⟨q_59, h_59, h⟩ := bnd_e h
          have pg_59 := preG (av := [.ref (ad 0), .int y_55, .int ((n_45 - (1 : Int32)))]) hK hw.1 hw.2.1 NM_keep NM_blind
          refine endV (mc := 0) (ms := 0) (va_runV (As := [.int y_55, .int ((n_45 - (1 : Int32)))]) (rest := []) ⟨hx, hb, hml, hown, hts⟩ (m11_does l D ad cy H.size t_21.2.2 y_55 ((n_45 - (1 : Int32))) q_59 h_59) (wX11_422 1 hts ⟨Nat.le_of_ble_eq_true rfl, Nat.le_of_ble_eq_true rfl⟩) ⟨pg_59.1, va_recv hK hw.1 (ci := 11) (q0 := 0) rfl eM_0, pg_59.2⟩ rfl rfl hl.1 rfl (lv_room (Nat.le_of_ble_eq_true rfl)) dX11_holds_59 ⟨Nat.le_refl _, Nat.le_refl _⟩) hw.2.2 (afr_in hw.2.2) (fun H locs hw => ?_)
          refine lv_goto (tgt := 145) hx hb dX11_holds_62 (by decide) ?_
          exact hJ_145 n_45 t_21.2.1 q_59 H locs ls h hw (lv_sub hl [4, 2, 0, 3, 1] rfl)
  exact hL_21 n_21 ((0 : Int32), n_19, s11) H locs ls hn_21 hw (lv_sub hl [2, 0, 4, 1, 3] rfl)
theorem dX11_isInForce_0 : decode cX11_isInForce 0 = .ok (.aload_n 0, 1) := by decide +kernel
theorem dX11_isInForce_1 : decode cX11_isInForce 1 = .ok (.getfield 225, 3) := by decide +kernel
theorem dX11_isInForce_4 : decode cX11_isInForce 4 = .ok (.i2l, 1) := by decide +kernel
theorem dX11_isInForce_5 : decode cX11_isInForce 5 = .ok (.aload_n 0, 1) := by decide +kernel
theorem dX11_isInForce_6 : decode cX11_isInForce 6 = .ok (.getfield 79, 3) := by decide +kernel
theorem dX11_isInForce_9 : decode cX11_isInForce 9 = .ok (.iload_n 1, 1) := by decide +kernel
theorem dX11_isInForce_10 : decode cX11_isInForce 10 = .ok (.iaload, 1) := by decide +kernel
theorem dX11_isInForce_11 : decode cX11_isInForce 11 = .ok (.i2l, 1) := by decide +kernel
theorem dX11_isInForce_12 : decode cX11_isInForce 12 = .ok (.aload_n 0, 1) := by decide +kernel
theorem dX11_isInForce_13 : decode cX11_isInForce 13 = .ok (.getfield 82, 3) := by decide +kernel
theorem dX11_isInForce_16 : decode cX11_isInForce 16 = .ok (.iload_n 1, 1) := by decide +kernel
theorem dX11_isInForce_17 : decode cX11_isInForce 17 = .ok (.iaload, 1) := by decide +kernel
theorem dX11_isInForce_18 : decode cX11_isInForce 18 = .ok (.i2l, 1) := by decide +kernel
theorem dX11_isInForce_19 : decode cX11_isInForce 19 = .ok (.invokestatic 215, 3) := by decide +kernel
theorem dX11_isInForce_22 : decode cX11_isInForce 22 = .ok (.ireturn, 1) := by decide +kernel
def f11_isInForce (a1 : Int32) (s11 : OS) : Option (Int32) := chk (inb a1 20) (nm (s11.1 34 a1.toNatClampNeg) fun y_10 => chk (inb a1 20) (nm (s11.1 35 a1.toNatClampNeg) fun y_17 => Option.bind (f11_lies (((s11.1 0 2)).toInt64) ((y_10).toInt64) ((y_17).toInt64)) fun q_19 => chk (isB q_19) (some q_19)))
set_option maxHeartbeats 4000000 in
set_option maxRecDepth 100000 in
theorem m11_isInForce (l : Launch) (D : va_G) (ad : Nat → Nat) (cy : Nat → ClassId) (sz : Nat) (s11 : OS) (a1 : Int32) (r : Int32) (h : f11_isInForce a1 s11 = some r) : Met l yX11_isInForce (wsOf yX11_isInForce cX11_isInForce 2 (some .boolean)) (rmL 1) (va_Pc ([.ref (ad 0), .int a1] : List Value) (PreG D cy (cellsM ad cy s11) sz NM)) (QcI D ad 66 (cellsM ad cy s11) (r) sz) 0 0 (Afr ad 66 sz) := by
  refine metG (own := RX11) (by decide) rfl (Nat.le_of_ble_eq_true rfl) fstM ?_ sz
  intro p e s m below meth c ls C0 hw hl
  obtain ⟨hx, hb, hml, hown, hts, hr, hlk, hK, hN⟩ := C0
  have hl : lv_has ls 2 [(0, .ref (ad 0)), (1, .int a1)] := hl
  generalize hQ : MQ below (QcI D ad 66 (cellsM ad cy s11) (r) s.heap.size) ([.ref (ad 0), .int a1] : List Value).toArray s 0 0 (Afr ad 66 s.heap.size) = Q
  obtain ⟨H, hH⟩ : ∃ H : Heap, H = s.heap := ⟨_, rfl⟩
  obtain ⟨locs, hlc⟩ : ∃ L : List Loc, L = [] := ⟨_, rfl⟩
  have hw : Wd D (cellsM ad cy s11) (Afr ad 66 s.heap.size) s.heap H locs := by rw [hH, hlc]; exact hw
  suffices h0 : W p l e (rmL 1) s m ([.ref (ad 0), .int a1] : List Value).toArray below meth c H locs 0 0 Q (F0 m 0 ls []) by rw [hH, hlc] at h0; exact h0
  clear hH hlc
  unfold f11_isInForce at h
  refine lv_aload_n hx hb dX11_isInForce_0 rfl (lv_at hl 0 rfl) ?_
  refine gX11_225 hx hb hts hown hK hw dX11_isInForce_1 ?_
  refine lv_i2l hx hb dX11_isInForce_4 rfl ?_
  refine lv_aload_n hx hb dX11_isInForce_5 rfl (lv_at hl 0 rfl) ?_
  refine gX11_79 hx hb hts hown hK hw dX11_isInForce_6 ?_
  refine lv_iload_n hx hb dX11_isInForce_9 rfl (lv_at hl 1 rfl) ?_
  obtain ⟨hi_10, h⟩ := chk_e h
  obtain ⟨y_10, e_10, h⟩ := nam_e h
  refine lM23 hx hb hK hw hi_10 e_10 dX11_isInForce_10 ?_
  refine lv_i2l hx hb dX11_isInForce_11 rfl ?_
  refine lv_aload_n hx hb dX11_isInForce_12 rfl (lv_at hl 0 rfl) ?_
  refine gX11_82 hx hb hts hown hK hw dX11_isInForce_13 ?_
  refine lv_iload_n hx hb dX11_isInForce_16 rfl (lv_at hl 1 rfl) ?_
  obtain ⟨hi_17, h⟩ := chk_e h
  obtain ⟨y_17, e_17, h⟩ := nam_e h
  refine lM24 hx hb hK hw hi_17 e_17 dX11_isInForce_17 ?_
  refine lv_i2l hx hb dX11_isInForce_18 rfl ?_
  obtain ⟨q_19, h_19, h⟩ := bnd_e h
  have pg_19 := preG (av := [.long (((s11.1 0 2)).toInt64), .long ((y_10).toInt64), .long ((y_17).toInt64)]) hK hw.1 hw.2.1 NM_keep NM_blind
  refine endI (mc := 0) (ms := 0) (va_runS (As := [.long (((s11.1 0 2)).toInt64), .long ((y_10).toInt64), .long ((y_17).toInt64)]) (rest := []) ⟨hx, hb, hml, hown, hts⟩ (m11_lies l D ad cy H.size s11 (((s11.1 0 2)).toInt64) ((y_10).toInt64) ((y_17).toInt64) q_19 h_19) (wX11_215 0 hts ⟨Nat.le_of_ble_eq_true rfl, Nat.le_of_ble_eq_true rfl⟩) pg_19 rfl rfl hl.1 rfl (lv_room (Nat.le_of_ble_eq_true rfl)) dX11_isInForce_19 ⟨Nat.le_refl _, Nat.le_refl _⟩) hw.2.2 (afr_in hw.2.2) (fun H locs hw => ?_)
  obtain ⟨hz_22, h⟩ := chk_e h
  have h := Option.some.inj h
  subst h
  rw [← hQ]
  exact retI hx hb hr hlk hw (narB hz_22) dX11_isInForce_22
theorem dX11_clauseOf_0 : decode cX11_clauseOf 0 = .ok (.aload_n 0, 1) := by decide +kernel
theorem dX11_clauseOf_1 : decode cX11_clauseOf 1 = .ok (.getfield 298, 3) := by decide +kernel
theorem dX11_clauseOf_4 : decode cX11_clauseOf 4 = .ok (.iconst 1, 1) := by decide +kernel
theorem dX11_clauseOf_5 : decode cX11_clauseOf 5 = .ok (.isub, 1) := by decide +kernel
theorem dX11_clauseOf_6 : decode cX11_clauseOf 6 = .ok (.istore_n 2, 1) := by decide +kernel
theorem dX11_clauseOf_7 : decode cX11_clauseOf 7 = .ok (.iload_n 2, 1) := by decide +kernel
theorem dX11_clauseOf_8 : decode cX11_clauseOf 8 = .ok (.ifCond .lt 74, 3) := by decide +kernel
theorem dX11_clauseOf_11 : decode cX11_clauseOf 11 = .ok (.bipush 12, 2) := by decide +kernel
theorem dX11_clauseOf_13 : decode cX11_clauseOf 13 = .ok (.iload_n 2, 1) := by decide +kernel
theorem dX11_clauseOf_14 : decode cX11_clauseOf 14 = .ok (.imul, 1) := by decide +kernel
theorem dX11_clauseOf_15 : decode cX11_clauseOf 15 = .ok (.aload_n 0, 1) := by decide +kernel
theorem dX11_clauseOf_16 : decode cX11_clauseOf 16 = .ok (.getfield 85, 3) := by decide +kernel
theorem dX11_clauseOf_19 : decode cX11_clauseOf 19 = .ok (.iload_n 2, 1) := by decide +kernel
theorem dX11_clauseOf_20 : decode cX11_clauseOf 20 = .ok (.iaload, 1) := by decide +kernel
theorem dX11_clauseOf_21 : decode cX11_clauseOf 21 = .ok (.iadd, 1) := by decide +kernel
theorem dX11_clauseOf_22 : decode cX11_clauseOf 22 = .ok (.iconst 1, 1) := by decide +kernel
theorem dX11_clauseOf_23 : decode cX11_clauseOf 23 = .ok (.isub, 1) := by decide +kernel
theorem dX11_clauseOf_24 : decode cX11_clauseOf 24 = .ok (.istore_n 3, 1) := by decide +kernel
theorem dX11_clauseOf_25 : decode cX11_clauseOf 25 = .ok (.iload_n 3, 1) := by decide +kernel
theorem dX11_clauseOf_26 : decode cX11_clauseOf 26 = .ok (.bipush 12, 2) := by decide +kernel
theorem dX11_clauseOf_28 : decode cX11_clauseOf 28 = .ok (.iload_n 2, 1) := by decide +kernel
theorem dX11_clauseOf_29 : decode cX11_clauseOf 29 = .ok (.imul, 1) := by decide +kernel
theorem dX11_clauseOf_30 : decode cX11_clauseOf 30 = .ok (.if_icmp .lt 46, 3) := by decide +kernel
theorem dX11_clauseOf_33 : decode cX11_clauseOf 33 = .ok (.aload_n 0, 1) := by decide +kernel
theorem dX11_clauseOf_34 : decode cX11_clauseOf 34 = .ok (.iload_n 2, 1) := by decide +kernel
theorem dX11_clauseOf_35 : decode cX11_clauseOf 35 = .ok (.invokevirtual 429, 3) := by decide +kernel
theorem dX11_clauseOf_38 : decode cX11_clauseOf 38 = .ok (.ifCond .eq 38, 3) := by decide +kernel
theorem dX11_clauseOf_41 : decode cX11_clauseOf 41 = .ok (.aload_n 0, 1) := by decide +kernel
theorem dX11_clauseOf_42 : decode cX11_clauseOf 42 = .ok (.getfield 88, 3) := by decide +kernel
theorem dX11_clauseOf_45 : decode cX11_clauseOf 45 = .ok (.iload_n 3, 1) := by decide +kernel
theorem dX11_clauseOf_46 : decode cX11_clauseOf 46 = .ok (.iaload, 1) := by decide +kernel
theorem dX11_clauseOf_47 : decode cX11_clauseOf 47 = .ok (.iload_n 1, 1) := by decide +kernel
theorem dX11_clauseOf_48 : decode cX11_clauseOf 48 = .ok (.if_icmp .ne 22, 3) := by decide +kernel
theorem dX11_clauseOf_51 : decode cX11_clauseOf 51 = .ok (.aload_n 0, 1) := by decide +kernel
theorem dX11_clauseOf_52 : decode cX11_clauseOf 52 = .ok (.getfield 118, 3) := by decide +kernel
theorem dX11_clauseOf_55 : decode cX11_clauseOf 55 = .ok (.iload_n 3, 1) := by decide +kernel
theorem dX11_clauseOf_56 : decode cX11_clauseOf 56 = .ok (.baload, 1) := by decide +kernel
theorem dX11_clauseOf_57 : decode cX11_clauseOf 57 = .ok (.ifCond .ne 13, 3) := by decide +kernel
theorem dX11_clauseOf_60 : decode cX11_clauseOf 60 = .ok (.aload_n 0, 1) := by decide +kernel
theorem dX11_clauseOf_61 : decode cX11_clauseOf 61 = .ok (.iload_n 3, 1) := by decide +kernel
theorem dX11_clauseOf_62 : decode cX11_clauseOf 62 = .ok (.invokevirtual 432, 3) := by decide +kernel
theorem dX11_clauseOf_65 : decode cX11_clauseOf 65 = .ok (.ifCond .eq 5, 3) := by decide +kernel
theorem dX11_clauseOf_68 : decode cX11_clauseOf 68 = .ok (.iload_n 3, 1) := by decide +kernel
theorem dX11_clauseOf_69 : decode cX11_clauseOf 69 = .ok (.ireturn, 1) := by decide +kernel
theorem dX11_clauseOf_70 : decode cX11_clauseOf 70 = .ok (.iinc 3 (-1), 3) := by decide +kernel
theorem dX11_clauseOf_73 : decode cX11_clauseOf 73 = .ok (.goto (-48), 3) := by decide +kernel
theorem dX11_clauseOf_76 : decode cX11_clauseOf 76 = .ok (.iinc 2 (-1), 3) := by decide +kernel
theorem dX11_clauseOf_79 : decode cX11_clauseOf 79 = .ok (.goto (-72), 3) := by decide +kernel
theorem dX11_clauseOf_82 : decode cX11_clauseOf 82 = .ok (.iconst (-1), 1) := by decide +kernel
theorem dX11_clauseOf_83 : decode cX11_clauseOf 83 = .ok (.ireturn, 1) := by decide +kernel
noncomputable def f11_clauseOf_j76 (v1_j76 : Int32) (v2_j76 : Int32) (s11_j76 : OS) : Option ((Int32 × OS) ⊕ (Int32 × OS)) := nm (v2_j76 + (-1 : Int32)) fun n_76 => some (Sum.inl (n_76, s11_j76))
noncomputable def f11_clauseOf_j70 (v1_j70 : Int32) (v2_j70 : Int32) (v3_j70 : Int32) (s11_j70 : OS) : Option ((Int32 × OS) ⊕ ((Int32 × OS) ⊕ (Int32 × OS))) := nm (v3_j70 + (-1 : Int32)) fun n_70 => some (Sum.inl (n_70, s11_j70))
noncomputable def f11_clauseOf_l25 (v1_i25 : Int32) (v2_i25 : Int32) : Int32 × OS → Option ((Int32 × OS) ⊕ ((Int32 × OS) ⊕ (Int32 × OS))) := fun t_25 => if t_25.1 < ((12 : Int32) * v2_i25) then (Option.map Sum.inr (f11_clauseOf_j76 v1_i25 v2_i25 t_25.2)) else (Option.bind (f11_isInForce v2_i25 t_25.2) fun q_35 => if q_35 = 0 then (Option.map Sum.inr (f11_clauseOf_j76 v1_i25 v2_i25 t_25.2)) else (chk (inb t_25.1 240) (nm (t_25.2.1 37 t_25.1.toNatClampNeg) fun y_46 => if y_46 = v1_i25 then (chk (inb t_25.1 240) (nm (t_25.2.1 58 t_25.1.toNatClampNeg) fun y_56 => if y_56 = 0 then (Option.bind (f11_holds t_25.1 t_25.2) fun q_62 => if q_62.1 = 0 then (f11_clauseOf_j70 v1_i25 v2_i25 t_25.1 q_62.2) else (Option.map Sum.inr (Option.map Sum.inr (some (t_25.1, q_62.2))))) else (f11_clauseOf_j70 v1_i25 v2_i25 t_25.1 t_25.2))) else (f11_clauseOf_j70 v1_i25 v2_i25 t_25.1 t_25.2))))
noncomputable def f11_clauseOf_l7 (v1_i7 : Int32) : Int32 × OS → Option ((Int32 × OS) ⊕ (Int32 × OS)) := fun t_7 => if t_7.1 < 0 then (Option.map Sum.inr (some ((-1 : Int32), t_7.2))) else (chk (inb t_7.1 20) (nm (t_7.2.1 36 t_7.1.toNatClampNeg) fun y_20 => nm (((((12 : Int32) * t_7.1) + y_20) - (1 : Int32))) fun n_24 => loop (f11_clauseOf_l25 v1_i7 t_7.1) (n_24, t_7.2)))
noncomputable def f11_clauseOf (a1 : Int32) (s11 : OS) : Option (Int32 × OS) := nm (((s11.1 0 6) - (1 : Int32))) fun n_6 => loop (f11_clauseOf_l7 a1) (n_6, s11)
set_option maxHeartbeats 4000000 in
set_option maxRecDepth 100000 in
theorem m11_clauseOf (l : Launch) (D : va_G) (ad : Nat → Nat) (cy : Nat → ClassId) (sz : Nat) (s11 : OS) (a1 : Int32) (r : Int32 × OS) (h : f11_clauseOf a1 s11 = some r) : Met l yX11_clauseOf (wsOf yX11_clauseOf cX11_clauseOf 4 (some .int)) (rmL 3) (va_Pc ([.ref (ad 0), .int a1] : List Value) (PreG D cy (cellsM ad cy s11) sz NM)) (QcI D ad 66 (cellsM ad cy r.2) (r.1) sz) 0 0 (Afr ad 66 sz) := by
  refine metG (own := RX11) (by decide) rfl (Nat.le_of_ble_eq_true rfl) fstM ?_ sz
  intro p e s m below meth c ls C0 hw hl
  obtain ⟨hx, hb, hml, hown, hts, hr, hlk, hK, hN⟩ := C0
  have hl : lv_has ls 4 [(0, .ref (ad 0)), (1, .int a1)] := hl
  generalize hQ : MQ below (QcI D ad 66 (cellsM ad cy r.2) (r.1) s.heap.size) ([.ref (ad 0), .int a1] : List Value).toArray s 0 0 (Afr ad 66 s.heap.size) = Q
  obtain ⟨H, hH⟩ : ∃ H : Heap, H = s.heap := ⟨_, rfl⟩
  obtain ⟨locs, hlc⟩ : ∃ L : List Loc, L = [] := ⟨_, rfl⟩
  have hw : Wd D (cellsM ad cy s11) (Afr ad 66 s.heap.size) s.heap H locs := by rw [hH, hlc]; exact hw
  suffices h0 : W p l e (rmL 3) s m ([.ref (ad 0), .int a1] : List Value).toArray below meth c H locs 0 0 Q (F0 m 0 ls []) by rw [hH, hlc] at h0; exact h0
  clear hH hlc
  unfold f11_clauseOf at h
  refine lv_aload_n hx hb dX11_clauseOf_0 rfl (lv_at hl 0 rfl) ?_
  refine gX11_298 hx hb hts hown hK hw dX11_clauseOf_1 ?_
  refine lv_iconst (v := 1) hx hb dX11_clauseOf_4 (by decide) ?_
  refine lv_isub hx hb dX11_clauseOf_5 ?_
  obtain ⟨n_6, e_6, h⟩ := nam_e h
  refine topI e_6 ?_
  refine lv_istore_n (lv' := [(2, .int n_6), (0, .ref (ad 0)), (1, .int a1)]) hx hb dX11_clauseOf_6 rfl hl (by decide) rfl (fun ls hl => ?_)
  obtain ⟨n_7, hn_7⟩ := loop_e h
  have hL_7 : ∀ (n : Nat) (t_7 : Int32 × OS) (H : Heap) (locs : List Loc) (ls : Array Slot), loopN (f11_clauseOf_l7 a1) n t_7 = some r → Wd D (cellsM ad cy t_7.2) (Afr ad 66 s.heap.size) s.heap H locs → lv_has ls 4 [(2, .int t_7.1), (1, .int a1), (0, .ref (ad 0))] → W p l e (rmL 3) s m ([.ref (ad 0), .int a1] : List Value).toArray below meth c H locs 0 0 Q (F0 m 7 ls []) := by
    intro n
    induction n with
    | zero => intro t_7 H locs ls hn; cases hn
    | succ n ih_7 =>
      intro t_7 H locs ls hn hw hl
      obtain ⟨x_7, h, hx_7⟩ := loopN_e hn
      unfold f11_clauseOf_l7 at h
      have hJ_76 : ∀ (v2_j76 : Int32) (s11_j76 : OS) (H : Heap) (locs : List Loc) (ls : Array Slot), f11_clauseOf_j76 a1 v2_j76 s11_j76 = some x_7 → Wd D (cellsM ad cy s11_j76) (Afr ad 66 s.heap.size) s.heap H locs → lv_has ls 4 [(0, .ref (ad 0)), (1, .int a1), (2, .int v2_j76)] → W p l e (rmL 3) s m ([.ref (ad 0), .int a1] : List Value).toArray below meth c H locs 0 0 Q (F0 m 76 ls []) := by
        intro v2_j76 s11_j76 H locs ls h hw hl
        unfold f11_clauseOf_j76 at h
        obtain ⟨n_76, e_76, h⟩ := nam_e h
        refine lv_iinc (v := n_76) (lv' := [(2, .int n_76), (0, .ref (ad 0)), (1, .int a1)]) hx hb dX11_clauseOf_76 hl (k := 2) rfl (by rw [e_76]; rfl) (by decide) rfl (fun ls hl => ?_)
        refine lv_goto (tgt := 7) hx hb dX11_clauseOf_79 (by decide) ?_
        exact ih_7 (n_76, s11_j76) H locs ls (nx_l hx_7 h) hw (lv_sub hl [0, 2, 1] rfl)
      refine lv_iload_n hx hb dX11_clauseOf_7 rfl (lv_at hl 0 rfl) ?_
      refine lv_if_lt (tgt := 82) hx hb dX11_clauseOf_8 (by decide) (fun c_8 => ?_) (fun c_8 => ?_)
      · have h := ite_t c_8 h
        have h := nx_m hx_7 h
        refine lv_iconst (v := (-1)) hx hb dX11_clauseOf_82 (by decide) ?_
        have h := Option.some.inj h
        subst h
        rw [← hQ]
        exact retI hx hb hr hlk hw rfl dX11_clauseOf_83
      · have h := ite_f c_8 h
        refine lv_bipush (v := 12) hx hb dX11_clauseOf_11 (by decide) ?_
        refine lv_iload_n hx hb dX11_clauseOf_13 rfl (lv_at hl 0 rfl) ?_
        refine lv_imul hx hb dX11_clauseOf_14 ?_
        refine lv_aload_n hx hb dX11_clauseOf_15 rfl (lv_at hl 2 rfl) ?_
        refine gX11_85 hx hb hts hown hK hw dX11_clauseOf_16 ?_
        refine lv_iload_n hx hb dX11_clauseOf_19 rfl (lv_at hl 0 rfl) ?_
        obtain ⟨hi_20, h⟩ := chk_e h
        obtain ⟨y_20, e_20, h⟩ := nam_e h
        refine lM25 hx hb hK hw hi_20 e_20 dX11_clauseOf_20 ?_
        refine lv_iadd hx hb dX11_clauseOf_21 ?_
        refine lv_iconst (v := 1) hx hb dX11_clauseOf_22 (by decide) ?_
        refine lv_isub hx hb dX11_clauseOf_23 ?_
        obtain ⟨n_24, e_24, h⟩ := nam_e h
        refine topI e_24 ?_
        refine lv_istore_n (lv' := [(3, .int n_24), (2, .int t_7.1), (1, .int a1), (0, .ref (ad 0))]) hx hb dX11_clauseOf_24 rfl hl (by decide) rfl (fun ls hl => ?_)
        obtain ⟨n_25, hn_25⟩ := loop_e h
        have hL_25 : ∀ (n : Nat) (t_25 : Int32 × OS) (H : Heap) (locs : List Loc) (ls : Array Slot), loopN (f11_clauseOf_l25 a1 t_7.1) n t_25 = some x_7 → Wd D (cellsM ad cy t_25.2) (Afr ad 66 s.heap.size) s.heap H locs → lv_has ls 4 [(3, .int t_25.1), (1, .int a1), (2, .int t_7.1), (0, .ref (ad 0))] → W p l e (rmL 3) s m ([.ref (ad 0), .int a1] : List Value).toArray below meth c H locs 0 0 Q (F0 m 25 ls []) := by
          intro n
          induction n with
          | zero => intro t_25 H locs ls hn; cases hn
          | succ n ih_25 =>
            intro t_25 H locs ls hn hw hl
            obtain ⟨x_25, h, hx_25⟩ := loopN_e hn
            unfold f11_clauseOf_l25 at h
            have hJ_70 : ∀ (v3_j70 : Int32) (s11_j70 : OS) (H : Heap) (locs : List Loc) (ls : Array Slot), f11_clauseOf_j70 a1 t_7.1 v3_j70 s11_j70 = some x_25 → Wd D (cellsM ad cy s11_j70) (Afr ad 66 s.heap.size) s.heap H locs → lv_has ls 4 [(0, .ref (ad 0)), (1, .int a1), (2, .int t_7.1), (3, .int v3_j70)] → W p l e (rmL 3) s m ([.ref (ad 0), .int a1] : List Value).toArray below meth c H locs 0 0 Q (F0 m 70 ls []) := by
              intro v3_j70 s11_j70 H locs ls h hw hl
              unfold f11_clauseOf_j70 at h
              obtain ⟨n_70, e_70, h⟩ := nam_e h
              refine lv_iinc (v := n_70) (lv' := [(3, .int n_70), (0, .ref (ad 0)), (1, .int a1), (2, .int t_7.1)]) hx hb dX11_clauseOf_70 hl (k := 3) rfl (by rw [e_70]; rfl) (by decide) rfl (fun ls hl => ?_)
              refine lv_goto (tgt := 25) hx hb dX11_clauseOf_73 (by decide) ?_
              exact ih_25 (n_70, s11_j70) H locs ls (nx_l hx_25 h) hw (lv_sub hl [0, 2, 3, 1] rfl)
            refine lv_iload_n hx hb dX11_clauseOf_25 rfl (lv_at hl 0 rfl) ?_
            refine lv_bipush (v := 12) hx hb dX11_clauseOf_26 (by decide) ?_
            refine lv_iload_n hx hb dX11_clauseOf_28 rfl (lv_at hl 2 rfl) ?_
            refine lv_imul hx hb dX11_clauseOf_29 ?_
            refine lv_icmp_lt (tgt := 76) hx hb dX11_clauseOf_30 (by decide) (fun c_30 => ?_) (fun c_30 => ?_)
            · have h := ite_t c_30 h
              have h := nx_m hx_25 h
              exact hJ_76 t_7.1 t_25.2 H locs ls h hw (lv_sub hl [3, 1, 2] rfl)
            · have h := ite_f c_30 h
              refine lv_aload_n hx hb dX11_clauseOf_33 rfl (lv_at hl 3 rfl) ?_
              refine lv_iload_n hx hb dX11_clauseOf_34 rfl (lv_at hl 2 rfl) ?_
              obtain ⟨q_35, h_35, h⟩ := bnd_e h
              have pg_35 := preG (av := [.ref (ad 0), .int t_7.1]) hK hw.1 hw.2.1 NM_keep NM_blind
              refine endI (mc := 0) (ms := 0) (va_runV (As := [.int t_7.1]) (rest := []) ⟨hx, hb, hml, hown, hts⟩ (m11_isInForce l D ad cy H.size t_25.2 t_7.1 q_35 h_35) (wX11_429 1 hts ⟨Nat.le_of_ble_eq_true rfl, Nat.le_of_ble_eq_true rfl⟩) ⟨pg_35.1, va_recv hK hw.1 (ci := 11) (q0 := 0) rfl eM_0, pg_35.2⟩ rfl rfl hl.1 rfl (lv_room (Nat.le_of_ble_eq_true rfl)) dX11_clauseOf_35 ⟨Nat.le_refl _, Nat.le_refl _⟩) hw.2.2 (afr_in hw.2.2) (fun H locs hw => ?_)
              refine lv_if_eq (tgt := 76) hx hb dX11_clauseOf_38 (by decide) (fun c_38 => ?_) (fun c_38 => ?_)
              · have h := ite_t c_38 h
                have h := nx_m hx_25 h
                exact hJ_76 t_7.1 t_25.2 H locs ls h hw (lv_sub hl [3, 1, 2] rfl)
              · have h := ite_f c_38 h
                refine lv_aload_n hx hb dX11_clauseOf_41 rfl (lv_at hl 3 rfl) ?_
                refine gX11_88 hx hb hts hown hK hw dX11_clauseOf_42 ?_
                refine lv_iload_n hx hb dX11_clauseOf_45 rfl (lv_at hl 0 rfl) ?_
                obtain ⟨hi_46, h⟩ := chk_e h
                obtain ⟨y_46, e_46, h⟩ := nam_e h
                refine lM26 hx hb hK hw hi_46 e_46 dX11_clauseOf_46 ?_
                refine lv_iload_n hx hb dX11_clauseOf_47 rfl (lv_at hl 1 rfl) ?_
                refine lv_icmp_ne (tgt := 70) hx hb dX11_clauseOf_48 (by decide) (fun c_48 => ?_) (fun c_48 => ?_)
                · have h := ite_f c_48 h
                  exact hJ_70 t_25.1 t_25.2 H locs ls h hw (lv_sub hl [3, 1, 2, 0] rfl)
                · have h := ite_t c_48 h
                  refine lv_aload_n hx hb dX11_clauseOf_51 rfl (lv_at hl 3 rfl) ?_
                  refine gX11_118 hx hb hts hown hK hw dX11_clauseOf_52 ?_
                  refine lv_iload_n hx hb dX11_clauseOf_55 rfl (lv_at hl 0 rfl) ?_
                  obtain ⟨hi_56, h⟩ := chk_e h
                  obtain ⟨y_56, e_56, h⟩ := nam_e h
                  refine lM36 hx hb hK hw hi_56 e_56 dX11_clauseOf_56 ?_
                  refine lv_if_ne (tgt := 70) hx hb dX11_clauseOf_57 (by decide) (fun c_57 => ?_) (fun c_57 => ?_)
                  · have h := ite_f c_57 h
                    exact hJ_70 t_25.1 t_25.2 H locs ls h hw (lv_sub hl [3, 1, 2, 0] rfl)
                  · have h := ite_t c_57 h
                    refine lv_aload_n hx hb dX11_clauseOf_60 rfl (lv_at hl 3 rfl) ?_
                    refine lv_iload_n hx hb dX11_clauseOf_61 rfl (lv_at hl 0 rfl) ?_
                    obtain ⟨q_62, h_62, h⟩ := bnd_e h
                    have pg_62 := preG (av := [.ref (ad 0), .int t_25.1]) hK hw.1 hw.2.1 NM_keep NM_blind
                    refine endI (mc := 0) (ms := 0) (va_runV (As := [.int t_25.1]) (rest := []) ⟨hx, hb, hml, hown, hts⟩ (m11_holds l D ad cy H.size t_25.2 t_25.1 q_62 h_62) (wX11_432 2 hts ⟨Nat.le_of_ble_eq_true rfl, Nat.le_of_ble_eq_true rfl⟩) ⟨pg_62.1, va_recv hK hw.1 (ci := 11) (q0 := 0) rfl eM_0, pg_62.2⟩ rfl rfl hl.1 rfl (lv_room (Nat.le_of_ble_eq_true rfl)) dX11_clauseOf_62 ⟨Nat.le_refl _, Nat.le_refl _⟩) hw.2.2 (afr_in hw.2.2) (fun H locs hw => ?_)
                    refine lv_if_eq (tgt := 70) hx hb dX11_clauseOf_65 (by decide) (fun c_65 => ?_) (fun c_65 => ?_)
                    · have h := ite_t c_65 h
                      exact hJ_70 t_25.1 q_62.2 H locs ls h hw (lv_sub hl [3, 1, 2, 0] rfl)
                    · have h := ite_f c_65 h
                      have h := nx_m hx_25 h
                      have h := nx_m hx_7 h
                      refine lv_iload_n hx hb dX11_clauseOf_68 rfl (lv_at hl 0 rfl) ?_
                      have h := Option.some.inj h
                      subst h
                      rw [← hQ]
                      exact retI hx hb hr hlk hw rfl dX11_clauseOf_69
        exact hL_25 n_25 (n_24, t_7.2) H locs ls hn_25 hw (lv_sub hl [0, 2, 1, 3] rfl)
  exact hL_7 n_7 (n_6, s11) H locs ls hn_7 hw (lv_sub hl [0, 2, 1] rfl)
theorem dX11_clear_0 : decode cX11_clear 0 = .ok (.aload_n 0, 1) := by decide +kernel
theorem dX11_clear_1 : decode cX11_clear 1 = .ok (.getfield 507, 3) := by decide +kernel
theorem dX11_clear_4 : decode cX11_clear 4 = .ok (.istore_n 1, 1) := by decide +kernel
theorem dX11_clear_5 : decode cX11_clear 5 = .ok (.aload_n 0, 1) := by decide +kernel
theorem dX11_clear_6 : decode cX11_clear 6 = .ok (.iconst 0, 1) := by decide +kernel
theorem dX11_clear_7 : decode cX11_clear 7 = .ok (.putfield 507, 3) := by decide +kernel
theorem dX11_clear_10 : decode cX11_clear 10 = .ok (.iload_n 1, 1) := by decide +kernel
theorem dX11_clear_11 : decode cX11_clear 11 = .ok (.ireturn, 1) := by decide +kernel
def f11_clear (s11 : OS) : Option (Int32 × OS) := nm ((s11.1 0 10)) fun n_4 => nm (wI s11 0 10 ((0 : Int32))) fun s11_7 => some (n_4, s11_7)
set_option maxHeartbeats 4000000 in
set_option maxRecDepth 100000 in
theorem m11_clear (l : Launch) (D : va_G) (ad : Nat → Nat) (cy : Nat → ClassId) (sz : Nat) (s11 : OS) (r : Int32 × OS) (h : f11_clear s11 = some r) : Met l yX11_clear (wsOf yX11_clear cX11_clear 2 (some .int)) (rmL 0) (va_Pc ([.ref (ad 0)] : List Value) (PreG D cy (cellsM ad cy s11) sz NM)) (QcI D ad 66 (cellsM ad cy r.2) (r.1) sz) 0 0 (Afr ad 66 sz) := by
  refine metG (own := RX11) (by decide) rfl (Nat.le_of_ble_eq_true rfl) fstM ?_ sz
  intro p e s m below meth c ls C0 hw hl
  obtain ⟨hx, hb, hml, hown, hts, hr, hlk, hK, hN⟩ := C0
  have hl : lv_has ls 2 [(0, .ref (ad 0))] := hl
  generalize hQ : MQ below (QcI D ad 66 (cellsM ad cy r.2) (r.1) s.heap.size) ([.ref (ad 0)] : List Value).toArray s 0 0 (Afr ad 66 s.heap.size) = Q
  obtain ⟨H, hH⟩ : ∃ H : Heap, H = s.heap := ⟨_, rfl⟩
  obtain ⟨locs, hlc⟩ : ∃ L : List Loc, L = [] := ⟨_, rfl⟩
  have hw : Wd D (cellsM ad cy s11) (Afr ad 66 s.heap.size) s.heap H locs := by rw [hH, hlc]; exact hw
  suffices h0 : W p l e (rmL 0) s m ([.ref (ad 0)] : List Value).toArray below meth c H locs 0 0 Q (F0 m 0 ls []) by rw [hH, hlc] at h0; exact h0
  clear hH hlc
  unfold f11_clear at h
  refine lv_aload_n hx hb dX11_clear_0 rfl (lv_at hl 0 rfl) ?_
  refine gX11_507 hx hb hts hown hK hw dX11_clear_1 ?_
  obtain ⟨n_4, e_4, h⟩ := nam_e h
  refine topI e_4 ?_
  refine lv_istore_n (lv' := [(1, .int n_4), (0, .ref (ad 0))]) hx hb dX11_clear_4 rfl hl (by decide) rfl (fun ls hl => ?_)
  refine lv_aload_n hx hb dX11_clear_5 rfl (lv_at hl 1 rfl) ?_
  refine lv_iconst (v := 0) hx hb dX11_clear_6 (by decide) ?_
  obtain ⟨s11_7, e_7, h⟩ := nam_e h
  refine pX11_507 hx hb hts hown hK hw e_7 dX11_clear_7 (fun H locs hw => ?_)
  refine lv_iload_n hx hb dX11_clear_10 rfl (lv_at hl 0 rfl) ?_
  have h := Option.some.inj h
  subst h
  rw [← hQ]
  exact retI hx hb hr hlk hw rfl dX11_clear_11
theorem dX11_comes_0 : decode cX11_comes 0 = .ok (.aload_n 0, 1) := by decide +kernel
theorem dX11_comes_1 : decode cX11_comes 1 = .ok (.getfield 235, 3) := by decide +kernel
theorem dX11_comes_4 : decode cX11_comes 4 = .ok (.istore 7, 2) := by decide +kernel
theorem dX11_comes_6 : decode cX11_comes 6 = .ok (.aload_n 0, 1) := by decide +kernel
theorem dX11_comes_7 : decode cX11_comes 7 = .ok (.getfield 13, 3) := by decide +kernel
theorem dX11_comes_10 : decode cX11_comes 10 = .ok (.iload 7, 2) := by decide +kernel
theorem dX11_comes_12 : decode cX11_comes 12 = .ok (.iload_n 1, 1) := by decide +kernel
theorem dX11_comes_13 : decode cX11_comes 13 = .ok (.iastore, 1) := by decide +kernel
theorem dX11_comes_14 : decode cX11_comes 14 = .ok (.aload_n 0, 1) := by decide +kernel
theorem dX11_comes_15 : decode cX11_comes 15 = .ok (.getfield 17, 3) := by decide +kernel
theorem dX11_comes_18 : decode cX11_comes 18 = .ok (.iload 7, 2) := by decide +kernel
theorem dX11_comes_20 : decode cX11_comes 20 = .ok (.iload_n 2, 1) := by decide +kernel
theorem dX11_comes_21 : decode cX11_comes 21 = .ok (.iastore, 1) := by decide +kernel
theorem dX11_comes_22 : decode cX11_comes 22 = .ok (.aload_n 0, 1) := by decide +kernel
theorem dX11_comes_23 : decode cX11_comes 23 = .ok (.getfield 20, 3) := by decide +kernel
theorem dX11_comes_26 : decode cX11_comes 26 = .ok (.iload 7, 2) := by decide +kernel
theorem dX11_comes_28 : decode cX11_comes 28 = .ok (.iload_n 3, 1) := by decide +kernel
theorem dX11_comes_29 : decode cX11_comes 29 = .ok (.iastore, 1) := by decide +kernel
theorem dX11_comes_30 : decode cX11_comes 30 = .ok (.aload_n 0, 1) := by decide +kernel
theorem dX11_comes_31 : decode cX11_comes 31 = .ok (.getfield 23, 3) := by decide +kernel
theorem dX11_comes_34 : decode cX11_comes 34 = .ok (.iload 7, 2) := by decide +kernel
theorem dX11_comes_36 : decode cX11_comes 36 = .ok (.iload 4, 2) := by decide +kernel
theorem dX11_comes_38 : decode cX11_comes 38 = .ok (.iastore, 1) := by decide +kernel
theorem dX11_comes_39 : decode cX11_comes 39 = .ok (.aload_n 0, 1) := by decide +kernel
theorem dX11_comes_40 : decode cX11_comes 40 = .ok (.getfield 26, 3) := by decide +kernel
theorem dX11_comes_43 : decode cX11_comes 43 = .ok (.iload 7, 2) := by decide +kernel
theorem dX11_comes_45 : decode cX11_comes 45 = .ok (.iload 5, 2) := by decide +kernel
theorem dX11_comes_47 : decode cX11_comes 47 = .ok (.iastore, 1) := by decide +kernel
theorem dX11_comes_48 : decode cX11_comes 48 = .ok (.aload_n 0, 1) := by decide +kernel
theorem dX11_comes_49 : decode cX11_comes 49 = .ok (.getfield 29, 3) := by decide +kernel
theorem dX11_comes_52 : decode cX11_comes 52 = .ok (.iload 7, 2) := by decide +kernel
theorem dX11_comes_54 : decode cX11_comes 54 = .ok (.iload 6, 2) := by decide +kernel
theorem dX11_comes_56 : decode cX11_comes 56 = .ok (.iastore, 1) := by decide +kernel
theorem dX11_comes_57 : decode cX11_comes 57 = .ok (.aload_n 0, 1) := by decide +kernel
theorem dX11_comes_58 : decode cX11_comes 58 = .ok (.getfield 32, 3) := by decide +kernel
theorem dX11_comes_61 : decode cX11_comes 61 = .ok (.iload 7, 2) := by decide +kernel
theorem dX11_comes_63 : decode cX11_comes 63 = .ok (.iload 6, 2) := by decide +kernel
theorem dX11_comes_65 : decode cX11_comes 65 = .ok (.iconst (-1), 1) := by decide +kernel
theorem dX11_comes_66 : decode cX11_comes 66 = .ok (.if_icmp .ne 8, 3) := by decide +kernel
theorem dX11_comes_69 : decode cX11_comes 69 = .ok (.iload 7, 2) := by decide +kernel
theorem dX11_comes_71 : decode cX11_comes 71 = .ok (.goto 10, 3) := by decide +kernel
theorem dX11_comes_74 : decode cX11_comes 74 = .ok (.aload_n 0, 1) := by decide +kernel
theorem dX11_comes_75 : decode cX11_comes 75 = .ok (.getfield 32, 3) := by decide +kernel
theorem dX11_comes_78 : decode cX11_comes 78 = .ok (.iload 6, 2) := by decide +kernel
theorem dX11_comes_80 : decode cX11_comes 80 = .ok (.iaload, 1) := by decide +kernel
theorem dX11_comes_81 : decode cX11_comes 81 = .ok (.iastore, 1) := by decide +kernel
theorem dX11_comes_82 : decode cX11_comes 82 = .ok (.aload_n 0, 1) := by decide +kernel
theorem dX11_comes_83 : decode cX11_comes 83 = .ok (.getfield 35, 3) := by decide +kernel
theorem dX11_comes_86 : decode cX11_comes 86 = .ok (.iload 7, 2) := by decide +kernel
theorem dX11_comes_88 : decode cX11_comes 88 = .ok (.iconst 0, 1) := by decide +kernel
theorem dX11_comes_89 : decode cX11_comes 89 = .ok (.bastore, 1) := by decide +kernel
theorem dX11_comes_90 : decode cX11_comes 90 = .ok (.aload_n 0, 1) := by decide +kernel
theorem dX11_comes_91 : decode cX11_comes 91 = .ok (.dup, 1) := by decide +kernel
theorem dX11_comes_92 : decode cX11_comes 92 = .ok (.getfield 235, 3) := by decide +kernel
theorem dX11_comes_95 : decode cX11_comes 95 = .ok (.iconst 1, 1) := by decide +kernel
theorem dX11_comes_96 : decode cX11_comes 96 = .ok (.iadd, 1) := by decide +kernel
theorem dX11_comes_97 : decode cX11_comes 97 = .ok (.putfield 235, 3) := by decide +kernel
theorem dX11_comes_100 : decode cX11_comes 100 = .ok (.aload_n 0, 1) := by decide +kernel
theorem dX11_comes_101 : decode cX11_comes 101 = .ok (.iload 7, 2) := by decide +kernel
theorem dX11_comes_103 : decode cX11_comes 103 = .ok (.invokevirtual 251, 3) := by decide +kernel
theorem dX11_comes_106 : decode cX11_comes 106 = .ok (.iload 7, 2) := by decide +kernel
theorem dX11_comes_108 : decode cX11_comes 108 = .ok (.ireturn, 1) := by decide +kernel
def f11_comes_j81 (v7_j81 : Int32) (k1_j81 : Int32) (k2_j81 : Int32) (s11_j81 : OS) : Option (Int32 × OS) := chk (inb k1_j81 150) (nm (wI s11_j81 18 k1_j81.toNatClampNeg k2_j81) fun s11_81 => chk (inb v7_j81 150) (nm (wI s11_81 19 v7_j81.toNatClampNeg (vp_nar .boolean ((0 : Int32)))) fun s11_89 => nm (wI s11_89 0 3 (((s11_89.1 0 3) + (1 : Int32)))) fun s11_97 => Option.bind (f11_notes v7_j81 s11_97) fun q_103 => some (v7_j81, q_103)))
def f11_comes (a1 : Int32) (a2 : Int32) (a3 : Int32) (a4 : Int32) (a5 : Int32) (a6 : Int32) (s11 : OS) : Option (Int32 × OS) := nm ((s11.1 0 3)) fun n_4 => chk (inb n_4 150) (nm (wI s11 12 n_4.toNatClampNeg a1) fun s11_13 => chk (inb n_4 150) (nm (wI s11_13 13 n_4.toNatClampNeg a2) fun s11_21 => chk (inb n_4 150) (nm (wI s11_21 14 n_4.toNatClampNeg a3) fun s11_29 => chk (inb n_4 150) (nm (wI s11_29 15 n_4.toNatClampNeg a4) fun s11_38 => chk (inb n_4 150) (nm (wI s11_38 16 n_4.toNatClampNeg a5) fun s11_47 => chk (inb n_4 150) (nm (wI s11_47 17 n_4.toNatClampNeg a6) fun s11_56 => if a6 = (-1 : Int32) then (f11_comes_j81 n_4 n_4 n_4 s11_56) else (chk (inb a6 150) (nm (s11_56.1 18 a6.toNatClampNeg) fun y_80 => f11_comes_j81 n_4 n_4 y_80 s11_56))))))))
set_option maxHeartbeats 4000000 in
set_option maxRecDepth 100000 in
theorem m11_comes (l : Launch) (D : va_G) (ad : Nat → Nat) (cy : Nat → ClassId) (sz : Nat) (s11 : OS) (a1 : Int32) (a2 : Int32) (a3 : Int32) (a4 : Int32) (a5 : Int32) (a6 : Int32) (r : Int32 × OS) (h : f11_comes a1 a2 a3 a4 a5 a6 s11 = some r) : Met l yX11_comes (wsOf yX11_comes cX11_comes 8 (some .int)) (rmL 1) (va_Pc ([.ref (ad 0), .int a1, .int a2, .int a3, .int a4, .int a5, .int a6] : List Value) (PreG D cy (cellsM ad cy s11) sz NM)) (QcI D ad 66 (cellsM ad cy r.2) (r.1) sz) 0 0 (Afr ad 66 sz) := by
  refine metG (own := RX11) (by decide) rfl (Nat.le_of_ble_eq_true rfl) fstM ?_ sz
  intro p e s m below meth c ls C0 hw hl
  obtain ⟨hx, hb, hml, hown, hts, hr, hlk, hK, hN⟩ := C0
  have hl : lv_has ls 8 [(0, .ref (ad 0)), (1, .int a1), (2, .int a2), (3, .int a3), (4, .int a4), (5, .int a5), (6, .int a6)] := hl
  generalize hQ : MQ below (QcI D ad 66 (cellsM ad cy r.2) (r.1) s.heap.size) ([.ref (ad 0), .int a1, .int a2, .int a3, .int a4, .int a5, .int a6] : List Value).toArray s 0 0 (Afr ad 66 s.heap.size) = Q
  obtain ⟨H, hH⟩ : ∃ H : Heap, H = s.heap := ⟨_, rfl⟩
  obtain ⟨locs, hlc⟩ : ∃ L : List Loc, L = [] := ⟨_, rfl⟩
  have hw : Wd D (cellsM ad cy s11) (Afr ad 66 s.heap.size) s.heap H locs := by rw [hH, hlc]; exact hw
  suffices h0 : W p l e (rmL 1) s m ([.ref (ad 0), .int a1, .int a2, .int a3, .int a4, .int a5, .int a6] : List Value).toArray below meth c H locs 0 0 Q (F0 m 0 ls []) by rw [hH, hlc] at h0; exact h0
  clear hH hlc
  unfold f11_comes at h
  have hJ_81 : ∀ (v7_j81 : Int32) (k1_j81 : Int32) (k2_j81 : Int32) (s11_j81 : OS) (H : Heap) (locs : List Loc) (ls : Array Slot), f11_comes_j81 v7_j81 k1_j81 k2_j81 s11_j81 = some r → Wd D (cellsM ad cy s11_j81) (Afr ad 66 s.heap.size) s.heap H locs → lv_has ls 8 [(0, .ref (ad 0)), (7, .int v7_j81)] → W p l e (rmL 1) s m ([.ref (ad 0), .int a1, .int a2, .int a3, .int a4, .int a5, .int a6] : List Value).toArray below meth c H locs 0 0 Q (F0 m 81 ls [.int k2_j81, .int k1_j81, .ref (ad 8)]) := by
    intro v7_j81 k1_j81 k2_j81 s11_j81 H locs ls h hw hl
    unfold f11_comes_j81 at h
    obtain ⟨hi_81, h⟩ := chk_e h
    obtain ⟨s11_81, e_81, h⟩ := nam_e h
    refine aM8 hx hb hK hw hi_81 e_81 dX11_comes_81 (fun H locs hw => ?_)
    refine lv_aload_n hx hb dX11_comes_82 rfl (lv_at hl 0 rfl) ?_
    refine gX11_35 hx hb hts hown hK hw dX11_comes_83 ?_
    refine lv_iload hx hb dX11_comes_86 (lv_at hl 1 rfl) ?_
    refine lv_iconst (v := 0) hx hb dX11_comes_88 (by decide) ?_
    obtain ⟨hi_89, h⟩ := chk_e h
    obtain ⟨s11_89, e_89, h⟩ := nam_e h
    refine aM9 hx hb hK hw hi_89 e_89 dX11_comes_89 (fun H locs hw => ?_)
    refine lv_aload_n hx hb dX11_comes_90 rfl (lv_at hl 0 rfl) ?_
    refine lv_dup hx hb dX11_comes_91 rfl ?_
    refine gX11_235 hx hb hts hown hK hw dX11_comes_92 ?_
    refine lv_iconst (v := 1) hx hb dX11_comes_95 (by decide) ?_
    refine lv_iadd hx hb dX11_comes_96 ?_
    obtain ⟨s11_97, e_97, h⟩ := nam_e h
    refine pX11_235 hx hb hts hown hK hw e_97 dX11_comes_97 (fun H locs hw => ?_)
    refine lv_aload_n hx hb dX11_comes_100 rfl (lv_at hl 0 rfl) ?_
    refine lv_iload hx hb dX11_comes_101 (lv_at hl 1 rfl) ?_
    obtain ⟨q_103, h_103, h⟩ := bnd_e h
    have pg_103 := preG (av := [.ref (ad 0), .int v7_j81]) hK hw.1 hw.2.1 NM_keep NM_blind
    refine endV (mc := 0) (ms := 0) (va_runV (As := [.int v7_j81]) (rest := []) ⟨hx, hb, hml, hown, hts⟩ (m11_notes l D ad cy H.size s11_97 v7_j81 q_103 h_103) (wX11_251 0 hts ⟨Nat.le_of_ble_eq_true rfl, Nat.le_of_ble_eq_true rfl⟩) ⟨pg_103.1, va_recv hK hw.1 (ci := 11) (q0 := 0) rfl eM_0, pg_103.2⟩ rfl rfl hl.1 rfl (lv_room (Nat.le_of_ble_eq_true rfl)) dX11_comes_103 ⟨Nat.le_refl _, Nat.le_refl _⟩) hw.2.2 (afr_in hw.2.2) (fun H locs hw => ?_)
    refine lv_iload hx hb dX11_comes_106 (lv_at hl 1 rfl) ?_
    have h := Option.some.inj h
    subst h
    rw [← hQ]
    exact retI hx hb hr hlk hw rfl dX11_comes_108
  refine lv_aload_n hx hb dX11_comes_0 rfl (lv_at hl 0 rfl) ?_
  refine gX11_235 hx hb hts hown hK hw dX11_comes_1 ?_
  obtain ⟨n_4, e_4, h⟩ := nam_e h
  refine topI e_4 ?_
  refine lv_istore (lv' := [(7, .int n_4), (0, .ref (ad 0)), (1, .int a1), (2, .int a2), (3, .int a3), (4, .int a4), (5, .int a5), (6, .int a6)]) hx hb dX11_comes_4 hl (by decide) rfl (fun ls hl => ?_)
  refine lv_aload_n hx hb dX11_comes_6 rfl (lv_at hl 1 rfl) ?_
  refine gX11_13 hx hb hts hown hK hw dX11_comes_7 ?_
  refine lv_iload hx hb dX11_comes_10 (lv_at hl 0 rfl) ?_
  refine lv_iload_n hx hb dX11_comes_12 rfl (lv_at hl 2 rfl) ?_
  obtain ⟨hi_13, h⟩ := chk_e h
  obtain ⟨s11_13, e_13, h⟩ := nam_e h
  refine aM2 hx hb hK hw hi_13 e_13 dX11_comes_13 (fun H locs hw => ?_)
  refine lv_aload_n hx hb dX11_comes_14 rfl (lv_at hl 1 rfl) ?_
  refine gX11_17 hx hb hts hown hK hw dX11_comes_15 ?_
  refine lv_iload hx hb dX11_comes_18 (lv_at hl 0 rfl) ?_
  refine lv_iload_n hx hb dX11_comes_20 rfl (lv_at hl 3 rfl) ?_
  obtain ⟨hi_21, h⟩ := chk_e h
  obtain ⟨s11_21, e_21, h⟩ := nam_e h
  refine aM3 hx hb hK hw hi_21 e_21 dX11_comes_21 (fun H locs hw => ?_)
  refine lv_aload_n hx hb dX11_comes_22 rfl (lv_at hl 1 rfl) ?_
  refine gX11_20 hx hb hts hown hK hw dX11_comes_23 ?_
  refine lv_iload hx hb dX11_comes_26 (lv_at hl 0 rfl) ?_
  refine lv_iload_n hx hb dX11_comes_28 rfl (lv_at hl 4 rfl) ?_
  obtain ⟨hi_29, h⟩ := chk_e h
  obtain ⟨s11_29, e_29, h⟩ := nam_e h
  refine aM4 hx hb hK hw hi_29 e_29 dX11_comes_29 (fun H locs hw => ?_)
  refine lv_aload_n hx hb dX11_comes_30 rfl (lv_at hl 1 rfl) ?_
  refine gX11_23 hx hb hts hown hK hw dX11_comes_31 ?_
  refine lv_iload hx hb dX11_comes_34 (lv_at hl 0 rfl) ?_
  refine lv_iload hx hb dX11_comes_36 (lv_at hl 5 rfl) ?_
  obtain ⟨hi_38, h⟩ := chk_e h
  obtain ⟨s11_38, e_38, h⟩ := nam_e h
  refine aM5 hx hb hK hw hi_38 e_38 dX11_comes_38 (fun H locs hw => ?_)
  refine lv_aload_n hx hb dX11_comes_39 rfl (lv_at hl 1 rfl) ?_
  refine gX11_26 hx hb hts hown hK hw dX11_comes_40 ?_
  refine lv_iload hx hb dX11_comes_43 (lv_at hl 0 rfl) ?_
  refine lv_iload hx hb dX11_comes_45 (lv_at hl 6 rfl) ?_
  obtain ⟨hi_47, h⟩ := chk_e h
  obtain ⟨s11_47, e_47, h⟩ := nam_e h
  refine aM6 hx hb hK hw hi_47 e_47 dX11_comes_47 (fun H locs hw => ?_)
  refine lv_aload_n hx hb dX11_comes_48 rfl (lv_at hl 1 rfl) ?_
  refine gX11_29 hx hb hts hown hK hw dX11_comes_49 ?_
  refine lv_iload hx hb dX11_comes_52 (lv_at hl 0 rfl) ?_
  refine lv_iload hx hb dX11_comes_54 (lv_at hl 7 rfl) ?_
  obtain ⟨hi_56, h⟩ := chk_e h
  obtain ⟨s11_56, e_56, h⟩ := nam_e h
  refine aM7 hx hb hK hw hi_56 e_56 dX11_comes_56 (fun H locs hw => ?_)
  refine lv_aload_n hx hb dX11_comes_57 rfl (lv_at hl 1 rfl) ?_
  refine gX11_32 hx hb hts hown hK hw dX11_comes_58 ?_
  refine lv_iload hx hb dX11_comes_61 (lv_at hl 0 rfl) ?_
  refine lv_iload hx hb dX11_comes_63 (lv_at hl 7 rfl) ?_
  refine lv_iconst (v := (-1)) hx hb dX11_comes_65 (by decide) ?_
  refine lv_icmp_ne (tgt := 74) hx hb dX11_comes_66 (by decide) (fun c_66 => ?_) (fun c_66 => ?_)
  · have h := ite_f c_66 h
    refine lv_aload_n hx hb dX11_comes_74 rfl (lv_at hl 1 rfl) ?_
    refine gX11_32 hx hb hts hown hK hw dX11_comes_75 ?_
    refine lv_iload hx hb dX11_comes_78 (lv_at hl 7 rfl) ?_
    obtain ⟨hi_80, h⟩ := chk_e h
    obtain ⟨y_80, e_80, h⟩ := nam_e h
    refine lM8 hx hb hK hw hi_80 e_80 dX11_comes_80 ?_
    exact hJ_81 n_4 n_4 y_80 s11_56 H locs ls h hw (lv_sub hl [1, 0] rfl)
  · have h := ite_t c_66 h
    refine lv_iload hx hb dX11_comes_69 (lv_at hl 0 rfl) ?_
    refine lv_goto (tgt := 81) hx hb dX11_comes_71 (by decide) ?_
    exact hJ_81 n_4 n_4 n_4 s11_56 H locs ls h hw (lv_sub hl [1, 0] rfl)
theorem dX11_count_0 : decode cX11_count 0 = .ok (.iload_n 1, 1) := by decide +kernel
theorem dX11_count_1 : decode cX11_count 1 = .ok (.i2l, 1) := by decide +kernel
theorem dX11_count_2 : decode cX11_count 2 = .ok (.ldc2_w 549, 3) := by decide +kernel
theorem dX11_count_5 : decode cX11_count 5 = .ok (.bipush 19, 2) := by decide +kernel
theorem dX11_count_7 : decode cX11_count 7 = .ok (.aload_n 0, 1) := by decide +kernel
theorem dX11_count_8 : decode cX11_count 8 = .ok (.getfield 298, 3) := by decide +kernel
theorem dX11_count_11 : decode cX11_count 11 = .ok (.iadd, 1) := by decide +kernel
theorem dX11_count_12 : decode cX11_count 12 = .ok (.i2l, 1) := by decide +kernel
theorem dX11_count_13 : decode cX11_count 13 = .ok (.invokestatic 215, 3) := by decide +kernel
theorem dX11_count_16 : decode cX11_count 16 = .ok (.ifCond .eq 13, 3) := by decide +kernel
theorem dX11_count_19 : decode cX11_count 19 = .ok (.aload_n 0, 1) := by decide +kernel
theorem dX11_count_20 : decode cX11_count 20 = .ok (.getfield 85, 3) := by decide +kernel
theorem dX11_count_23 : decode cX11_count 23 = .ok (.iload_n 1, 1) := by decide +kernel
theorem dX11_count_24 : decode cX11_count 24 = .ok (.bipush 20, 2) := by decide +kernel
theorem dX11_count_26 : decode cX11_count 26 = .ok (.isub, 1) := by decide +kernel
theorem dX11_count_27 : decode cX11_count 27 = .ok (.iaload, 1) := by decide +kernel
theorem dX11_count_28 : decode cX11_count 28 = .ok (.ireturn, 1) := by decide +kernel
theorem dX11_count_29 : decode cX11_count 29 = .ok (.iload_n 1, 1) := by decide +kernel
theorem dX11_count_30 : decode cX11_count 30 = .ok (.i2l, 1) := by decide +kernel
theorem dX11_count_31 : decode cX11_count 31 = .ok (.ldc2_w 551, 3) := by decide +kernel
theorem dX11_count_34 : decode cX11_count 34 = .ok (.ldc2_w 553, 3) := by decide +kernel
theorem dX11_count_37 : decode cX11_count 37 = .ok (.invokestatic 215, 3) := by decide +kernel
theorem dX11_count_40 : decode cX11_count 40 = .ok (.ifCond .eq 13, 3) := by decide +kernel
theorem dX11_count_43 : decode cX11_count 43 = .ok (.aload_n 0, 1) := by decide +kernel
theorem dX11_count_44 : decode cX11_count 44 = .ok (.getfield 39, 3) := by decide +kernel
theorem dX11_count_47 : decode cX11_count 47 = .ok (.iload_n 1, 1) := by decide +kernel
theorem dX11_count_48 : decode cX11_count 48 = .ok (.bipush 40, 2) := by decide +kernel
theorem dX11_count_50 : decode cX11_count 50 = .ok (.isub, 1) := by decide +kernel
theorem dX11_count_51 : decode cX11_count 51 = .ok (.iaload, 1) := by decide +kernel
theorem dX11_count_52 : decode cX11_count 52 = .ok (.ireturn, 1) := by decide +kernel
theorem dX11_count_53 : decode cX11_count 53 = .ok (.iload_n 1, 1) := by decide +kernel
theorem dX11_count_54 : decode cX11_count 54 = .ok (.tableswitch 104 0 9 #[54, 59, 64, 69, 74, 79, 84, 89, 94, 99], 54) := by decide +kernel
theorem dX11_count_108 : decode cX11_count 108 = .ok (.aload_n 0, 1) := by decide +kernel
theorem dX11_count_109 : decode cX11_count 109 = .ok (.getfield 225, 3) := by decide +kernel
theorem dX11_count_112 : decode cX11_count 112 = .ok (.ireturn, 1) := by decide +kernel
theorem dX11_count_113 : decode cX11_count 113 = .ok (.aload_n 0, 1) := by decide +kernel
theorem dX11_count_114 : decode cX11_count 114 = .ok (.getfield 235, 3) := by decide +kernel
theorem dX11_count_117 : decode cX11_count 117 = .ok (.ireturn, 1) := by decide +kernel
theorem dX11_count_118 : decode cX11_count 118 = .ok (.aload_n 0, 1) := by decide +kernel
theorem dX11_count_119 : decode cX11_count 119 = .ok (.getfield 282, 3) := by decide +kernel
theorem dX11_count_122 : decode cX11_count 122 = .ok (.ireturn, 1) := by decide +kernel
theorem dX11_count_123 : decode cX11_count 123 = .ok (.aload_n 0, 1) := by decide +kernel
theorem dX11_count_124 : decode cX11_count 124 = .ok (.getfield 298, 3) := by decide +kernel
theorem dX11_count_127 : decode cX11_count 127 = .ok (.ireturn, 1) := by decide +kernel
theorem dX11_count_128 : decode cX11_count 128 = .ok (.aload_n 0, 1) := by decide +kernel
theorem dX11_count_129 : decode cX11_count 129 = .ok (.getfield 399, 3) := by decide +kernel
theorem dX11_count_132 : decode cX11_count 132 = .ok (.ireturn, 1) := by decide +kernel
theorem dX11_count_133 : decode cX11_count 133 = .ok (.aload_n 0, 1) := by decide +kernel
theorem dX11_count_134 : decode cX11_count 134 = .ok (.getfield 445, 3) := by decide +kernel
theorem dX11_count_137 : decode cX11_count 137 = .ok (.ireturn, 1) := by decide +kernel
theorem dX11_count_138 : decode cX11_count 138 = .ok (.aload_n 0, 1) := by decide +kernel
theorem dX11_count_139 : decode cX11_count 139 = .ok (.getfield 483, 3) := by decide +kernel
theorem dX11_count_142 : decode cX11_count 142 = .ok (.ireturn, 1) := by decide +kernel
theorem dX11_count_143 : decode cX11_count 143 = .ok (.aload_n 0, 1) := by decide +kernel
theorem dX11_count_144 : decode cX11_count 144 = .ok (.getfield 488, 3) := by decide +kernel
theorem dX11_count_147 : decode cX11_count 147 = .ok (.ireturn, 1) := by decide +kernel
theorem dX11_count_148 : decode cX11_count 148 = .ok (.aload_n 0, 1) := by decide +kernel
theorem dX11_count_149 : decode cX11_count 149 = .ok (.getfield 507, 3) := by decide +kernel
theorem dX11_count_152 : decode cX11_count 152 = .ok (.ireturn, 1) := by decide +kernel
theorem dX11_count_153 : decode cX11_count 153 = .ok (.aload_n 0, 1) := by decide +kernel
theorem dX11_count_154 : decode cX11_count 154 = .ok (.getfield 228, 3) := by decide +kernel
theorem dX11_count_157 : decode cX11_count 157 = .ok (.ireturn, 1) := by decide +kernel
theorem dX11_count_158 : decode cX11_count 158 = .ok (.iconst (-1), 1) := by decide +kernel
theorem dX11_count_159 : decode cX11_count 159 = .ok (.ireturn, 1) := by decide +kernel
def f11_count (a1 : Int32) (s11 : OS) : Option (Int32) := Option.bind (f11_lies ((a1).toInt64) ((20 : Int64)) ((((19 : Int32) + (s11.1 0 6))).toInt64)) fun q_13 => if q_13 = 0 then (Option.bind (f11_lies ((a1).toInt64) ((40 : Int64)) ((49 : Int64))) fun q_37 => if q_37 = 0 then (if a1 = 0 then (some ((s11.1 0 2))) else if a1 = 1 then (some ((s11.1 0 3))) else if a1 = 2 then (some ((s11.1 0 4))) else if a1 = 3 then (some ((s11.1 0 6))) else if a1 = 4 then (some ((s11.1 0 5))) else if a1 = 5 then (some ((s11.1 0 7))) else if a1 = 6 then (some ((s11.1 0 8))) else if a1 = 7 then (some ((s11.1 0 9))) else if a1 = 8 then (some ((s11.1 0 10))) else if a1 = 9 then (some ((s11.1 0 1))) else (some ((-1 : Int32)))) else (chk (inb ((a1 - (40 : Int32))) 10) (nm (s11.1 20 ((a1 - (40 : Int32))).toNatClampNeg) fun y_51 => some y_51))) else (chk (inb ((a1 - (20 : Int32))) 20) (nm (s11.1 36 ((a1 - (20 : Int32))).toNatClampNeg) fun y_27 => some y_27))
set_option maxHeartbeats 4000000 in
set_option maxRecDepth 100000 in
theorem m11_count (l : Launch) (D : va_G) (ad : Nat → Nat) (cy : Nat → ClassId) (sz : Nat) (s11 : OS) (a1 : Int32) (r : Int32) (h : f11_count a1 s11 = some r) : Met l yX11_count (wsOf yX11_count cX11_count 2 (some .int)) (rmL 1) (va_Pc ([.ref (ad 0), .int a1] : List Value) (PreG D cy (cellsM ad cy s11) sz NM)) (QcI D ad 66 (cellsM ad cy s11) (r) sz) 0 0 (Afr ad 66 sz) := by
  refine metG (own := RX11) (by decide) rfl (Nat.le_of_ble_eq_true rfl) fstM ?_ sz
  intro p e s m below meth c ls C0 hw hl
  obtain ⟨hx, hb, hml, hown, hts, hr, hlk, hK, hN⟩ := C0
  have hl : lv_has ls 2 [(0, .ref (ad 0)), (1, .int a1)] := hl
  generalize hQ : MQ below (QcI D ad 66 (cellsM ad cy s11) (r) s.heap.size) ([.ref (ad 0), .int a1] : List Value).toArray s 0 0 (Afr ad 66 s.heap.size) = Q
  obtain ⟨H, hH⟩ : ∃ H : Heap, H = s.heap := ⟨_, rfl⟩
  obtain ⟨locs, hlc⟩ : ∃ L : List Loc, L = [] := ⟨_, rfl⟩
  have hw : Wd D (cellsM ad cy s11) (Afr ad 66 s.heap.size) s.heap H locs := by rw [hH, hlc]; exact hw
  suffices h0 : W p l e (rmL 1) s m ([.ref (ad 0), .int a1] : List Value).toArray below meth c H locs 0 0 Q (F0 m 0 ls []) by rw [hH, hlc] at h0; exact h0
  clear hH hlc
  unfold f11_count at h
  refine lv_iload_n hx hb dX11_count_0 rfl (lv_at hl 1 rfl) ?_
  refine lv_i2l hx hb dX11_count_1 rfl ?_
  refine lv_ldc2 (v := 20) hx hb hown (hts _ (wd_8 (w := .constantLong RX11 549 20) (i := 224) (by decide +kernel) rfl)) dX11_count_2 ?_
  refine lv_bipush (v := 19) hx hb dX11_count_5 (by decide) ?_
  refine lv_aload_n hx hb dX11_count_7 rfl (lv_at hl 0 rfl) ?_
  refine gX11_298 hx hb hts hown hK hw dX11_count_8 ?_
  refine lv_iadd hx hb dX11_count_11 ?_
  refine lv_i2l hx hb dX11_count_12 rfl ?_
  obtain ⟨q_13, h_13, h⟩ := bnd_e h
  have pg_13 := preG (av := [.long ((a1).toInt64), .long ((20 : Int64)), .long ((((19 : Int32) + (s11.1 0 6))).toInt64)]) hK hw.1 hw.2.1 NM_keep NM_blind
  refine endI (mc := 0) (ms := 0) (va_runS (As := [.long ((a1).toInt64), .long ((20 : Int64)), .long ((((19 : Int32) + (s11.1 0 6))).toInt64)]) (rest := []) ⟨hx, hb, hml, hown, hts⟩ (m11_lies l D ad cy H.size s11 ((a1).toInt64) ((20 : Int64)) ((((19 : Int32) + (s11.1 0 6))).toInt64) q_13 h_13) (wX11_215 0 hts ⟨Nat.le_of_ble_eq_true rfl, Nat.le_of_ble_eq_true rfl⟩) pg_13 rfl rfl hl.1 rfl (lv_room (Nat.le_of_ble_eq_true rfl)) dX11_count_13 ⟨Nat.le_refl _, Nat.le_refl _⟩) hw.2.2 (afr_in hw.2.2) (fun H locs hw => ?_)
  refine lv_if_eq (tgt := 29) hx hb dX11_count_16 (by decide) (fun c_16 => ?_) (fun c_16 => ?_)
  · have h := ite_t c_16 h
    refine lv_iload_n hx hb dX11_count_29 rfl (lv_at hl 1 rfl) ?_
    refine lv_i2l hx hb dX11_count_30 rfl ?_
    refine lv_ldc2 (v := 40) hx hb hown (hts _ (wd_8 (w := .constantLong RX11 551 40) (i := 225) (by decide +kernel) rfl)) dX11_count_31 ?_
    refine lv_ldc2 (v := 49) hx hb hown (hts _ (wd_8 (w := .constantLong RX11 553 49) (i := 226) (by decide +kernel) rfl)) dX11_count_34 ?_
    obtain ⟨q_37, h_37, h⟩ := bnd_e h
    have pg_37 := preG (av := [.long ((a1).toInt64), .long ((40 : Int64)), .long ((49 : Int64))]) hK hw.1 hw.2.1 NM_keep NM_blind
    refine endI (mc := 0) (ms := 0) (va_runS (As := [.long ((a1).toInt64), .long ((40 : Int64)), .long ((49 : Int64))]) (rest := []) ⟨hx, hb, hml, hown, hts⟩ (m11_lies l D ad cy H.size s11 ((a1).toInt64) ((40 : Int64)) ((49 : Int64)) q_37 h_37) (wX11_215 0 hts ⟨Nat.le_of_ble_eq_true rfl, Nat.le_of_ble_eq_true rfl⟩) pg_37 rfl rfl hl.1 rfl (lv_room (Nat.le_of_ble_eq_true rfl)) dX11_count_37 ⟨Nat.le_refl _, Nat.le_refl _⟩) hw.2.2 (afr_in hw.2.2) (fun H locs hw => ?_)
    refine lv_if_eq (tgt := 53) hx hb dX11_count_40 (by decide) (fun c_40 => ?_) (fun c_40 => ?_)
    · have h := ite_t c_40 h
      refine lv_iload_n hx hb dX11_count_53 rfl (lv_at hl 1 rfl) ?_
      have q_54 : ∀ tgt : Nat, W p l e (rmL 1) s m ([.ref (ad 0), .int a1] : List Value).toArray below meth c H locs 0 0 Q (F0 m tgt ls []) → W p l e (rmL 1) s m ([.ref (ad 0), .int a1] : List Value).toArray below meth c H locs 0 0 Q (F0 m tgt ls []) := fun _ z => z
      by_cases c_54_0 : a1 = 0
      · have h := ite_t c_54_0 h
        refine lv_tableIn (off := 54) (tgt := 108) hx hb dX11_count_54 (by rw [c_54_0]; decide) (by rw [c_54_0]; decide) (by rw [c_54_0]; rfl) (by decide) ?_
        refine lv_aload_n hx hb dX11_count_108 rfl (lv_at hl 0 rfl) ?_
        refine gX11_225 hx hb hts hown hK hw dX11_count_109 ?_
        have h := Option.some.inj h
        subst h
        rw [← hQ]
        exact retI hx hb hr hlk hw rfl dX11_count_112
      have h := ite_f c_54_0 h
      by_cases c_54_1 : a1 = 1
      · have h := ite_t c_54_1 h
        refine lv_tableIn (off := 59) (tgt := 113) hx hb dX11_count_54 (by rw [c_54_1]; decide) (by rw [c_54_1]; decide) (by rw [c_54_1]; rfl) (by decide) ?_
        refine lv_aload_n hx hb dX11_count_113 rfl (lv_at hl 0 rfl) ?_
        refine gX11_235 hx hb hts hown hK hw dX11_count_114 ?_
        have h := Option.some.inj h
        subst h
        rw [← hQ]
        exact retI hx hb hr hlk hw rfl dX11_count_117
      have h := ite_f c_54_1 h
      by_cases c_54_2 : a1 = 2
      · have h := ite_t c_54_2 h
        refine lv_tableIn (off := 64) (tgt := 118) hx hb dX11_count_54 (by rw [c_54_2]; decide) (by rw [c_54_2]; decide) (by rw [c_54_2]; rfl) (by decide) ?_
        refine lv_aload_n hx hb dX11_count_118 rfl (lv_at hl 0 rfl) ?_
        refine gX11_282 hx hb hts hown hK hw dX11_count_119 ?_
        have h := Option.some.inj h
        subst h
        rw [← hQ]
        exact retI hx hb hr hlk hw rfl dX11_count_122
      have h := ite_f c_54_2 h
      by_cases c_54_3 : a1 = 3
      · have h := ite_t c_54_3 h
        refine lv_tableIn (off := 69) (tgt := 123) hx hb dX11_count_54 (by rw [c_54_3]; decide) (by rw [c_54_3]; decide) (by rw [c_54_3]; rfl) (by decide) ?_
        refine lv_aload_n hx hb dX11_count_123 rfl (lv_at hl 0 rfl) ?_
        refine gX11_298 hx hb hts hown hK hw dX11_count_124 ?_
        have h := Option.some.inj h
        subst h
        rw [← hQ]
        exact retI hx hb hr hlk hw rfl dX11_count_127
      have h := ite_f c_54_3 h
      by_cases c_54_4 : a1 = 4
      · have h := ite_t c_54_4 h
        refine lv_tableIn (off := 74) (tgt := 128) hx hb dX11_count_54 (by rw [c_54_4]; decide) (by rw [c_54_4]; decide) (by rw [c_54_4]; rfl) (by decide) ?_
        refine lv_aload_n hx hb dX11_count_128 rfl (lv_at hl 0 rfl) ?_
        refine gX11_399 hx hb hts hown hK hw dX11_count_129 ?_
        have h := Option.some.inj h
        subst h
        rw [← hQ]
        exact retI hx hb hr hlk hw rfl dX11_count_132
      have h := ite_f c_54_4 h
      by_cases c_54_5 : a1 = 5
      · have h := ite_t c_54_5 h
        refine lv_tableIn (off := 79) (tgt := 133) hx hb dX11_count_54 (by rw [c_54_5]; decide) (by rw [c_54_5]; decide) (by rw [c_54_5]; rfl) (by decide) ?_
        refine lv_aload_n hx hb dX11_count_133 rfl (lv_at hl 0 rfl) ?_
        refine gX11_445 hx hb hts hown hK hw dX11_count_134 ?_
        have h := Option.some.inj h
        subst h
        rw [← hQ]
        exact retI hx hb hr hlk hw rfl dX11_count_137
      have h := ite_f c_54_5 h
      by_cases c_54_6 : a1 = 6
      · have h := ite_t c_54_6 h
        refine lv_tableIn (off := 84) (tgt := 138) hx hb dX11_count_54 (by rw [c_54_6]; decide) (by rw [c_54_6]; decide) (by rw [c_54_6]; rfl) (by decide) ?_
        refine lv_aload_n hx hb dX11_count_138 rfl (lv_at hl 0 rfl) ?_
        refine gX11_483 hx hb hts hown hK hw dX11_count_139 ?_
        have h := Option.some.inj h
        subst h
        rw [← hQ]
        exact retI hx hb hr hlk hw rfl dX11_count_142
      have h := ite_f c_54_6 h
      by_cases c_54_7 : a1 = 7
      · have h := ite_t c_54_7 h
        refine lv_tableIn (off := 89) (tgt := 143) hx hb dX11_count_54 (by rw [c_54_7]; decide) (by rw [c_54_7]; decide) (by rw [c_54_7]; rfl) (by decide) ?_
        refine lv_aload_n hx hb dX11_count_143 rfl (lv_at hl 0 rfl) ?_
        refine gX11_488 hx hb hts hown hK hw dX11_count_144 ?_
        have h := Option.some.inj h
        subst h
        rw [← hQ]
        exact retI hx hb hr hlk hw rfl dX11_count_147
      have h := ite_f c_54_7 h
      by_cases c_54_8 : a1 = 8
      · have h := ite_t c_54_8 h
        refine lv_tableIn (off := 94) (tgt := 148) hx hb dX11_count_54 (by rw [c_54_8]; decide) (by rw [c_54_8]; decide) (by rw [c_54_8]; rfl) (by decide) ?_
        refine lv_aload_n hx hb dX11_count_148 rfl (lv_at hl 0 rfl) ?_
        refine gX11_507 hx hb hts hown hK hw dX11_count_149 ?_
        have h := Option.some.inj h
        subst h
        rw [← hQ]
        exact retI hx hb hr hlk hw rfl dX11_count_152
      have h := ite_f c_54_8 h
      by_cases c_54_9 : a1 = 9
      · have h := ite_t c_54_9 h
        refine lv_tableIn (off := 99) (tgt := 153) hx hb dX11_count_54 (by rw [c_54_9]; decide) (by rw [c_54_9]; decide) (by rw [c_54_9]; rfl) (by decide) ?_
        refine lv_aload_n hx hb dX11_count_153 rfl (lv_at hl 0 rfl) ?_
        refine gX11_228 hx hb hts hown hK hw dX11_count_154 ?_
        have h := Option.some.inj h
        subst h
        rw [← hQ]
        exact retI hx hb hr hlk hw rfl dX11_count_157
      have h := ite_f c_54_9 h
      refine lv_tableOut (tgt := 158) hx hb dX11_count_54 (by have := lv_neT c_54_0 (a := 0) rfl; have := lv_neT c_54_1 (a := 1) rfl; have := lv_neT c_54_2 (a := 2) rfl; have := lv_neT c_54_3 (a := 3) rfl; have := lv_neT c_54_4 (a := 4) rfl; have := lv_neT c_54_5 (a := 5) rfl; have := lv_neT c_54_6 (a := 6) rfl; have := lv_neT c_54_7 (a := 7) rfl; have := lv_neT c_54_8 (a := 8) rfl; have := lv_neT c_54_9 (a := 9) rfl; omega) (by decide) ?_
      refine lv_iconst (v := (-1)) hx hb dX11_count_158 (by decide) ?_
      have h := Option.some.inj h
      subst h
      rw [← hQ]
      exact retI hx hb hr hlk hw rfl dX11_count_159
    · have h := ite_f c_40 h
      refine lv_aload_n hx hb dX11_count_43 rfl (lv_at hl 0 rfl) ?_
      refine gX11_39 hx hb hts hown hK hw dX11_count_44 ?_
      refine lv_iload_n hx hb dX11_count_47 rfl (lv_at hl 1 rfl) ?_
      refine lv_bipush (v := 40) hx hb dX11_count_48 (by decide) ?_
      refine lv_isub hx hb dX11_count_50 ?_
      obtain ⟨hi_51, h⟩ := chk_e h
      obtain ⟨y_51, e_51, h⟩ := nam_e h
      refine lM10 hx hb hK hw hi_51 e_51 dX11_count_51 ?_
      have h := Option.some.inj h
      subst h
      rw [← hQ]
      exact retI hx hb hr hlk hw rfl dX11_count_52
  · have h := ite_f c_16 h
    refine lv_aload_n hx hb dX11_count_19 rfl (lv_at hl 0 rfl) ?_
    refine gX11_85 hx hb hts hown hK hw dX11_count_20 ?_
    refine lv_iload_n hx hb dX11_count_23 rfl (lv_at hl 1 rfl) ?_
    refine lv_bipush (v := 20) hx hb dX11_count_24 (by decide) ?_
    refine lv_isub hx hb dX11_count_26 ?_
    obtain ⟨hi_27, h⟩ := chk_e h
    obtain ⟨y_27, e_27, h⟩ := nam_e h
    refine lM25 hx hb hK hw hi_27 e_27 dX11_count_27 ?_
    have h := Option.some.inj h
    subst h
    rw [← hQ]
    exact retI hx hb hr hlk hw rfl dX11_count_28
theorem dX11_cut_0 : decode cX11_cut 0 = .ok (.aload_n 0, 1) := by decide +kernel
theorem dX11_cut_1 : decode cX11_cut 1 = .ok (.iload_n 1, 1) := by decide +kernel
theorem dX11_cut_2 : decode cX11_cut 2 = .ok (.invokevirtual 266, 3) := by decide +kernel
theorem dX11_cut_5 : decode cX11_cut 5 = .ok (.ifCond .eq 39, 3) := by decide +kernel
theorem dX11_cut_8 : decode cX11_cut 8 = .ok (.iload_n 2, 1) := by decide +kernel
theorem dX11_cut_9 : decode cX11_cut 9 = .ok (.i2l, 1) := by decide +kernel
theorem dX11_cut_10 : decode cX11_cut 10 = .ok (.lconst 0, 1) := by decide +kernel
theorem dX11_cut_11 : decode cX11_cut 11 = .ok (.ldc2_w 269, 3) := by decide +kernel
theorem dX11_cut_14 : decode cX11_cut 14 = .ok (.invokestatic 215, 3) := by decide +kernel
theorem dX11_cut_17 : decode cX11_cut 17 = .ok (.ifCond .eq 27, 3) := by decide +kernel
theorem dX11_cut_20 : decode cX11_cut 20 = .ok (.iload_n 3, 1) := by decide +kernel
theorem dX11_cut_21 : decode cX11_cut 21 = .ok (.i2l, 1) := by decide +kernel
theorem dX11_cut_22 : decode cX11_cut 22 = .ok (.ldc2_w 271, 3) := by decide +kernel
theorem dX11_cut_25 : decode cX11_cut 25 = .ok (.ldc2_w 273, 3) := by decide +kernel
theorem dX11_cut_28 : decode cX11_cut 28 = .ok (.invokestatic 215, 3) := by decide +kernel
theorem dX11_cut_31 : decode cX11_cut 31 = .ok (.ifCond .eq 13, 3) := by decide +kernel
theorem dX11_cut_34 : decode cX11_cut 34 = .ok (.iconst 4, 1) := by decide +kernel
theorem dX11_cut_35 : decode cX11_cut 35 = .ok (.iload_n 3, 1) := by decide +kernel
theorem dX11_cut_36 : decode cX11_cut 36 = .ok (.imul, 1) := by decide +kernel
theorem dX11_cut_37 : decode cX11_cut 37 = .ok (.aload_n 0, 1) := by decide +kernel
theorem dX11_cut_38 : decode cX11_cut 38 = .ok (.getfield 228, 3) := by decide +kernel
theorem dX11_cut_41 : decode cX11_cut 41 = .ok (.if_icmp .le 5, 3) := by decide +kernel
theorem dX11_cut_44 : decode cX11_cut 44 = .ok (.iconst (-1), 1) := by decide +kernel
theorem dX11_cut_45 : decode cX11_cut 45 = .ok (.ireturn, 1) := by decide +kernel
theorem dX11_cut_46 : decode cX11_cut 46 = .ok (.aload_n 0, 1) := by decide +kernel
theorem dX11_cut_47 : decode cX11_cut 47 = .ok (.iconst 0, 1) := by decide +kernel
theorem dX11_cut_48 : decode cX11_cut 48 = .ok (.putfield 228, 3) := by decide +kernel
theorem dX11_cut_51 : decode cX11_cut 51 = .ok (.lconst 0, 1) := by decide +kernel
theorem dX11_cut_52 : decode cX11_cut 52 = .ok (.lstore 4, 2) := by decide +kernel
theorem dX11_cut_54 : decode cX11_cut 54 = .ok (.iconst 0, 1) := by decide +kernel
theorem dX11_cut_55 : decode cX11_cut 55 = .ok (.istore 6, 2) := by decide +kernel
theorem dX11_cut_57 : decode cX11_cut 57 = .ok (.iload 6, 2) := by decide +kernel
theorem dX11_cut_59 : decode cX11_cut 59 = .ok (.iload_n 3, 1) := by decide +kernel
theorem dX11_cut_60 : decode cX11_cut 60 = .ok (.if_icmp .ge 34, 3) := by decide +kernel
theorem dX11_cut_63 : decode cX11_cut 63 = .ok (.aload_n 0, 1) := by decide +kernel
theorem dX11_cut_64 : decode cX11_cut 64 = .ok (.iload 6, 2) := by decide +kernel
theorem dX11_cut_66 : decode cX11_cut 66 = .ok (.invokevirtual 275, 3) := by decide +kernel
theorem dX11_cut_69 : decode cX11_cut 69 = .ok (.iconst 1, 1) := by decide +kernel
theorem dX11_cut_70 : decode cX11_cut 70 = .ok (.if_icmp .ge 6, 3) := by decide +kernel
theorem dX11_cut_73 : decode cX11_cut 73 = .ok (.bipush (-2), 2) := by decide +kernel
theorem dX11_cut_75 : decode cX11_cut 75 = .ok (.ireturn, 1) := by decide +kernel
theorem dX11_cut_76 : decode cX11_cut 76 = .ok (.lload 4, 2) := by decide +kernel
theorem dX11_cut_78 : decode cX11_cut 78 = .ok (.aload_n 0, 1) := by decide +kernel
theorem dX11_cut_79 : decode cX11_cut 79 = .ok (.iload 6, 2) := by decide +kernel
theorem dX11_cut_81 : decode cX11_cut 81 = .ok (.invokevirtual 275, 3) := by decide +kernel
theorem dX11_cut_84 : decode cX11_cut 84 = .ok (.i2l, 1) := by decide +kernel
theorem dX11_cut_85 : decode cX11_cut 85 = .ok (.ladd, 1) := by decide +kernel
theorem dX11_cut_86 : decode cX11_cut 86 = .ok (.lstore 4, 2) := by decide +kernel
theorem dX11_cut_88 : decode cX11_cut 88 = .ok (.iinc 6 1, 3) := by decide +kernel
theorem dX11_cut_91 : decode cX11_cut 91 = .ok (.goto (-34), 3) := by decide +kernel
theorem dX11_cut_94 : decode cX11_cut 94 = .ok (.lload 4, 2) := by decide +kernel
theorem dX11_cut_96 : decode cX11_cut 96 = .ok (.aload_n 0, 1) := by decide +kernel
theorem dX11_cut_97 : decode cX11_cut 97 = .ok (.getfield 20, 3) := by decide +kernel
theorem dX11_cut_100 : decode cX11_cut 100 = .ok (.iload_n 1, 1) := by decide +kernel
theorem dX11_cut_101 : decode cX11_cut 101 = .ok (.iaload, 1) := by decide +kernel
theorem dX11_cut_102 : decode cX11_cut 102 = .ok (.i2l, 1) := by decide +kernel
theorem dX11_cut_103 : decode cX11_cut 103 = .ok (.lcmp, 1) := by decide +kernel
theorem dX11_cut_104 : decode cX11_cut 104 = .ok (.ifCond .le 6, 3) := by decide +kernel
theorem dX11_cut_107 : decode cX11_cut 107 = .ok (.bipush (-2), 2) := by decide +kernel
theorem dX11_cut_109 : decode cX11_cut 109 = .ok (.ireturn, 1) := by decide +kernel
theorem dX11_cut_110 : decode cX11_cut 110 = .ok (.aload_n 0, 1) := by decide +kernel
theorem dX11_cut_111 : decode cX11_cut 111 = .ok (.getfield 235, 3) := by decide +kernel
theorem dX11_cut_114 : decode cX11_cut 114 = .ok (.iload_n 3, 1) := by decide +kernel
theorem dX11_cut_115 : decode cX11_cut 115 = .ok (.iadd, 1) := by decide +kernel
theorem dX11_cut_116 : decode cX11_cut 116 = .ok (.sipush 150, 3) := by decide +kernel
theorem dX11_cut_119 : decode cX11_cut 119 = .ok (.if_icmp .le 6, 3) := by decide +kernel
theorem dX11_cut_122 : decode cX11_cut 122 = .ok (.bipush (-3), 2) := by decide +kernel
theorem dX11_cut_124 : decode cX11_cut 124 = .ok (.ireturn, 1) := by decide +kernel
theorem dX11_cut_125 : decode cX11_cut 125 = .ok (.aload_n 0, 1) := by decide +kernel
theorem dX11_cut_126 : decode cX11_cut 126 = .ok (.getfield 235, 3) := by decide +kernel
theorem dX11_cut_129 : decode cX11_cut 129 = .ok (.istore 6, 2) := by decide +kernel
theorem dX11_cut_131 : decode cX11_cut 131 = .ok (.iconst 0, 1) := by decide +kernel
theorem dX11_cut_132 : decode cX11_cut 132 = .ok (.istore 7, 2) := by decide +kernel
theorem dX11_cut_134 : decode cX11_cut 134 = .ok (.iload 7, 2) := by decide +kernel
theorem dX11_cut_136 : decode cX11_cut 136 = .ok (.iload_n 3, 1) := by decide +kernel
theorem dX11_cut_137 : decode cX11_cut 137 = .ok (.if_icmp .ge 50, 3) := by decide +kernel
theorem dX11_cut_140 : decode cX11_cut 140 = .ok (.aload_n 0, 1) := by decide +kernel
theorem dX11_cut_141 : decode cX11_cut 141 = .ok (.aload_n 0, 1) := by decide +kernel
theorem dX11_cut_142 : decode cX11_cut 142 = .ok (.getfield 13, 3) := by decide +kernel
theorem dX11_cut_145 : decode cX11_cut 145 = .ok (.iload_n 1, 1) := by decide +kernel
theorem dX11_cut_146 : decode cX11_cut 146 = .ok (.iaload, 1) := by decide +kernel
theorem dX11_cut_147 : decode cX11_cut 147 = .ok (.aload_n 0, 1) := by decide +kernel
theorem dX11_cut_148 : decode cX11_cut 148 = .ok (.getfield 17, 3) := by decide +kernel
theorem dX11_cut_151 : decode cX11_cut 151 = .ok (.iload_n 1, 1) := by decide +kernel
theorem dX11_cut_152 : decode cX11_cut 152 = .ok (.iaload, 1) := by decide +kernel
theorem dX11_cut_153 : decode cX11_cut 153 = .ok (.aload_n 0, 1) := by decide +kernel
theorem dX11_cut_154 : decode cX11_cut 154 = .ok (.iload 7, 2) := by decide +kernel
theorem dX11_cut_156 : decode cX11_cut 156 = .ok (.invokevirtual 275, 3) := by decide +kernel
theorem dX11_cut_159 : decode cX11_cut 159 = .ok (.aload_n 0, 1) := by decide +kernel
theorem dX11_cut_160 : decode cX11_cut 160 = .ok (.getfield 23, 3) := by decide +kernel
theorem dX11_cut_163 : decode cX11_cut 163 = .ok (.iload_n 1, 1) := by decide +kernel
theorem dX11_cut_164 : decode cX11_cut 164 = .ok (.iaload, 1) := by decide +kernel
theorem dX11_cut_165 : decode cX11_cut 165 = .ok (.iconst 1, 1) := by decide +kernel
theorem dX11_cut_166 : decode cX11_cut 166 = .ok (.iload_n 2, 1) := by decide +kernel
theorem dX11_cut_167 : decode cX11_cut 167 = .ok (.ishl, 1) := by decide +kernel
theorem dX11_cut_168 : decode cX11_cut 168 = .ok (.ior, 1) := by decide +kernel
theorem dX11_cut_169 : decode cX11_cut 169 = .ok (.aload_n 0, 1) := by decide +kernel
theorem dX11_cut_170 : decode cX11_cut 170 = .ok (.getfield 26, 3) := by decide +kernel
theorem dX11_cut_173 : decode cX11_cut 173 = .ok (.iload_n 1, 1) := by decide +kernel
theorem dX11_cut_174 : decode cX11_cut 174 = .ok (.iaload, 1) := by decide +kernel
theorem dX11_cut_175 : decode cX11_cut 175 = .ok (.iload_n 1, 1) := by decide +kernel
theorem dX11_cut_176 : decode cX11_cut 176 = .ok (.invokevirtual 259, 3) := by decide +kernel
theorem dX11_cut_179 : decode cX11_cut 179 = .ok (.istore 8, 2) := by decide +kernel
theorem dX11_cut_181 : decode cX11_cut 181 = .ok (.iinc 7 1, 3) := by decide +kernel
theorem dX11_cut_184 : decode cX11_cut 184 = .ok (.goto (-50), 3) := by decide +kernel
theorem dX11_cut_187 : decode cX11_cut 187 = .ok (.aload_n 0, 1) := by decide +kernel
theorem dX11_cut_188 : decode cX11_cut 188 = .ok (.getfield 46, 3) := by decide +kernel
theorem dX11_cut_191 : decode cX11_cut 191 = .ok (.aload_n 0, 1) := by decide +kernel
theorem dX11_cut_192 : decode cX11_cut 192 = .ok (.getfield 13, 3) := by decide +kernel
theorem dX11_cut_195 : decode cX11_cut 195 = .ok (.iload_n 1, 1) := by decide +kernel
theorem dX11_cut_196 : decode cX11_cut 196 = .ok (.iaload, 1) := by decide +kernel
theorem dX11_cut_197 : decode cX11_cut 197 = .ok (.dup2, 1) := by decide +kernel
theorem dX11_cut_198 : decode cX11_cut 198 = .ok (.laload, 1) := by decide +kernel
theorem dX11_cut_199 : decode cX11_cut 199 = .ok (.aload_n 0, 1) := by decide +kernel
theorem dX11_cut_200 : decode cX11_cut 200 = .ok (.getfield 20, 3) := by decide +kernel
theorem dX11_cut_203 : decode cX11_cut 203 = .ok (.iload_n 1, 1) := by decide +kernel
theorem dX11_cut_204 : decode cX11_cut 204 = .ok (.iaload, 1) := by decide +kernel
theorem dX11_cut_205 : decode cX11_cut 205 = .ok (.i2l, 1) := by decide +kernel
theorem dX11_cut_206 : decode cX11_cut 206 = .ok (.lload 4, 2) := by decide +kernel
theorem dX11_cut_208 : decode cX11_cut 208 = .ok (.lsub, 1) := by decide +kernel
theorem dX11_cut_209 : decode cX11_cut 209 = .ok (.ladd, 1) := by decide +kernel
theorem dX11_cut_210 : decode cX11_cut 210 = .ok (.lastore, 1) := by decide +kernel
theorem dX11_cut_211 : decode cX11_cut 211 = .ok (.aload_n 0, 1) := by decide +kernel
theorem dX11_cut_212 : decode cX11_cut 212 = .ok (.iload_n 1, 1) := by decide +kernel
theorem dX11_cut_213 : decode cX11_cut 213 = .ok (.invokevirtual 279, 3) := by decide +kernel
theorem dX11_cut_216 : decode cX11_cut 216 = .ok (.aload_n 0, 1) := by decide +kernel
theorem dX11_cut_217 : decode cX11_cut 217 = .ok (.iload_n 1, 1) := by decide +kernel
theorem dX11_cut_218 : decode cX11_cut 218 = .ok (.invokevirtual 251, 3) := by decide +kernel
theorem dX11_cut_221 : decode cX11_cut 221 = .ok (.iload 6, 2) := by decide +kernel
theorem dX11_cut_223 : decode cX11_cut 223 = .ok (.ireturn, 1) := by decide +kernel
noncomputable def f11_cut_j44 (s11_j44 : OS) : Option (Int32 × OS) := some ((-1 : Int32), s11_j44)
noncomputable def f11_cut_l134 (v1_i134 : Int32) (v2_i134 : Int32) (v3_i134 : Int32) (v4_i134 : Int64) (v6_i134 : Int32) : Int32 × OS → Option ((Int32 × OS) ⊕ (Int32 × OS)) := fun t_134 => if v3_i134 ≤ t_134.1 then (Option.map Sum.inr (chk (inb v1_i134 150) (nm (t_134.2.1 12 v1_i134.toNatClampNeg) fun y_196 => chk (inb y_196 8) (nm (t_134.2.2 22 y_196.toNatClampNeg) fun y_198 => chk (inb v1_i134 150) (nm (t_134.2.1 14 v1_i134.toNatClampNeg) fun y_204 => chk (inb y_196 8) (nm (wL t_134.2 22 y_196.toNatClampNeg ((y_198 + ((y_204).toInt64 - v4_i134)))) fun s11_210 => Option.bind (f11_isDone v1_i134 s11_210) fun q_213 => Option.bind (f11_notes v1_i134 q_213) fun q_218 => some (v6_i134, q_218))))))) else (chk (inb v1_i134 150) (nm (t_134.2.1 12 v1_i134.toNatClampNeg) fun y_146 => chk (inb v1_i134 150) (nm (t_134.2.1 13 v1_i134.toNatClampNeg) fun y_152 => Option.bind (f11_numberAt t_134.1 t_134.2) fun q_156 => chk (inb v1_i134 150) (nm (t_134.2.1 15 v1_i134.toNatClampNeg) fun y_164 => chk (inb v1_i134 150) (nm (t_134.2.1 16 v1_i134.toNatClampNeg) fun y_174 => Option.bind (f11_comes y_146 y_152 q_156 ((y_164 ||| ((1 : Int32) <<< (v2_i134 &&& 31)))) y_174 v1_i134 t_134.2) fun q_176 => nm (t_134.1 + (1 : Int32)) fun n_181 => some (Sum.inl (n_181, q_176.2)))))))
noncomputable def f11_cut_l57 (v1_i57 : Int32) (v2_i57 : Int32) (v3_i57 : Int32) (s11_i57 : OS) : Int64 × Int32 → Option ((Int64 × Int32) ⊕ (Int32 × OS)) := fun t_57 => if v3_i57 ≤ t_57.2 then (Option.map Sum.inr (chk (inb v1_i57 150) (nm (s11_i57.1 14 v1_i57.toNatClampNeg) fun y_101 => if (lg_cmp t_57.1 ((y_101).toInt64)) ≤ 0 then (if ((s11_i57.1 0 3) + v3_i57) ≤ (150 : Int32) then (nm ((s11_i57.1 0 3)) fun n_129 => loop (f11_cut_l134 v1_i57 v2_i57 v3_i57 t_57.1 n_129) ((0 : Int32), s11_i57)) else (some ((-3 : Int32), s11_i57))) else (some ((-2 : Int32), s11_i57))))) else (Option.bind (f11_numberAt t_57.2 s11_i57) fun q_66 => if (1 : Int32) ≤ q_66 then (Option.bind (f11_numberAt t_57.2 s11_i57) fun q_81 => nm ((t_57.1 + (q_81).toInt64)) fun n_86 => nm (t_57.2 + (1 : Int32)) fun n_88 => some (Sum.inl (n_86, n_88))) else (Option.map Sum.inr (some ((-2 : Int32), s11_i57))))
noncomputable def f11_cut (a1 : Int32) (a2 : Int32) (a3 : Int32) (s11 : OS) : Option (Int32 × OS) := Option.bind (f11_isOpen a1 s11) fun q_2 => if q_2 = 0 then (f11_cut_j44 s11) else (Option.bind (f11_lies ((a2).toInt64) ((0 : Int64)) ((15 : Int64))) fun q_14 => if q_14 = 0 then (f11_cut_j44 s11) else (Option.bind (f11_lies ((a3).toInt64) ((2 : Int64)) ((6 : Int64))) fun q_28 => if q_28 = 0 then (f11_cut_j44 s11) else (if ((4 : Int32) * a3) ≤ (s11.1 0 1) then (nm (wI s11 0 1 ((0 : Int32))) fun s11_48 => loop (f11_cut_l57 a1 a2 a3 s11_48) ((0 : Int64), (0 : Int32))) else (f11_cut_j44 s11))))
set_option maxHeartbeats 4000000 in
set_option maxRecDepth 100000 in
theorem m11_cut (l : Launch) (D : va_G) (ad : Nat → Nat) (cy : Nat → ClassId) (sz : Nat) (s11 : OS) (a1 : Int32) (a2 : Int32) (a3 : Int32) (r : Int32 × OS) (h : f11_cut a1 a2 a3 s11 = some r) : Met l yX11_cut (wsOf yX11_cut cX11_cut 9 (some .int)) (rmL 4) (va_Pc ([.ref (ad 0), .int a1, .int a2, .int a3] : List Value) (PreG D cy (cellsM ad cy s11) sz NM)) (QcI D ad 66 (cellsM ad cy r.2) (r.1) sz) 0 0 (Afr ad 66 sz) := by
  refine metG (own := RX11) (by decide) rfl (Nat.le_of_ble_eq_true rfl) fstM ?_ sz
  intro p e s m below meth c ls C0 hw hl
  obtain ⟨hx, hb, hml, hown, hts, hr, hlk, hK, hN⟩ := C0
  have hl : lv_has ls 9 [(0, .ref (ad 0)), (1, .int a1), (2, .int a2), (3, .int a3)] := hl
  generalize hQ : MQ below (QcI D ad 66 (cellsM ad cy r.2) (r.1) s.heap.size) ([.ref (ad 0), .int a1, .int a2, .int a3] : List Value).toArray s 0 0 (Afr ad 66 s.heap.size) = Q
  obtain ⟨H, hH⟩ : ∃ H : Heap, H = s.heap := ⟨_, rfl⟩
  obtain ⟨locs, hlc⟩ : ∃ L : List Loc, L = [] := ⟨_, rfl⟩
  have hw : Wd D (cellsM ad cy s11) (Afr ad 66 s.heap.size) s.heap H locs := by rw [hH, hlc]; exact hw
  suffices h0 : W p l e (rmL 4) s m ([.ref (ad 0), .int a1, .int a2, .int a3] : List Value).toArray below meth c H locs 0 0 Q (F0 m 0 ls []) by rw [hH, hlc] at h0; exact h0
  clear hH hlc
  unfold f11_cut at h
  have hJ_44 : ∀ (s11_j44 : OS) (H : Heap) (locs : List Loc) (ls : Array Slot), f11_cut_j44 s11_j44 = some r → Wd D (cellsM ad cy s11_j44) (Afr ad 66 s.heap.size) s.heap H locs → lv_has ls 9 [] → W p l e (rmL 4) s m ([.ref (ad 0), .int a1, .int a2, .int a3] : List Value).toArray below meth c H locs 0 0 Q (F0 m 44 ls []) := by
    intro s11_j44 H locs ls h hw hl
    unfold f11_cut_j44 at h
    refine lv_iconst (v := (-1)) hx hb dX11_cut_44 (by decide) ?_
    have h := Option.some.inj h
    subst h
    rw [← hQ]
    exact retI hx hb hr hlk hw rfl dX11_cut_45
  refine lv_aload_n hx hb dX11_cut_0 rfl (lv_at hl 0 rfl) ?_
  refine lv_iload_n hx hb dX11_cut_1 rfl (lv_at hl 1 rfl) ?_
  obtain ⟨q_2, h_2, h⟩ := bnd_e h
  have pg_2 := preG (av := [.ref (ad 0), .int a1]) hK hw.1 hw.2.1 NM_keep NM_blind
  refine endI (mc := 0) (ms := 0) (va_runV (As := [.int a1]) (rest := []) ⟨hx, hb, hml, hown, hts⟩ (m11_isOpen l D ad cy H.size s11 a1 q_2 h_2) (wX11_266 3 hts ⟨Nat.le_of_ble_eq_true rfl, Nat.le_of_ble_eq_true rfl⟩) ⟨pg_2.1, va_recv hK hw.1 (ci := 11) (q0 := 0) rfl eM_0, pg_2.2⟩ rfl rfl hl.1 rfl (lv_room (Nat.le_of_ble_eq_true rfl)) dX11_cut_2 ⟨Nat.le_refl _, Nat.le_refl _⟩) hw.2.2 (afr_in hw.2.2) (fun H locs hw => ?_)
  refine lv_if_eq (tgt := 44) hx hb dX11_cut_5 (by decide) (fun c_5 => ?_) (fun c_5 => ?_)
  · have h := ite_t c_5 h
    exact hJ_44 s11 H locs ls h hw (lv_sub hl [] rfl)
  · have h := ite_f c_5 h
    refine lv_iload_n hx hb dX11_cut_8 rfl (lv_at hl 2 rfl) ?_
    refine lv_i2l hx hb dX11_cut_9 rfl ?_
    refine lv_lconst (v := 0) hx hb dX11_cut_10 (by decide) ?_
    refine lv_ldc2 (v := 15) hx hb hown (hts _ (wd_7 (w := .constantLong RX11 269 15) (i := 142) (by decide +kernel) rfl)) dX11_cut_11 ?_
    obtain ⟨q_14, h_14, h⟩ := bnd_e h
    have pg_14 := preG (av := [.long ((a2).toInt64), .long ((0 : Int64)), .long ((15 : Int64))]) hK hw.1 hw.2.1 NM_keep NM_blind
    refine endI (mc := 0) (ms := 0) (va_runS (As := [.long ((a2).toInt64), .long ((0 : Int64)), .long ((15 : Int64))]) (rest := []) ⟨hx, hb, hml, hown, hts⟩ (m11_lies l D ad cy H.size s11 ((a2).toInt64) ((0 : Int64)) ((15 : Int64)) q_14 h_14) (wX11_215 0 hts ⟨Nat.le_of_ble_eq_true rfl, Nat.le_of_ble_eq_true rfl⟩) pg_14 rfl rfl hl.1 rfl (lv_room (Nat.le_of_ble_eq_true rfl)) dX11_cut_14 ⟨Nat.le_refl _, Nat.le_refl _⟩) hw.2.2 (afr_in hw.2.2) (fun H locs hw => ?_)
    refine lv_if_eq (tgt := 44) hx hb dX11_cut_17 (by decide) (fun c_17 => ?_) (fun c_17 => ?_)
    · have h := ite_t c_17 h
      exact hJ_44 s11 H locs ls h hw (lv_sub hl [] rfl)
    · have h := ite_f c_17 h
      refine lv_iload_n hx hb dX11_cut_20 rfl (lv_at hl 3 rfl) ?_
      refine lv_i2l hx hb dX11_cut_21 rfl ?_
      refine lv_ldc2 (v := 2) hx hb hown (hts _ (wd_7 (w := .constantLong RX11 271 2) (i := 143) (by decide +kernel) rfl)) dX11_cut_22 ?_
      refine lv_ldc2 (v := 6) hx hb hown (hts _ (wd_7 (w := .constantLong RX11 273 6) (i := 144) (by decide +kernel) rfl)) dX11_cut_25 ?_
      obtain ⟨q_28, h_28, h⟩ := bnd_e h
      have pg_28 := preG (av := [.long ((a3).toInt64), .long ((2 : Int64)), .long ((6 : Int64))]) hK hw.1 hw.2.1 NM_keep NM_blind
      refine endI (mc := 0) (ms := 0) (va_runS (As := [.long ((a3).toInt64), .long ((2 : Int64)), .long ((6 : Int64))]) (rest := []) ⟨hx, hb, hml, hown, hts⟩ (m11_lies l D ad cy H.size s11 ((a3).toInt64) ((2 : Int64)) ((6 : Int64)) q_28 h_28) (wX11_215 0 hts ⟨Nat.le_of_ble_eq_true rfl, Nat.le_of_ble_eq_true rfl⟩) pg_28 rfl rfl hl.1 rfl (lv_room (Nat.le_of_ble_eq_true rfl)) dX11_cut_28 ⟨Nat.le_refl _, Nat.le_refl _⟩) hw.2.2 (afr_in hw.2.2) (fun H locs hw => ?_)
      refine lv_if_eq (tgt := 44) hx hb dX11_cut_31 (by decide) (fun c_31 => ?_) (fun c_31 => ?_)
      · have h := ite_t c_31 h
        exact hJ_44 s11 H locs ls h hw (lv_sub hl [] rfl)
      · have h := ite_f c_31 h
        refine lv_iconst (v := 4) hx hb dX11_cut_34 (by decide) ?_
        refine lv_iload_n hx hb dX11_cut_35 rfl (lv_at hl 3 rfl) ?_
        refine lv_imul hx hb dX11_cut_36 ?_
        refine lv_aload_n hx hb dX11_cut_37 rfl (lv_at hl 0 rfl) ?_
        refine gX11_228 hx hb hts hown hK hw dX11_cut_38 ?_
        refine lv_icmp_le (tgt := 46) hx hb dX11_cut_41 (by decide) (fun c_41 => ?_) (fun c_41 => ?_)
        · have h := ite_t c_41 h
          refine lv_aload_n hx hb dX11_cut_46 rfl (lv_at hl 0 rfl) ?_
          refine lv_iconst (v := 0) hx hb dX11_cut_47 (by decide) ?_
          obtain ⟨s11_48, e_48, h⟩ := nam_e h
          refine pX11_228 hx hb hts hown hK hw e_48 dX11_cut_48 (fun H locs hw => ?_)
          refine lv_lconst (v := 0) hx hb dX11_cut_51 (by decide) ?_
          refine lv_lstore (lv' := [(4, .long ((0 : Int64))), (0, .ref (ad 0)), (1, .int a1), (2, .int a2), (3, .int a3)]) hx hb dX11_cut_52 hl (by decide) rfl (fun ls hl => ?_)
          refine lv_iconst (v := 0) hx hb dX11_cut_54 (by decide) ?_
          refine lv_istore (lv' := [(6, .int ((0 : Int32))), (4, .long ((0 : Int64))), (0, .ref (ad 0)), (1, .int a1), (2, .int a2), (3, .int a3)]) hx hb dX11_cut_55 hl (by decide) rfl (fun ls hl => ?_)
          obtain ⟨n_57, hn_57⟩ := loop_e h
          have hL_57 : ∀ (n : Nat) (t_57 : Int64 × Int32) (H : Heap) (locs : List Loc) (ls : Array Slot), loopN (f11_cut_l57 a1 a2 a3 s11_48) n t_57 = some r → Wd D (cellsM ad cy s11_48) (Afr ad 66 s.heap.size) s.heap H locs → lv_has ls 9 [(4, .long t_57.1), (6, .int t_57.2), (1, .int a1), (2, .int a2), (3, .int a3), (0, .ref (ad 0))] → W p l e (rmL 4) s m ([.ref (ad 0), .int a1, .int a2, .int a3] : List Value).toArray below meth c H locs 0 0 Q (F0 m 57 ls []) := by
            intro n
            induction n with
            | zero => intro t_57 H locs ls hn; cases hn
            | succ n ih_57 =>
              intro t_57 H locs ls hn hw hl
              obtain ⟨x_57, h, hx_57⟩ := loopN_e hn
              unfold f11_cut_l57 at h
              refine lv_iload hx hb dX11_cut_57 (lv_at hl 1 rfl) ?_
              refine lv_iload_n hx hb dX11_cut_59 rfl (lv_at hl 4 rfl) ?_
              refine lv_icmp_ge (tgt := 94) hx hb dX11_cut_60 (by decide) (fun c_60 => ?_) (fun c_60 => ?_)
              · have h := ite_t c_60 h
                have h := nx_m hx_57 h
                refine lv_lload hx hb dX11_cut_94 (lv_at hl 0 rfl) ?_
                refine lv_aload_n hx hb dX11_cut_96 rfl (lv_at hl 5 rfl) ?_
                refine gX11_20 hx hb hts hown hK hw dX11_cut_97 ?_
                refine lv_iload_n hx hb dX11_cut_100 rfl (lv_at hl 2 rfl) ?_
                obtain ⟨hi_101, h⟩ := chk_e h
                obtain ⟨y_101, e_101, h⟩ := nam_e h
                refine lM4 hx hb hK hw hi_101 e_101 dX11_cut_101 ?_
                refine lv_i2l hx hb dX11_cut_102 rfl ?_
                refine W.lcmp hx hb dX11_cut_103 ?_
                refine lv_if_le (tgt := 110) hx hb dX11_cut_104 (by decide) (fun c_104 => ?_) (fun c_104 => ?_)
                · have h := ite_t c_104 h
                  refine lv_aload_n hx hb dX11_cut_110 rfl (lv_at hl 5 rfl) ?_
                  refine gX11_235 hx hb hts hown hK hw dX11_cut_111 ?_
                  refine lv_iload_n hx hb dX11_cut_114 rfl (lv_at hl 4 rfl) ?_
                  refine lv_iadd hx hb dX11_cut_115 ?_
                  refine lv_sipush (v := 150) hx hb dX11_cut_116 (by decide) ?_
                  refine lv_icmp_le (tgt := 125) hx hb dX11_cut_119 (by decide) (fun c_119 => ?_) (fun c_119 => ?_)
                  · have h := ite_t c_119 h
                    refine lv_aload_n hx hb dX11_cut_125 rfl (lv_at hl 5 rfl) ?_
                    refine gX11_235 hx hb hts hown hK hw dX11_cut_126 ?_
                    obtain ⟨n_129, e_129, h⟩ := nam_e h
                    refine topI e_129 ?_
                    refine lv_istore (lv' := [(6, .int n_129), (4, .long t_57.1), (1, .int a1), (2, .int a2), (3, .int a3), (0, .ref (ad 0))]) hx hb dX11_cut_129 hl (by decide) rfl (fun ls hl => ?_)
                    refine lv_iconst (v := 0) hx hb dX11_cut_131 (by decide) ?_
                    refine lv_istore (lv' := [(7, .int ((0 : Int32))), (6, .int n_129), (4, .long t_57.1), (1, .int a1), (2, .int a2), (3, .int a3), (0, .ref (ad 0))]) hx hb dX11_cut_132 hl (by decide) rfl (fun ls hl => ?_)
                    obtain ⟨n_134, hn_134⟩ := loop_e h
                    have hL_134 : ∀ (n : Nat) (t_134 : Int32 × OS) (H : Heap) (locs : List Loc) (ls : Array Slot), loopN (f11_cut_l134 a1 a2 a3 t_57.1 n_129) n t_134 = some r → Wd D (cellsM ad cy t_134.2) (Afr ad 66 s.heap.size) s.heap H locs → lv_has ls 9 [(7, .int t_134.1), (1, .int a1), (2, .int a2), (3, .int a3), (4, .long t_57.1), (6, .int n_129), (0, .ref (ad 0))] → W p l e (rmL 4) s m ([.ref (ad 0), .int a1, .int a2, .int a3] : List Value).toArray below meth c H locs 0 0 Q (F0 m 134 ls []) := by
                      intro n
                      induction n with
                      | zero => intro t_134 H locs ls hn; cases hn
                      | succ n ih_134 =>
                        intro t_134 H locs ls hn hw hl
                        obtain ⟨x_134, h, hx_134⟩ := loopN_e hn
                        unfold f11_cut_l134 at h
                        refine lv_iload hx hb dX11_cut_134 (lv_at hl 0 rfl) ?_
                        refine lv_iload_n hx hb dX11_cut_136 rfl (lv_at hl 3 rfl) ?_
                        refine lv_icmp_ge (tgt := 187) hx hb dX11_cut_137 (by decide) (fun c_137 => ?_) (fun c_137 => ?_)
                        · have h := ite_t c_137 h
                          have h := nx_m hx_134 h
                          refine lv_aload_n hx hb dX11_cut_187 rfl (lv_at hl 6 rfl) ?_
                          refine gX11_46 hx hb hts hown hK hw dX11_cut_188 ?_
                          refine lv_aload_n hx hb dX11_cut_191 rfl (lv_at hl 6 rfl) ?_
                          refine gX11_13 hx hb hts hown hK hw dX11_cut_192 ?_
                          refine lv_iload_n hx hb dX11_cut_195 rfl (lv_at hl 1 rfl) ?_
                          obtain ⟨hi_196, h⟩ := chk_e h
                          obtain ⟨y_196, e_196, h⟩ := nam_e h
                          refine lM2 hx hb hK hw hi_196 e_196 dX11_cut_196 ?_
                          refine lv_dup2_11 hx hb dX11_cut_197 rfl rfl ?_
                          obtain ⟨hi_198, h⟩ := chk_e h
                          obtain ⟨y_198, e_198, h⟩ := nam_e h
                          refine lM12 hx hb hK hw hi_198 e_198 dX11_cut_198 ?_
                          refine lv_aload_n hx hb dX11_cut_199 rfl (lv_at hl 6 rfl) ?_
                          refine gX11_20 hx hb hts hown hK hw dX11_cut_200 ?_
                          refine lv_iload_n hx hb dX11_cut_203 rfl (lv_at hl 1 rfl) ?_
                          obtain ⟨hi_204, h⟩ := chk_e h
                          obtain ⟨y_204, e_204, h⟩ := nam_e h
                          refine lM4 hx hb hK hw hi_204 e_204 dX11_cut_204 ?_
                          refine lv_i2l hx hb dX11_cut_205 rfl ?_
                          refine lv_lload hx hb dX11_cut_206 (lv_at hl 4 rfl) ?_
                          refine lv_lsub hx hb dX11_cut_208 ?_
                          refine lv_ladd hx hb dX11_cut_209 ?_
                          obtain ⟨hi_210, h⟩ := chk_e h
                          obtain ⟨s11_210, e_210, h⟩ := nam_e h
                          refine aM12 hx hb hK hw hi_210 e_210 dX11_cut_210 (fun H locs hw => ?_)
                          refine lv_aload_n hx hb dX11_cut_211 rfl (lv_at hl 6 rfl) ?_
                          refine lv_iload_n hx hb dX11_cut_212 rfl (lv_at hl 1 rfl) ?_
                          obtain ⟨q_213, h_213, h⟩ := bnd_e h
                          have pg_213 := preG (av := [.ref (ad 0), .int a1]) hK hw.1 hw.2.1 NM_keep NM_blind
                          refine endV (mc := 0) (ms := 0) (va_runV (As := [.int a1]) (rest := []) ⟨hx, hb, hml, hown, hts⟩ (m11_isDone l D ad cy H.size s11_210 a1 q_213 h_213) (wX11_279 0 hts ⟨Nat.le_of_ble_eq_true rfl, Nat.le_of_ble_eq_true rfl⟩) ⟨pg_213.1, va_recv hK hw.1 (ci := 11) (q0 := 0) rfl eM_0, pg_213.2⟩ rfl rfl hl.1 rfl (lv_room (Nat.le_of_ble_eq_true rfl)) dX11_cut_213 ⟨Nat.le_refl _, Nat.le_refl _⟩) hw.2.2 (afr_in hw.2.2) (fun H locs hw => ?_)
                          refine lv_aload_n hx hb dX11_cut_216 rfl (lv_at hl 6 rfl) ?_
                          refine lv_iload_n hx hb dX11_cut_217 rfl (lv_at hl 1 rfl) ?_
                          obtain ⟨q_218, h_218, h⟩ := bnd_e h
                          have pg_218 := preG (av := [.ref (ad 0), .int a1]) hK hw.1 hw.2.1 NM_keep NM_blind
                          refine endV (mc := 0) (ms := 0) (va_runV (As := [.int a1]) (rest := []) ⟨hx, hb, hml, hown, hts⟩ (m11_notes l D ad cy H.size q_213 a1 q_218 h_218) (wX11_251 0 hts ⟨Nat.le_of_ble_eq_true rfl, Nat.le_of_ble_eq_true rfl⟩) ⟨pg_218.1, va_recv hK hw.1 (ci := 11) (q0 := 0) rfl eM_0, pg_218.2⟩ rfl rfl hl.1 rfl (lv_room (Nat.le_of_ble_eq_true rfl)) dX11_cut_218 ⟨Nat.le_refl _, Nat.le_refl _⟩) hw.2.2 (afr_in hw.2.2) (fun H locs hw => ?_)
                          refine lv_iload hx hb dX11_cut_221 (lv_at hl 5 rfl) ?_
                          have h := Option.some.inj h
                          subst h
                          rw [← hQ]
                          exact retI hx hb hr hlk hw rfl dX11_cut_223
                        · have h := ite_f c_137 h
                          refine lv_aload_n hx hb dX11_cut_140 rfl (lv_at hl 6 rfl) ?_
                          refine lv_aload_n hx hb dX11_cut_141 rfl (lv_at hl 6 rfl) ?_
                          refine gX11_13 hx hb hts hown hK hw dX11_cut_142 ?_
                          refine lv_iload_n hx hb dX11_cut_145 rfl (lv_at hl 1 rfl) ?_
                          obtain ⟨hi_146, h⟩ := chk_e h
                          obtain ⟨y_146, e_146, h⟩ := nam_e h
                          refine lM2 hx hb hK hw hi_146 e_146 dX11_cut_146 ?_
                          refine lv_aload_n hx hb dX11_cut_147 rfl (lv_at hl 6 rfl) ?_
                          refine gX11_17 hx hb hts hown hK hw dX11_cut_148 ?_
                          refine lv_iload_n hx hb dX11_cut_151 rfl (lv_at hl 1 rfl) ?_
                          obtain ⟨hi_152, h⟩ := chk_e h
                          obtain ⟨y_152, e_152, h⟩ := nam_e h
                          refine lM3 hx hb hK hw hi_152 e_152 dX11_cut_152 ?_
                          refine lv_aload_n hx hb dX11_cut_153 rfl (lv_at hl 6 rfl) ?_
                          refine lv_iload hx hb dX11_cut_154 (lv_at hl 0 rfl) ?_
                          obtain ⟨q_156, h_156, h⟩ := bnd_e h
                          have pg_156 := preG (av := [.ref (ad 0), .int t_134.1]) hK hw.1 hw.2.1 NM_keep NM_blind
                          refine endI (mc := 0) (ms := 0) (va_runV (As := [.int t_134.1]) (rest := [.int y_152, .int y_146, .ref (ad 0)]) ⟨hx, hb, hml, hown, hts⟩ (m11_numberAt l D ad cy H.size t_134.2 t_134.1 q_156 h_156) (wX11_275 0 hts ⟨Nat.le_of_ble_eq_true rfl, Nat.le_of_ble_eq_true rfl⟩) ⟨pg_156.1, va_recv hK hw.1 (ci := 11) (q0 := 0) rfl eM_0, pg_156.2⟩ rfl rfl hl.1 rfl (lv_room (Nat.le_of_ble_eq_true rfl)) dX11_cut_156 ⟨Nat.le_refl _, Nat.le_refl _⟩) hw.2.2 (afr_in hw.2.2) (fun H locs hw => ?_)
                          refine lv_aload_n hx hb dX11_cut_159 rfl (lv_at hl 6 rfl) ?_
                          refine gX11_23 hx hb hts hown hK hw dX11_cut_160 ?_
                          refine lv_iload_n hx hb dX11_cut_163 rfl (lv_at hl 1 rfl) ?_
                          obtain ⟨hi_164, h⟩ := chk_e h
                          obtain ⟨y_164, e_164, h⟩ := nam_e h
                          refine lM5 hx hb hK hw hi_164 e_164 dX11_cut_164 ?_
                          refine lv_iconst (v := 1) hx hb dX11_cut_165 (by decide) ?_
                          refine lv_iload_n hx hb dX11_cut_166 rfl (lv_at hl 2 rfl) ?_
                          refine lv_ishl hx hb dX11_cut_167 ?_
                          refine lv_ior hx hb dX11_cut_168 ?_
                          refine lv_aload_n hx hb dX11_cut_169 rfl (lv_at hl 6 rfl) ?_
                          refine gX11_26 hx hb hts hown hK hw dX11_cut_170 ?_
                          refine lv_iload_n hx hb dX11_cut_173 rfl (lv_at hl 1 rfl) ?_
                          obtain ⟨hi_174, h⟩ := chk_e h
                          obtain ⟨y_174, e_174, h⟩ := nam_e h
                          refine lM6 hx hb hK hw hi_174 e_174 dX11_cut_174 ?_
                          refine lv_iload_n hx hb dX11_cut_175 rfl (lv_at hl 1 rfl) ?_
                          obtain ⟨q_176, h_176, h⟩ := bnd_e h
                          have pg_176 := preG (av := [.ref (ad 0), .int y_146, .int y_152, .int q_156, .int ((y_164 ||| ((1 : Int32) <<< (a2 &&& 31)))), .int y_174, .int a1]) hK hw.1 hw.2.1 NM_keep NM_blind
                          refine endI (mc := 0) (ms := 0) (va_runV (As := [.int y_146, .int y_152, .int q_156, .int ((y_164 ||| ((1 : Int32) <<< (a2 &&& 31)))), .int y_174, .int a1]) (rest := []) ⟨hx, hb, hml, hown, hts⟩ (m11_comes l D ad cy H.size t_134.2 y_146 y_152 q_156 ((y_164 ||| ((1 : Int32) <<< (a2 &&& 31)))) y_174 a1 q_176 h_176) (wX11_259 1 hts ⟨Nat.le_of_ble_eq_true rfl, Nat.le_of_ble_eq_true rfl⟩) ⟨pg_176.1, va_recv hK hw.1 (ci := 11) (q0 := 0) rfl eM_0, pg_176.2⟩ rfl rfl hl.1 rfl (lv_room (Nat.le_of_ble_eq_true rfl)) dX11_cut_176 ⟨Nat.le_refl _, Nat.le_refl _⟩) hw.2.2 (afr_in hw.2.2) (fun H locs hw => ?_)
                          refine lv_istore (lv' := [(8, .int q_176.1), (7, .int t_134.1), (1, .int a1), (2, .int a2), (3, .int a3), (4, .long t_57.1), (6, .int n_129), (0, .ref (ad 0))]) hx hb dX11_cut_179 hl (by decide) rfl (fun ls hl => ?_)
                          obtain ⟨n_181, e_181, h⟩ := nam_e h
                          refine lv_iinc (v := n_181) (lv' := [(7, .int n_181), (8, .int q_176.1), (1, .int a1), (2, .int a2), (3, .int a3), (4, .long t_57.1), (6, .int n_129), (0, .ref (ad 0))]) hx hb dX11_cut_181 hl (k := 1) rfl (by rw [e_181]; rfl) (by decide) rfl (fun ls hl => ?_)
                          refine lv_goto (tgt := 134) hx hb dX11_cut_184 (by decide) ?_
                          exact ih_134 (n_181, q_176.2) H locs ls (nx_l hx_134 h) hw (lv_sub hl [0, 2, 3, 4, 5, 6, 7] rfl)
                    exact hL_134 n_134 ((0 : Int32), s11_48) H locs ls hn_134 hw (lv_sub hl [0, 3, 4, 5, 2, 1, 6] rfl)
                  · have h := ite_f c_119 h
                    refine lv_bipush (v := (-3)) hx hb dX11_cut_122 (by decide) ?_
                    have h := Option.some.inj h
                    subst h
                    rw [← hQ]
                    exact retI hx hb hr hlk hw rfl dX11_cut_124
                · have h := ite_f c_104 h
                  refine lv_bipush (v := (-2)) hx hb dX11_cut_107 (by decide) ?_
                  have h := Option.some.inj h
                  subst h
                  rw [← hQ]
                  exact retI hx hb hr hlk hw rfl dX11_cut_109
              · have h := ite_f c_60 h
                refine lv_aload_n hx hb dX11_cut_63 rfl (lv_at hl 5 rfl) ?_
                refine lv_iload hx hb dX11_cut_64 (lv_at hl 1 rfl) ?_
                obtain ⟨q_66, h_66, h⟩ := bnd_e h
                have pg_66 := preG (av := [.ref (ad 0), .int t_57.2]) hK hw.1 hw.2.1 NM_keep NM_blind
                refine endI (mc := 0) (ms := 0) (va_runV (As := [.int t_57.2]) (rest := []) ⟨hx, hb, hml, hown, hts⟩ (m11_numberAt l D ad cy H.size s11_48 t_57.2 q_66 h_66) (wX11_275 0 hts ⟨Nat.le_of_ble_eq_true rfl, Nat.le_of_ble_eq_true rfl⟩) ⟨pg_66.1, va_recv hK hw.1 (ci := 11) (q0 := 0) rfl eM_0, pg_66.2⟩ rfl rfl hl.1 rfl (lv_room (Nat.le_of_ble_eq_true rfl)) dX11_cut_66 ⟨Nat.le_refl _, Nat.le_refl _⟩) hw.2.2 (afr_in hw.2.2) (fun H locs hw => ?_)
                refine lv_iconst (v := 1) hx hb dX11_cut_69 (by decide) ?_
                refine lv_icmp_ge (tgt := 76) hx hb dX11_cut_70 (by decide) (fun c_70 => ?_) (fun c_70 => ?_)
                · have h := ite_t c_70 h
                  refine lv_lload hx hb dX11_cut_76 (lv_at hl 0 rfl) ?_
                  refine lv_aload_n hx hb dX11_cut_78 rfl (lv_at hl 5 rfl) ?_
                  refine lv_iload hx hb dX11_cut_79 (lv_at hl 1 rfl) ?_
                  obtain ⟨q_81, h_81, h⟩ := bnd_e h
                  have pg_81 := preG (av := [.ref (ad 0), .int t_57.2]) hK hw.1 hw.2.1 NM_keep NM_blind
                  refine endI (mc := 0) (ms := 0) (va_runV (As := [.int t_57.2]) (rest := [.long t_57.1]) ⟨hx, hb, hml, hown, hts⟩ (m11_numberAt l D ad cy H.size s11_48 t_57.2 q_81 h_81) (wX11_275 0 hts ⟨Nat.le_of_ble_eq_true rfl, Nat.le_of_ble_eq_true rfl⟩) ⟨pg_81.1, va_recv hK hw.1 (ci := 11) (q0 := 0) rfl eM_0, pg_81.2⟩ rfl rfl hl.1 rfl (lv_room (Nat.le_of_ble_eq_true rfl)) dX11_cut_81 ⟨Nat.le_refl _, Nat.le_refl _⟩) hw.2.2 (afr_in hw.2.2) (fun H locs hw => ?_)
                  refine lv_i2l hx hb dX11_cut_84 rfl ?_
                  refine lv_ladd hx hb dX11_cut_85 ?_
                  obtain ⟨n_86, e_86, h⟩ := nam_e h
                  refine topL e_86 ?_
                  refine lv_lstore (lv' := [(4, .long n_86), (6, .int t_57.2), (1, .int a1), (2, .int a2), (3, .int a3), (0, .ref (ad 0))]) hx hb dX11_cut_86 hl (by decide) rfl (fun ls hl => ?_)
                  obtain ⟨n_88, e_88, h⟩ := nam_e h
                  refine lv_iinc (v := n_88) (lv' := [(6, .int n_88), (4, .long n_86), (1, .int a1), (2, .int a2), (3, .int a3), (0, .ref (ad 0))]) hx hb dX11_cut_88 hl (k := 1) rfl (by rw [e_88]; rfl) (by decide) rfl (fun ls hl => ?_)
                  refine lv_goto (tgt := 57) hx hb dX11_cut_91 (by decide) ?_
                  exact ih_57 (n_86, n_88) H locs ls (nx_l hx_57 h) hw (lv_sub hl [1, 0, 2, 3, 4, 5] rfl)
                · have h := ite_f c_70 h
                  have h := nx_m hx_57 h
                  refine lv_bipush (v := (-2)) hx hb dX11_cut_73 (by decide) ?_
                  have h := Option.some.inj h
                  subst h
                  rw [← hQ]
                  exact retI hx hb hr hlk hw rfl dX11_cut_75
          exact hL_57 n_57 ((0 : Int64), (0 : Int32)) H locs ls hn_57 hw (lv_sub hl [1, 0, 3, 4, 5, 2] rfl)
        · have h := ite_f c_41 h
          exact hJ_44 s11 H locs ls h hw (lv_sub hl [] rfl)
theorem dX11_isDay_0 : decode cX11_isDay 0 = .ok (.iload_n 0, 1) := by decide +kernel
theorem dX11_isDay_1 : decode cX11_isDay 1 = .ok (.i2l, 1) := by decide +kernel
theorem dX11_isDay_2 : decode cX11_isDay 2 = .ok (.lconst 0, 1) := by decide +kernel
theorem dX11_isDay_3 : decode cX11_isDay 3 = .ok (.ldc2_w 213, 3) := by decide +kernel
theorem dX11_isDay_6 : decode cX11_isDay 6 = .ok (.invokestatic 215, 3) := by decide +kernel
theorem dX11_isDay_9 : decode cX11_isDay 9 = .ok (.ireturn, 1) := by decide +kernel
def f11_isDay (a0 : Int32) : Option (Int32) := Option.bind (f11_lies ((a0).toInt64) ((0 : Int64)) ((99999 : Int64))) fun q_6 => chk (isB q_6) (some q_6)
set_option maxHeartbeats 4000000 in
set_option maxRecDepth 100000 in
theorem m11_isDay (l : Launch) (D : va_G) (ad : Nat → Nat) (cy : Nat → ClassId) (sz : Nat) (s11 : OS) (a0 : Int32) (r : Int32) (h : f11_isDay a0 = some r) : Met l yX11_isDay (wsOf yX11_isDay cX11_isDay 1 (some .boolean)) (rmL 1) (va_Pc ([.int a0] : List Value) (PreG D cy (cellsM ad cy s11) sz NM)) (QcI D ad 66 (cellsM ad cy s11) (r) sz) 0 0 (Afr ad 66 sz) := by
  refine metG (own := RX11) (by decide) rfl (Nat.le_of_ble_eq_true rfl) fstM ?_ sz
  intro p e s m below meth c ls C0 hw hl
  obtain ⟨hx, hb, hml, hown, hts, hr, hlk, hK, hN⟩ := C0
  have hl : lv_has ls 1 [(0, .int a0)] := hl
  generalize hQ : MQ below (QcI D ad 66 (cellsM ad cy s11) (r) s.heap.size) ([.int a0] : List Value).toArray s 0 0 (Afr ad 66 s.heap.size) = Q
  obtain ⟨H, hH⟩ : ∃ H : Heap, H = s.heap := ⟨_, rfl⟩
  obtain ⟨locs, hlc⟩ : ∃ L : List Loc, L = [] := ⟨_, rfl⟩
  have hw : Wd D (cellsM ad cy s11) (Afr ad 66 s.heap.size) s.heap H locs := by rw [hH, hlc]; exact hw
  suffices h0 : W p l e (rmL 1) s m ([.int a0] : List Value).toArray below meth c H locs 0 0 Q (F0 m 0 ls []) by rw [hH, hlc] at h0; exact h0
  clear hH hlc
  unfold f11_isDay at h
  refine lv_iload_n hx hb dX11_isDay_0 rfl (lv_at hl 0 rfl) ?_
  refine lv_i2l hx hb dX11_isDay_1 rfl ?_
  refine lv_lconst (v := 0) hx hb dX11_isDay_2 (by decide) ?_
  refine lv_ldc2 (v := 99999) hx hb hown (hts _ (wd_7 (w := .constantLong RX11 213 99999) (i := 77) (by decide +kernel) rfl)) dX11_isDay_3 ?_
  obtain ⟨q_6, h_6, h⟩ := bnd_e h
  have pg_6 := preG (av := [.long ((a0).toInt64), .long ((0 : Int64)), .long ((99999 : Int64))]) hK hw.1 hw.2.1 NM_keep NM_blind
  refine endI (mc := 0) (ms := 0) (va_runS (As := [.long ((a0).toInt64), .long ((0 : Int64)), .long ((99999 : Int64))]) (rest := []) ⟨hx, hb, hml, hown, hts⟩ (m11_lies l D ad cy H.size s11 ((a0).toInt64) ((0 : Int64)) ((99999 : Int64)) q_6 h_6) (wX11_215 0 hts ⟨Nat.le_of_ble_eq_true rfl, Nat.le_of_ble_eq_true rfl⟩) pg_6 rfl rfl hl.1 rfl (lv_room (Nat.le_of_ble_eq_true rfl)) dX11_isDay_6 ⟨Nat.le_refl _, Nat.le_refl _⟩) hw.2.2 (afr_in hw.2.2) (fun H locs hw => ?_)
  obtain ⟨hz_9, h⟩ := chk_e h
  have h := Option.some.inj h
  subst h
  rw [← hQ]
  exact retI hx hb hr hlk hw (narB hz_9) dX11_isDay_9
theorem dX11_drifts_0 : decode cX11_drifts 0 = .ok (.iload_n 1, 1) := by decide +kernel
theorem dX11_drifts_1 : decode cX11_drifts 1 = .ok (.i2l, 1) := by decide +kernel
theorem dX11_drifts_2 : decode cX11_drifts 2 = .ok (.lconst 0, 1) := by decide +kernel
theorem dX11_drifts_3 : decode cX11_drifts 3 = .ok (.ldc2_w 448, 3) := by decide +kernel
theorem dX11_drifts_6 : decode cX11_drifts 6 = .ok (.invokestatic 215, 3) := by decide +kernel
theorem dX11_drifts_9 : decode cX11_drifts 9 = .ok (.ifCond .eq 22, 3) := by decide +kernel
theorem dX11_drifts_12 : decode cX11_drifts 12 = .ok (.iload_n 2, 1) := by decide +kernel
theorem dX11_drifts_13 : decode cX11_drifts 13 = .ok (.invokestatic 391, 3) := by decide +kernel
theorem dX11_drifts_16 : decode cX11_drifts 16 = .ok (.ifCond .eq 15, 3) := by decide +kernel
theorem dX11_drifts_19 : decode cX11_drifts 19 = .ok (.iload_n 3, 1) := by decide +kernel
theorem dX11_drifts_20 : decode cX11_drifts 20 = .ok (.i2l, 1) := by decide +kernel
theorem dX11_drifts_21 : decode cX11_drifts 21 = .ok (.lconst 0, 1) := by decide +kernel
theorem dX11_drifts_22 : decode cX11_drifts 22 = .ok (.ldc2_w 271, 3) := by decide +kernel
theorem dX11_drifts_25 : decode cX11_drifts 25 = .ok (.invokestatic 215, 3) := by decide +kernel
theorem dX11_drifts_28 : decode cX11_drifts 28 = .ok (.ifCond .ne 7, 3) := by decide +kernel
theorem dX11_drifts_31 : decode cX11_drifts 31 = .ok (.sipush (-2000), 3) := by decide +kernel
theorem dX11_drifts_34 : decode cX11_drifts 34 = .ok (.ireturn, 1) := by decide +kernel
theorem dX11_drifts_35 : decode cX11_drifts 35 = .ok (.sipush (-1000), 3) := by decide +kernel
theorem dX11_drifts_38 : decode cX11_drifts 38 = .ok (.istore 4, 2) := by decide +kernel
theorem dX11_drifts_40 : decode cX11_drifts 40 = .ok (.sipush 1000, 3) := by decide +kernel
theorem dX11_drifts_43 : decode cX11_drifts 43 = .ok (.istore 5, 2) := by decide +kernel
theorem dX11_drifts_45 : decode cX11_drifts 45 = .ok (.iconst 0, 1) := by decide +kernel
theorem dX11_drifts_46 : decode cX11_drifts 46 = .ok (.istore 6, 2) := by decide +kernel
theorem dX11_drifts_48 : decode cX11_drifts 48 = .ok (.iload 6, 2) := by decide +kernel
theorem dX11_drifts_50 : decode cX11_drifts 50 = .ok (.aload_n 0, 1) := by decide +kernel
theorem dX11_drifts_51 : decode cX11_drifts 51 = .ok (.getfield 445, 3) := by decide +kernel
theorem dX11_drifts_54 : decode cX11_drifts 54 = .ok (.if_icmp .ge 100, 3) := by decide +kernel
theorem dX11_drifts_57 : decode cX11_drifts 57 = .ok (.aload_n 0, 1) := by decide +kernel
theorem dX11_drifts_58 : decode cX11_drifts 58 = .ok (.getfield 139, 3) := by decide +kernel
theorem dX11_drifts_61 : decode cX11_drifts 61 = .ok (.iload 6, 2) := by decide +kernel
theorem dX11_drifts_63 : decode cX11_drifts 63 = .ok (.iaload, 1) := by decide +kernel
theorem dX11_drifts_64 : decode cX11_drifts 64 = .ok (.iload_n 1, 1) := by decide +kernel
theorem dX11_drifts_65 : decode cX11_drifts 65 = .ok (.if_icmp .ne 83, 3) := by decide +kernel
theorem dX11_drifts_68 : decode cX11_drifts 68 = .ok (.aload_n 0, 1) := by decide +kernel
theorem dX11_drifts_69 : decode cX11_drifts 69 = .ok (.getfield 142, 3) := by decide +kernel
theorem dX11_drifts_72 : decode cX11_drifts 72 = .ok (.iload 6, 2) := by decide +kernel
theorem dX11_drifts_74 : decode cX11_drifts 74 = .ok (.iaload, 1) := by decide +kernel
theorem dX11_drifts_75 : decode cX11_drifts 75 = .ok (.iload_n 2, 1) := by decide +kernel
theorem dX11_drifts_76 : decode cX11_drifts 76 = .ok (.if_icmp .le 6, 3) := by decide +kernel
theorem dX11_drifts_79 : decode cX11_drifts 79 = .ok (.goto 69, 3) := by decide +kernel
theorem dX11_drifts_82 : decode cX11_drifts 82 = .ok (.aload_n 0, 1) := by decide +kernel
theorem dX11_drifts_83 : decode cX11_drifts 83 = .ok (.getfield 145, 3) := by decide +kernel
theorem dX11_drifts_86 : decode cX11_drifts 86 = .ok (.iload 6, 2) := by decide +kernel
theorem dX11_drifts_88 : decode cX11_drifts 88 = .ok (.iaload, 1) := by decide +kernel
theorem dX11_drifts_89 : decode cX11_drifts 89 = .ok (.aload_n 0, 1) := by decide +kernel
theorem dX11_drifts_90 : decode cX11_drifts 90 = .ok (.getfield 148, 3) := by decide +kernel
theorem dX11_drifts_93 : decode cX11_drifts 93 = .ok (.iload 6, 2) := by decide +kernel
theorem dX11_drifts_95 : decode cX11_drifts 95 = .ok (.iaload, 1) := by decide +kernel
theorem dX11_drifts_96 : decode cX11_drifts 96 = .ok (.isub, 1) := by decide +kernel
theorem dX11_drifts_97 : decode cX11_drifts 97 = .ok (.istore 7, 2) := by decide +kernel
theorem dX11_drifts_99 : decode cX11_drifts 99 = .ok (.aload_n 0, 1) := by decide +kernel
theorem dX11_drifts_100 : decode cX11_drifts 100 = .ok (.getfield 145, 3) := by decide +kernel
theorem dX11_drifts_103 : decode cX11_drifts 103 = .ok (.iload 6, 2) := by decide +kernel
theorem dX11_drifts_105 : decode cX11_drifts 105 = .ok (.iaload, 1) := by decide +kernel
theorem dX11_drifts_106 : decode cX11_drifts 106 = .ok (.aload_n 0, 1) := by decide +kernel
theorem dX11_drifts_107 : decode cX11_drifts 107 = .ok (.getfield 148, 3) := by decide +kernel
theorem dX11_drifts_110 : decode cX11_drifts 110 = .ok (.iload 6, 2) := by decide +kernel
theorem dX11_drifts_112 : decode cX11_drifts 112 = .ok (.iaload, 1) := by decide +kernel
theorem dX11_drifts_113 : decode cX11_drifts 113 = .ok (.iadd, 1) := by decide +kernel
theorem dX11_drifts_114 : decode cX11_drifts 114 = .ok (.istore 8, 2) := by decide +kernel
theorem dX11_drifts_116 : decode cX11_drifts 116 = .ok (.iload 7, 2) := by decide +kernel
theorem dX11_drifts_118 : decode cX11_drifts 118 = .ok (.iload 4, 2) := by decide +kernel
theorem dX11_drifts_120 : decode cX11_drifts 120 = .ok (.if_icmp .le 8, 3) := by decide +kernel
theorem dX11_drifts_123 : decode cX11_drifts 123 = .ok (.iload 7, 2) := by decide +kernel
theorem dX11_drifts_125 : decode cX11_drifts 125 = .ok (.goto 5, 3) := by decide +kernel
theorem dX11_drifts_128 : decode cX11_drifts 128 = .ok (.iload 4, 2) := by decide +kernel
theorem dX11_drifts_130 : decode cX11_drifts 130 = .ok (.istore 4, 2) := by decide +kernel
theorem dX11_drifts_132 : decode cX11_drifts 132 = .ok (.iload 8, 2) := by decide +kernel
theorem dX11_drifts_134 : decode cX11_drifts 134 = .ok (.iload 5, 2) := by decide +kernel
theorem dX11_drifts_136 : decode cX11_drifts 136 = .ok (.if_icmp .ge 8, 3) := by decide +kernel
theorem dX11_drifts_139 : decode cX11_drifts 139 = .ok (.iload 8, 2) := by decide +kernel
theorem dX11_drifts_141 : decode cX11_drifts 141 = .ok (.goto 5, 3) := by decide +kernel
theorem dX11_drifts_144 : decode cX11_drifts 144 = .ok (.iload 5, 2) := by decide +kernel
theorem dX11_drifts_146 : decode cX11_drifts 146 = .ok (.istore 5, 2) := by decide +kernel
theorem dX11_drifts_148 : decode cX11_drifts 148 = .ok (.iinc 6 1, 3) := by decide +kernel
theorem dX11_drifts_151 : decode cX11_drifts 151 = .ok (.goto (-103), 3) := by decide +kernel
theorem dX11_drifts_154 : decode cX11_drifts 154 = .ok (.iload 4, 2) := by decide +kernel
theorem dX11_drifts_156 : decode cX11_drifts 156 = .ok (.iload 5, 2) := by decide +kernel
theorem dX11_drifts_158 : decode cX11_drifts 158 = .ok (.if_icmp .le 15, 3) := by decide +kernel
theorem dX11_drifts_161 : decode cX11_drifts 161 = .ok (.iload_n 3, 1) := by decide +kernel
theorem dX11_drifts_162 : decode cX11_drifts 162 = .ok (.ifCond .ne 7, 3) := by decide +kernel
theorem dX11_drifts_165 : decode cX11_drifts 165 = .ok (.iconst 0, 1) := by decide +kernel
theorem dX11_drifts_166 : decode cX11_drifts 166 = .ok (.goto 6, 3) := by decide +kernel
theorem dX11_drifts_169 : decode cX11_drifts 169 = .ok (.sipush (-2000), 3) := by decide +kernel
theorem dX11_drifts_172 : decode cX11_drifts 172 = .ok (.ireturn, 1) := by decide +kernel
theorem dX11_drifts_173 : decode cX11_drifts 173 = .ok (.iload_n 3, 1) := by decide +kernel
theorem dX11_drifts_174 : decode cX11_drifts 174 = .ok (.ifCond .ne 13, 3) := by decide +kernel
theorem dX11_drifts_177 : decode cX11_drifts 177 = .ok (.iload 5, 2) := by decide +kernel
theorem dX11_drifts_179 : decode cX11_drifts 179 = .ok (.iload 4, 2) := by decide +kernel
theorem dX11_drifts_181 : decode cX11_drifts 181 = .ok (.isub, 1) := by decide +kernel
theorem dX11_drifts_182 : decode cX11_drifts 182 = .ok (.iconst 1, 1) := by decide +kernel
theorem dX11_drifts_183 : decode cX11_drifts 183 = .ok (.iadd, 1) := by decide +kernel
theorem dX11_drifts_184 : decode cX11_drifts 184 = .ok (.goto 15, 3) := by decide +kernel
theorem dX11_drifts_187 : decode cX11_drifts 187 = .ok (.iload_n 3, 1) := by decide +kernel
theorem dX11_drifts_188 : decode cX11_drifts 188 = .ok (.iconst 1, 1) := by decide +kernel
theorem dX11_drifts_189 : decode cX11_drifts 189 = .ok (.if_icmp .ne 8, 3) := by decide +kernel
theorem dX11_drifts_192 : decode cX11_drifts 192 = .ok (.iload 4, 2) := by decide +kernel
theorem dX11_drifts_194 : decode cX11_drifts 194 = .ok (.goto 5, 3) := by decide +kernel
theorem dX11_drifts_197 : decode cX11_drifts 197 = .ok (.iload 5, 2) := by decide +kernel
theorem dX11_drifts_199 : decode cX11_drifts 199 = .ok (.ireturn, 1) := by decide +kernel
noncomputable def f11_drifts_j199 (k0_j199 : Int32) (s11_j199 : OS) : Option (Int32) := some k0_j199
noncomputable def f11_drifts_j172 (k0_j172 : Int32) (s11_j172 : OS) : Option (Int32) := some k0_j172
noncomputable def f11_drifts_j31 (s11_j31 : OS) : Option (Int32) := some ((-2000 : Int32))
noncomputable def f11_drifts_j148 (v1_j148 : Int32) (v2_j148 : Int32) (v3_j148 : Int32) (v4_j148 : Int32) (v5_j148 : Int32) (v6_j148 : Int32) (s11_j148 : OS) : Option ((Int32 × Int32 × Int32) ⊕ (Int32)) := nm (v6_j148 + (1 : Int32)) fun n_148 => some (Sum.inl (v4_j148, v5_j148, n_148))
noncomputable def f11_drifts_j146 (v1_j146 : Int32) (v2_j146 : Int32) (v3_j146 : Int32) (v4_j146 : Int32) (v6_j146 : Int32) (k0_j146 : Int32) (s11_j146 : OS) : Option ((Int32 × Int32 × Int32) ⊕ (Int32)) := f11_drifts_j148 v1_j146 v2_j146 v3_j146 v4_j146 k0_j146 v6_j146 s11_j146
noncomputable def f11_drifts_j130 (v1_j130 : Int32) (v2_j130 : Int32) (v3_j130 : Int32) (v5_j130 : Int32) (v6_j130 : Int32) (v8_j130 : Int32) (k0_j130 : Int32) (s11_j130 : OS) : Option ((Int32 × Int32 × Int32) ⊕ (Int32)) := if v5_j130 ≤ v8_j130 then (f11_drifts_j146 v1_j130 v2_j130 v3_j130 k0_j130 v6_j130 v5_j130 s11_j130) else (f11_drifts_j146 v1_j130 v2_j130 v3_j130 k0_j130 v6_j130 v8_j130 s11_j130)
noncomputable def f11_drifts_l48 (v1_i48 : Int32) (v2_i48 : Int32) (v3_i48 : Int32) (s11_i48 : OS) : Int32 × Int32 × Int32 → Option ((Int32 × Int32 × Int32) ⊕ (Int32)) := fun t_48 => if (s11_i48.1 0 7) ≤ t_48.2.2 then (Option.map Sum.inr (if t_48.1 ≤ t_48.2.1 then (if v3_i48 = 0 then (f11_drifts_j199 (((t_48.2.1 - t_48.1) + (1 : Int32))) s11_i48) else (if v3_i48 = (1 : Int32) then (f11_drifts_j199 t_48.1 s11_i48) else (f11_drifts_j199 t_48.2.1 s11_i48))) else (if v3_i48 = 0 then (f11_drifts_j172 ((0 : Int32)) s11_i48) else (f11_drifts_j172 ((-2000 : Int32)) s11_i48)))) else (chk (inb t_48.2.2 200) (nm (s11_i48.1 65 t_48.2.2.toNatClampNeg) fun y_63 => if y_63 = v1_i48 then (chk (inb t_48.2.2 200) (nm (s11_i48.1 66 t_48.2.2.toNatClampNeg) fun y_74 => if y_74 ≤ v2_i48 then (chk (inb t_48.2.2 200) (nm (s11_i48.1 67 t_48.2.2.toNatClampNeg) fun y_88 => chk (inb t_48.2.2 200) (nm (s11_i48.1 68 t_48.2.2.toNatClampNeg) fun y_95 => nm ((y_88 - y_95)) fun n_97 => chk (inb t_48.2.2 200) (nm (s11_i48.1 67 t_48.2.2.toNatClampNeg) fun y_105 => chk (inb t_48.2.2 200) (nm (s11_i48.1 68 t_48.2.2.toNatClampNeg) fun y_112 => nm ((y_105 + y_112)) fun n_114 => if n_97 ≤ t_48.1 then (f11_drifts_j130 v1_i48 v2_i48 v3_i48 t_48.2.1 t_48.2.2 n_114 t_48.1 s11_i48) else (f11_drifts_j130 v1_i48 v2_i48 v3_i48 t_48.2.1 t_48.2.2 n_114 n_97 s11_i48)))))) else (f11_drifts_j148 v1_i48 v2_i48 v3_i48 t_48.1 t_48.2.1 t_48.2.2 s11_i48))) else (f11_drifts_j148 v1_i48 v2_i48 v3_i48 t_48.1 t_48.2.1 t_48.2.2 s11_i48)))
noncomputable def f11_drifts (a1 : Int32) (a2 : Int32) (a3 : Int32) (s11 : OS) : Option (Int32) := Option.bind (f11_lies ((a1).toInt64) ((0 : Int64)) ((3 : Int64))) fun q_6 => if q_6 = 0 then (f11_drifts_j31 s11) else (Option.bind (f11_isDay a2) fun q_13 => if q_13 = 0 then (f11_drifts_j31 s11) else (Option.bind (f11_lies ((a3).toInt64) ((0 : Int64)) ((2 : Int64))) fun q_25 => if q_25 = 0 then (f11_drifts_j31 s11) else (loop (f11_drifts_l48 a1 a2 a3 s11) ((-1000 : Int32), (1000 : Int32), (0 : Int32)))))
set_option maxHeartbeats 4000000 in
set_option maxRecDepth 100000 in
theorem m11_drifts (l : Launch) (D : va_G) (ad : Nat → Nat) (cy : Nat → ClassId) (sz : Nat) (s11 : OS) (a1 : Int32) (a2 : Int32) (a3 : Int32) (r : Int32) (h : f11_drifts a1 a2 a3 s11 = some r) : Met l yX11_drifts (wsOf yX11_drifts cX11_drifts 9 (some .int)) (rmL 2) (va_Pc ([.ref (ad 0), .int a1, .int a2, .int a3] : List Value) (PreG D cy (cellsM ad cy s11) sz NM)) (QcI D ad 66 (cellsM ad cy s11) (r) sz) 0 0 (Afr ad 66 sz) := by
  refine metG (own := RX11) (by decide) rfl (Nat.le_of_ble_eq_true rfl) fstM ?_ sz
  intro p e s m below meth c ls C0 hw hl
  obtain ⟨hx, hb, hml, hown, hts, hr, hlk, hK, hN⟩ := C0
  have hl : lv_has ls 9 [(0, .ref (ad 0)), (1, .int a1), (2, .int a2), (3, .int a3)] := hl
  generalize hQ : MQ below (QcI D ad 66 (cellsM ad cy s11) (r) s.heap.size) ([.ref (ad 0), .int a1, .int a2, .int a3] : List Value).toArray s 0 0 (Afr ad 66 s.heap.size) = Q
  obtain ⟨H, hH⟩ : ∃ H : Heap, H = s.heap := ⟨_, rfl⟩
  obtain ⟨locs, hlc⟩ : ∃ L : List Loc, L = [] := ⟨_, rfl⟩
  have hw : Wd D (cellsM ad cy s11) (Afr ad 66 s.heap.size) s.heap H locs := by rw [hH, hlc]; exact hw
  suffices h0 : W p l e (rmL 2) s m ([.ref (ad 0), .int a1, .int a2, .int a3] : List Value).toArray below meth c H locs 0 0 Q (F0 m 0 ls []) by rw [hH, hlc] at h0; exact h0
  clear hH hlc
  unfold f11_drifts at h
  have hJ_199 : ∀ (k0_j199 : Int32) (H : Heap) (locs : List Loc) (ls : Array Slot), f11_drifts_j199 k0_j199 s11 = some r → Wd D (cellsM ad cy s11) (Afr ad 66 s.heap.size) s.heap H locs → lv_has ls 9 [] → W p l e (rmL 2) s m ([.ref (ad 0), .int a1, .int a2, .int a3] : List Value).toArray below meth c H locs 0 0 Q (F0 m 199 ls [.int k0_j199]) := by
    intro k0_j199 H locs ls h hw hl
    unfold f11_drifts_j199 at h
    have h := Option.some.inj h
    subst h
    rw [← hQ]
    exact retI hx hb hr hlk hw rfl dX11_drifts_199
  have hJ_172 : ∀ (k0_j172 : Int32) (H : Heap) (locs : List Loc) (ls : Array Slot), f11_drifts_j172 k0_j172 s11 = some r → Wd D (cellsM ad cy s11) (Afr ad 66 s.heap.size) s.heap H locs → lv_has ls 9 [] → W p l e (rmL 2) s m ([.ref (ad 0), .int a1, .int a2, .int a3] : List Value).toArray below meth c H locs 0 0 Q (F0 m 172 ls [.int k0_j172]) := by
    intro k0_j172 H locs ls h hw hl
    unfold f11_drifts_j172 at h
    have h := Option.some.inj h
    subst h
    rw [← hQ]
    exact retI hx hb hr hlk hw rfl dX11_drifts_172
  have hJ_31 : ∀  (H : Heap) (locs : List Loc) (ls : Array Slot), f11_drifts_j31 s11 = some r → Wd D (cellsM ad cy s11) (Afr ad 66 s.heap.size) s.heap H locs → lv_has ls 9 [] → W p l e (rmL 2) s m ([.ref (ad 0), .int a1, .int a2, .int a3] : List Value).toArray below meth c H locs 0 0 Q (F0 m 31 ls []) := by
    intro  H locs ls h hw hl
    unfold f11_drifts_j31 at h
    refine lv_sipush (v := (-2000)) hx hb dX11_drifts_31 (by decide) ?_
    have h := Option.some.inj h
    subst h
    rw [← hQ]
    exact retI hx hb hr hlk hw rfl dX11_drifts_34
  refine lv_iload_n hx hb dX11_drifts_0 rfl (lv_at hl 1 rfl) ?_
  refine lv_i2l hx hb dX11_drifts_1 rfl ?_
  refine lv_lconst (v := 0) hx hb dX11_drifts_2 (by decide) ?_
  refine lv_ldc2 (v := 3) hx hb hown (hts _ (wd_8 (w := .constantLong RX11 448 3) (i := 85) (by decide +kernel) rfl)) dX11_drifts_3 ?_
  obtain ⟨q_6, h_6, h⟩ := bnd_e h
  have pg_6 := preG (av := [.long ((a1).toInt64), .long ((0 : Int64)), .long ((3 : Int64))]) hK hw.1 hw.2.1 NM_keep NM_blind
  refine endI (mc := 0) (ms := 0) (va_runS (As := [.long ((a1).toInt64), .long ((0 : Int64)), .long ((3 : Int64))]) (rest := []) ⟨hx, hb, hml, hown, hts⟩ (m11_lies l D ad cy H.size s11 ((a1).toInt64) ((0 : Int64)) ((3 : Int64)) q_6 h_6) (wX11_215 0 hts ⟨Nat.le_of_ble_eq_true rfl, Nat.le_of_ble_eq_true rfl⟩) pg_6 rfl rfl hl.1 rfl (lv_room (Nat.le_of_ble_eq_true rfl)) dX11_drifts_6 ⟨Nat.le_refl _, Nat.le_refl _⟩) hw.2.2 (afr_in hw.2.2) (fun H locs hw => ?_)
  refine lv_if_eq (tgt := 31) hx hb dX11_drifts_9 (by decide) (fun c_9 => ?_) (fun c_9 => ?_)
  · have h := ite_t c_9 h
    exact hJ_31  H locs ls h hw (lv_sub hl [] rfl)
  · have h := ite_f c_9 h
    refine lv_iload_n hx hb dX11_drifts_12 rfl (lv_at hl 2 rfl) ?_
    obtain ⟨q_13, h_13, h⟩ := bnd_e h
    have pg_13 := preG (av := [.int a2]) hK hw.1 hw.2.1 NM_keep NM_blind
    refine endI (mc := 0) (ms := 0) (va_runS (As := [.int a2]) (rest := []) ⟨hx, hb, hml, hown, hts⟩ (m11_isDay l D ad cy H.size s11 a2 q_13 h_13) (wX11_391 1 hts ⟨Nat.le_of_ble_eq_true rfl, Nat.le_of_ble_eq_true rfl⟩) pg_13 rfl rfl hl.1 rfl (lv_room (Nat.le_of_ble_eq_true rfl)) dX11_drifts_13 ⟨Nat.le_refl _, Nat.le_refl _⟩) hw.2.2 (afr_in hw.2.2) (fun H locs hw => ?_)
    refine lv_if_eq (tgt := 31) hx hb dX11_drifts_16 (by decide) (fun c_16 => ?_) (fun c_16 => ?_)
    · have h := ite_t c_16 h
      exact hJ_31  H locs ls h hw (lv_sub hl [] rfl)
    · have h := ite_f c_16 h
      refine lv_iload_n hx hb dX11_drifts_19 rfl (lv_at hl 3 rfl) ?_
      refine lv_i2l hx hb dX11_drifts_20 rfl ?_
      refine lv_lconst (v := 0) hx hb dX11_drifts_21 (by decide) ?_
      refine lv_ldc2 (v := 2) hx hb hown (hts _ (wd_7 (w := .constantLong RX11 271 2) (i := 143) (by decide +kernel) rfl)) dX11_drifts_22 ?_
      obtain ⟨q_25, h_25, h⟩ := bnd_e h
      have pg_25 := preG (av := [.long ((a3).toInt64), .long ((0 : Int64)), .long ((2 : Int64))]) hK hw.1 hw.2.1 NM_keep NM_blind
      refine endI (mc := 0) (ms := 0) (va_runS (As := [.long ((a3).toInt64), .long ((0 : Int64)), .long ((2 : Int64))]) (rest := []) ⟨hx, hb, hml, hown, hts⟩ (m11_lies l D ad cy H.size s11 ((a3).toInt64) ((0 : Int64)) ((2 : Int64)) q_25 h_25) (wX11_215 0 hts ⟨Nat.le_of_ble_eq_true rfl, Nat.le_of_ble_eq_true rfl⟩) pg_25 rfl rfl hl.1 rfl (lv_room (Nat.le_of_ble_eq_true rfl)) dX11_drifts_25 ⟨Nat.le_refl _, Nat.le_refl _⟩) hw.2.2 (afr_in hw.2.2) (fun H locs hw => ?_)
      refine lv_if_ne (tgt := 35) hx hb dX11_drifts_28 (by decide) (fun c_28 => ?_) (fun c_28 => ?_)
      · have h := ite_f c_28 h
        refine lv_sipush (v := (-1000)) hx hb dX11_drifts_35 (by decide) ?_
        refine lv_istore (lv' := [(4, .int ((-1000 : Int32))), (0, .ref (ad 0)), (1, .int a1), (2, .int a2), (3, .int a3)]) hx hb dX11_drifts_38 hl (by decide) rfl (fun ls hl => ?_)
        refine lv_sipush (v := 1000) hx hb dX11_drifts_40 (by decide) ?_
        refine lv_istore (lv' := [(5, .int ((1000 : Int32))), (4, .int ((-1000 : Int32))), (0, .ref (ad 0)), (1, .int a1), (2, .int a2), (3, .int a3)]) hx hb dX11_drifts_43 hl (by decide) rfl (fun ls hl => ?_)
        refine lv_iconst (v := 0) hx hb dX11_drifts_45 (by decide) ?_
        refine lv_istore (lv' := [(6, .int ((0 : Int32))), (5, .int ((1000 : Int32))), (4, .int ((-1000 : Int32))), (0, .ref (ad 0)), (1, .int a1), (2, .int a2), (3, .int a3)]) hx hb dX11_drifts_46 hl (by decide) rfl (fun ls hl => ?_)
        obtain ⟨n_48, hn_48⟩ := loop_e h
        have hL_48 : ∀ (n : Nat) (t_48 : Int32 × Int32 × Int32) (H : Heap) (locs : List Loc) (ls : Array Slot), loopN (f11_drifts_l48 a1 a2 a3 s11) n t_48 = some r → Wd D (cellsM ad cy s11) (Afr ad 66 s.heap.size) s.heap H locs → lv_has ls 9 [(4, .int t_48.1), (5, .int t_48.2.1), (6, .int t_48.2.2), (1, .int a1), (2, .int a2), (3, .int a3), (0, .ref (ad 0))] → W p l e (rmL 2) s m ([.ref (ad 0), .int a1, .int a2, .int a3] : List Value).toArray below meth c H locs 0 0 Q (F0 m 48 ls []) := by
          intro n
          induction n with
          | zero => intro t_48 H locs ls hn; cases hn
          | succ n ih_48 =>
            intro t_48 H locs ls hn hw hl
            obtain ⟨x_48, h, hx_48⟩ := loopN_e hn
            unfold f11_drifts_l48 at h
            have hJ_148 : ∀ (v4_j148 : Int32) (v5_j148 : Int32) (v6_j148 : Int32) (H : Heap) (locs : List Loc) (ls : Array Slot), f11_drifts_j148 a1 a2 a3 v4_j148 v5_j148 v6_j148 s11 = some x_48 → Wd D (cellsM ad cy s11) (Afr ad 66 s.heap.size) s.heap H locs → lv_has ls 9 [(0, .ref (ad 0)), (1, .int a1), (2, .int a2), (3, .int a3), (4, .int v4_j148), (5, .int v5_j148), (6, .int v6_j148)] → W p l e (rmL 2) s m ([.ref (ad 0), .int a1, .int a2, .int a3] : List Value).toArray below meth c H locs 0 0 Q (F0 m 148 ls []) := by
              intro v4_j148 v5_j148 v6_j148 H locs ls h hw hl
              unfold f11_drifts_j148 at h
              obtain ⟨n_148, e_148, h⟩ := nam_e h
              refine lv_iinc (v := n_148) (lv' := [(6, .int n_148), (0, .ref (ad 0)), (1, .int a1), (2, .int a2), (3, .int a3), (4, .int v4_j148), (5, .int v5_j148)]) hx hb dX11_drifts_148 hl (k := 6) rfl (by rw [e_148]; rfl) (by decide) rfl (fun ls hl => ?_)
              refine lv_goto (tgt := 48) hx hb dX11_drifts_151 (by decide) ?_
              exact ih_48 (v4_j148, v5_j148, n_148) H locs ls (nx_l hx_48 h) hw (lv_sub hl [5, 6, 0, 2, 3, 4, 1] rfl)
            have hJ_146 : ∀ (v4_j146 : Int32) (v6_j146 : Int32) (k0_j146 : Int32) (H : Heap) (locs : List Loc) (ls : Array Slot), f11_drifts_j146 a1 a2 a3 v4_j146 v6_j146 k0_j146 s11 = some x_48 → Wd D (cellsM ad cy s11) (Afr ad 66 s.heap.size) s.heap H locs → lv_has ls 9 [(0, .ref (ad 0)), (1, .int a1), (2, .int a2), (3, .int a3), (4, .int v4_j146), (6, .int v6_j146)] → W p l e (rmL 2) s m ([.ref (ad 0), .int a1, .int a2, .int a3] : List Value).toArray below meth c H locs 0 0 Q (F0 m 146 ls [.int k0_j146]) := by
              intro v4_j146 v6_j146 k0_j146 H locs ls h hw hl
              unfold f11_drifts_j146 at h
              refine lv_istore (lv' := [(5, .int k0_j146), (0, .ref (ad 0)), (1, .int a1), (2, .int a2), (3, .int a3), (4, .int v4_j146), (6, .int v6_j146)]) hx hb dX11_drifts_146 hl (by decide) rfl (fun ls hl => ?_)
              exact hJ_148 v4_j146 k0_j146 v6_j146 H locs ls h hw (lv_sub hl [1, 2, 3, 4, 5, 0, 6] rfl)
            have hJ_130 : ∀ (v5_j130 : Int32) (v6_j130 : Int32) (v8_j130 : Int32) (k0_j130 : Int32) (H : Heap) (locs : List Loc) (ls : Array Slot), f11_drifts_j130 a1 a2 a3 v5_j130 v6_j130 v8_j130 k0_j130 s11 = some x_48 → Wd D (cellsM ad cy s11) (Afr ad 66 s.heap.size) s.heap H locs → lv_has ls 9 [(0, .ref (ad 0)), (1, .int a1), (2, .int a2), (3, .int a3), (5, .int v5_j130), (6, .int v6_j130), (8, .int v8_j130)] → W p l e (rmL 2) s m ([.ref (ad 0), .int a1, .int a2, .int a3] : List Value).toArray below meth c H locs 0 0 Q (F0 m 130 ls [.int k0_j130]) := by
              intro v5_j130 v6_j130 v8_j130 k0_j130 H locs ls h hw hl
              unfold f11_drifts_j130 at h
              refine lv_istore (lv' := [(4, .int k0_j130), (0, .ref (ad 0)), (1, .int a1), (2, .int a2), (3, .int a3), (5, .int v5_j130), (6, .int v6_j130), (8, .int v8_j130)]) hx hb dX11_drifts_130 hl (by decide) rfl (fun ls hl => ?_)
              refine lv_iload hx hb dX11_drifts_132 (lv_at hl 7 rfl) ?_
              refine lv_iload hx hb dX11_drifts_134 (lv_at hl 5 rfl) ?_
              refine lv_icmp_ge (tgt := 144) hx hb dX11_drifts_136 (by decide) (fun c_136 => ?_) (fun c_136 => ?_)
              · have h := ite_t c_136 h
                refine lv_iload hx hb dX11_drifts_144 (lv_at hl 5 rfl) ?_
                exact hJ_146 k0_j130 v6_j130 v5_j130 H locs ls h hw (lv_sub hl [1, 2, 3, 4, 0, 6] rfl)
              · have h := ite_f c_136 h
                refine lv_iload hx hb dX11_drifts_139 (lv_at hl 7 rfl) ?_
                refine lv_goto (tgt := 146) hx hb dX11_drifts_141 (by decide) ?_
                exact hJ_146 k0_j130 v6_j130 v8_j130 H locs ls h hw (lv_sub hl [1, 2, 3, 4, 0, 6] rfl)
            refine lv_iload hx hb dX11_drifts_48 (lv_at hl 2 rfl) ?_
            refine lv_aload_n hx hb dX11_drifts_50 rfl (lv_at hl 6 rfl) ?_
            refine gX11_445 hx hb hts hown hK hw dX11_drifts_51 ?_
            refine lv_icmp_ge (tgt := 154) hx hb dX11_drifts_54 (by decide) (fun c_54 => ?_) (fun c_54 => ?_)
            · have h := ite_t c_54 h
              have h := nx_m hx_48 h
              refine lv_iload hx hb dX11_drifts_154 (lv_at hl 0 rfl) ?_
              refine lv_iload hx hb dX11_drifts_156 (lv_at hl 1 rfl) ?_
              refine lv_icmp_le (tgt := 173) hx hb dX11_drifts_158 (by decide) (fun c_158 => ?_) (fun c_158 => ?_)
              · have h := ite_t c_158 h
                refine lv_iload_n hx hb dX11_drifts_173 rfl (lv_at hl 5 rfl) ?_
                refine lv_if_ne (tgt := 187) hx hb dX11_drifts_174 (by decide) (fun c_174 => ?_) (fun c_174 => ?_)
                · have h := ite_f c_174 h
                  refine lv_iload_n hx hb dX11_drifts_187 rfl (lv_at hl 5 rfl) ?_
                  refine lv_iconst (v := 1) hx hb dX11_drifts_188 (by decide) ?_
                  refine lv_icmp_ne (tgt := 197) hx hb dX11_drifts_189 (by decide) (fun c_189 => ?_) (fun c_189 => ?_)
                  · have h := ite_f c_189 h
                    refine lv_iload hx hb dX11_drifts_197 (lv_at hl 1 rfl) ?_
                    exact hJ_199 t_48.2.1 H locs ls h hw (lv_sub hl [] rfl)
                  · have h := ite_t c_189 h
                    refine lv_iload hx hb dX11_drifts_192 (lv_at hl 0 rfl) ?_
                    refine lv_goto (tgt := 199) hx hb dX11_drifts_194 (by decide) ?_
                    exact hJ_199 t_48.1 H locs ls h hw (lv_sub hl [] rfl)
                · have h := ite_t c_174 h
                  refine lv_iload hx hb dX11_drifts_177 (lv_at hl 1 rfl) ?_
                  refine lv_iload hx hb dX11_drifts_179 (lv_at hl 0 rfl) ?_
                  refine lv_isub hx hb dX11_drifts_181 ?_
                  refine lv_iconst (v := 1) hx hb dX11_drifts_182 (by decide) ?_
                  refine lv_iadd hx hb dX11_drifts_183 ?_
                  refine lv_goto (tgt := 199) hx hb dX11_drifts_184 (by decide) ?_
                  exact hJ_199 (((t_48.2.1 - t_48.1) + (1 : Int32))) H locs ls h hw (lv_sub hl [] rfl)
              · have h := ite_f c_158 h
                refine lv_iload_n hx hb dX11_drifts_161 rfl (lv_at hl 5 rfl) ?_
                refine lv_if_ne (tgt := 169) hx hb dX11_drifts_162 (by decide) (fun c_162 => ?_) (fun c_162 => ?_)
                · have h := ite_f c_162 h
                  refine lv_sipush (v := (-2000)) hx hb dX11_drifts_169 (by decide) ?_
                  exact hJ_172 ((-2000 : Int32)) H locs ls h hw (lv_sub hl [] rfl)
                · have h := ite_t c_162 h
                  refine lv_iconst (v := 0) hx hb dX11_drifts_165 (by decide) ?_
                  refine lv_goto (tgt := 172) hx hb dX11_drifts_166 (by decide) ?_
                  exact hJ_172 ((0 : Int32)) H locs ls h hw (lv_sub hl [] rfl)
            · have h := ite_f c_54 h
              refine lv_aload_n hx hb dX11_drifts_57 rfl (lv_at hl 6 rfl) ?_
              refine gX11_139 hx hb hts hown hK hw dX11_drifts_58 ?_
              refine lv_iload hx hb dX11_drifts_61 (lv_at hl 2 rfl) ?_
              obtain ⟨hi_63, h⟩ := chk_e h
              obtain ⟨y_63, e_63, h⟩ := nam_e h
              refine lM43 hx hb hK hw hi_63 e_63 dX11_drifts_63 ?_
              refine lv_iload_n hx hb dX11_drifts_64 rfl (lv_at hl 3 rfl) ?_
              refine lv_icmp_ne (tgt := 148) hx hb dX11_drifts_65 (by decide) (fun c_65 => ?_) (fun c_65 => ?_)
              · have h := ite_f c_65 h
                exact hJ_148 t_48.1 t_48.2.1 t_48.2.2 H locs ls h hw (lv_sub hl [6, 3, 4, 5, 0, 1, 2] rfl)
              · have h := ite_t c_65 h
                refine lv_aload_n hx hb dX11_drifts_68 rfl (lv_at hl 6 rfl) ?_
                refine gX11_142 hx hb hts hown hK hw dX11_drifts_69 ?_
                refine lv_iload hx hb dX11_drifts_72 (lv_at hl 2 rfl) ?_
                obtain ⟨hi_74, h⟩ := chk_e h
                obtain ⟨y_74, e_74, h⟩ := nam_e h
                refine lM44 hx hb hK hw hi_74 e_74 dX11_drifts_74 ?_
                refine lv_iload_n hx hb dX11_drifts_75 rfl (lv_at hl 4 rfl) ?_
                refine lv_icmp_le (tgt := 82) hx hb dX11_drifts_76 (by decide) (fun c_76 => ?_) (fun c_76 => ?_)
                · have h := ite_t c_76 h
                  refine lv_aload_n hx hb dX11_drifts_82 rfl (lv_at hl 6 rfl) ?_
                  refine gX11_145 hx hb hts hown hK hw dX11_drifts_83 ?_
                  refine lv_iload hx hb dX11_drifts_86 (lv_at hl 2 rfl) ?_
                  obtain ⟨hi_88, h⟩ := chk_e h
                  obtain ⟨y_88, e_88, h⟩ := nam_e h
                  refine lM45 hx hb hK hw hi_88 e_88 dX11_drifts_88 ?_
                  refine lv_aload_n hx hb dX11_drifts_89 rfl (lv_at hl 6 rfl) ?_
                  refine gX11_148 hx hb hts hown hK hw dX11_drifts_90 ?_
                  refine lv_iload hx hb dX11_drifts_93 (lv_at hl 2 rfl) ?_
                  obtain ⟨hi_95, h⟩ := chk_e h
                  obtain ⟨y_95, e_95, h⟩ := nam_e h
                  refine lM46 hx hb hK hw hi_95 e_95 dX11_drifts_95 ?_
                  refine lv_isub hx hb dX11_drifts_96 ?_
                  obtain ⟨n_97, e_97, h⟩ := nam_e h
                  refine topI e_97 ?_
                  refine lv_istore (lv' := [(7, .int n_97), (4, .int t_48.1), (5, .int t_48.2.1), (6, .int t_48.2.2), (1, .int a1), (2, .int a2), (3, .int a3), (0, .ref (ad 0))]) hx hb dX11_drifts_97 hl (by decide) rfl (fun ls hl => ?_)
                  refine lv_aload_n hx hb dX11_drifts_99 rfl (lv_at hl 7 rfl) ?_
                  refine gX11_145 hx hb hts hown hK hw dX11_drifts_100 ?_
                  refine lv_iload hx hb dX11_drifts_103 (lv_at hl 3 rfl) ?_
                  obtain ⟨hi_105, h⟩ := chk_e h
                  obtain ⟨y_105, e_105, h⟩ := nam_e h
                  refine lM45 hx hb hK hw hi_105 e_105 dX11_drifts_105 ?_
                  refine lv_aload_n hx hb dX11_drifts_106 rfl (lv_at hl 7 rfl) ?_
                  refine gX11_148 hx hb hts hown hK hw dX11_drifts_107 ?_
                  refine lv_iload hx hb dX11_drifts_110 (lv_at hl 3 rfl) ?_
                  obtain ⟨hi_112, h⟩ := chk_e h
                  obtain ⟨y_112, e_112, h⟩ := nam_e h
                  refine lM46 hx hb hK hw hi_112 e_112 dX11_drifts_112 ?_
                  refine lv_iadd hx hb dX11_drifts_113 ?_
                  obtain ⟨n_114, e_114, h⟩ := nam_e h
                  refine topI e_114 ?_
                  refine lv_istore (lv' := [(8, .int n_114), (7, .int n_97), (4, .int t_48.1), (5, .int t_48.2.1), (6, .int t_48.2.2), (1, .int a1), (2, .int a2), (3, .int a3), (0, .ref (ad 0))]) hx hb dX11_drifts_114 hl (by decide) rfl (fun ls hl => ?_)
                  refine lv_iload hx hb dX11_drifts_116 (lv_at hl 1 rfl) ?_
                  refine lv_iload hx hb dX11_drifts_118 (lv_at hl 2 rfl) ?_
                  refine lv_icmp_le (tgt := 128) hx hb dX11_drifts_120 (by decide) (fun c_120 => ?_) (fun c_120 => ?_)
                  · have h := ite_t c_120 h
                    refine lv_iload hx hb dX11_drifts_128 (lv_at hl 2 rfl) ?_
                    exact hJ_130 t_48.2.1 t_48.2.2 n_114 t_48.1 H locs ls h hw (lv_sub hl [8, 5, 6, 7, 3, 4, 0] rfl)
                  · have h := ite_f c_120 h
                    refine lv_iload hx hb dX11_drifts_123 (lv_at hl 1 rfl) ?_
                    refine lv_goto (tgt := 130) hx hb dX11_drifts_125 (by decide) ?_
                    exact hJ_130 t_48.2.1 t_48.2.2 n_114 n_97 H locs ls h hw (lv_sub hl [8, 5, 6, 7, 3, 4, 0] rfl)
                · have h := ite_f c_76 h
                  refine lv_goto (tgt := 148) hx hb dX11_drifts_79 (by decide) ?_
                  exact hJ_148 t_48.1 t_48.2.1 t_48.2.2 H locs ls h hw (lv_sub hl [6, 3, 4, 5, 0, 1, 2] rfl)
        exact hL_48 n_48 ((-1000 : Int32), (1000 : Int32), (0 : Int32)) H locs ls hn_48 hw (lv_sub hl [2, 1, 0, 4, 5, 6, 3] rfl)
      · have h := ite_t c_28 h
        exact hJ_31  H locs ls h hw (lv_sub hl [] rfl)
theorem dX11_push_0 : decode cX11_push 0 = .ok (.bipush 24, 2) := by decide +kernel
theorem dX11_push_2 : decode cX11_push 2 = .ok (.istore_n 2, 1) := by decide +kernel
theorem dX11_push_3 : decode cX11_push 3 = .ok (.iload_n 2, 1) := by decide +kernel
theorem dX11_push_4 : decode cX11_push 4 = .ok (.ifCond .lt 32, 3) := by decide +kernel
theorem dX11_push_7 : decode cX11_push 7 = .ok (.aload_n 0, 1) := by decide +kernel
theorem dX11_push_8 : decode cX11_push 8 = .ok (.getfield 7, 3) := by decide +kernel
theorem dX11_push_11 : decode cX11_push 11 = .ok (.aload_n 0, 1) := by decide +kernel
theorem dX11_push_12 : decode cX11_push 12 = .ok (.getfield 228, 3) := by decide +kernel
theorem dX11_push_15 : decode cX11_push 15 = .ok (.iload_n 1, 1) := by decide +kernel
theorem dX11_push_16 : decode cX11_push 16 = .ok (.iload_n 2, 1) := by decide +kernel
theorem dX11_push_17 : decode cX11_push 17 = .ok (.ishr, 1) := by decide +kernel
theorem dX11_push_18 : decode cX11_push 18 = .ok (.i2b, 1) := by decide +kernel
theorem dX11_push_19 : decode cX11_push 19 = .ok (.bastore, 1) := by decide +kernel
theorem dX11_push_20 : decode cX11_push 20 = .ok (.aload_n 0, 1) := by decide +kernel
theorem dX11_push_21 : decode cX11_push 21 = .ok (.dup, 1) := by decide +kernel
theorem dX11_push_22 : decode cX11_push 22 = .ok (.getfield 228, 3) := by decide +kernel
theorem dX11_push_25 : decode cX11_push 25 = .ok (.iconst 1, 1) := by decide +kernel
theorem dX11_push_26 : decode cX11_push 26 = .ok (.iadd, 1) := by decide +kernel
theorem dX11_push_27 : decode cX11_push 27 = .ok (.putfield 228, 3) := by decide +kernel
theorem dX11_push_30 : decode cX11_push 30 = .ok (.iinc 2 (-8), 3) := by decide +kernel
theorem dX11_push_33 : decode cX11_push 33 = .ok (.goto (-30), 3) := by decide +kernel
theorem dX11_push_36 : decode cX11_push 36 = .ok (.return_, 1) := by decide +kernel
noncomputable def f11_push_l3 (v1_i3 : Int32) : Int32 × OS → Option ((Int32 × OS) ⊕ (OS)) := fun t_3 => if t_3.1 < 0 then (Option.map Sum.inr (some t_3.2)) else (chk (inb ((t_3.2.1 0 1)) 400) (nm (wI t_3.2 1 ((t_3.2.1 0 1)).toNatClampNeg (vp_nar .byte (((v1_i3 >>> (t_3.1 &&& 31))).toInt8.toInt32))) fun s11_19 => nm (wI s11_19 0 1 (((s11_19.1 0 1) + (1 : Int32)))) fun s11_27 => nm (t_3.1 + (-8 : Int32)) fun n_30 => some (Sum.inl (n_30, s11_27))))
noncomputable def f11_push (a1 : Int32) (s11 : OS) : Option (OS) := loop (f11_push_l3 a1) ((24 : Int32), s11)
set_option maxHeartbeats 4000000 in
set_option maxRecDepth 100000 in
theorem m11_push (l : Launch) (D : va_G) (ad : Nat → Nat) (cy : Nat → ClassId) (sz : Nat) (s11 : OS) (a1 : Int32) (r : OS) (h : f11_push a1 s11 = some r) : Met l yX11_push (wsOf yX11_push cX11_push 3 none) (rmL 0) (va_Pc ([.ref (ad 0), .int a1] : List Value) (PreG D cy (cellsM ad cy s11) sz NM)) (QcV D ad 66 (cellsM ad cy r) sz) 0 0 (Afr ad 66 sz) := by
  refine metG (own := RX11) (by decide) rfl (Nat.le_of_ble_eq_true rfl) fstM ?_ sz
  intro p e s m below meth c ls C0 hw hl
  obtain ⟨hx, hb, hml, hown, hts, hr, hlk, hK, hN⟩ := C0
  have hl : lv_has ls 3 [(0, .ref (ad 0)), (1, .int a1)] := hl
  generalize hQ : MQ below (QcV D ad 66 (cellsM ad cy r) s.heap.size) ([.ref (ad 0), .int a1] : List Value).toArray s 0 0 (Afr ad 66 s.heap.size) = Q
  obtain ⟨H, hH⟩ : ∃ H : Heap, H = s.heap := ⟨_, rfl⟩
  obtain ⟨locs, hlc⟩ : ∃ L : List Loc, L = [] := ⟨_, rfl⟩
  have hw : Wd D (cellsM ad cy s11) (Afr ad 66 s.heap.size) s.heap H locs := by rw [hH, hlc]; exact hw
  suffices h0 : W p l e (rmL 0) s m ([.ref (ad 0), .int a1] : List Value).toArray below meth c H locs 0 0 Q (F0 m 0 ls []) by rw [hH, hlc] at h0; exact h0
  clear hH hlc
  unfold f11_push at h
  refine lv_bipush (v := 24) hx hb dX11_push_0 (by decide) ?_
  refine lv_istore_n (lv' := [(2, .int ((24 : Int32))), (0, .ref (ad 0)), (1, .int a1)]) hx hb dX11_push_2 rfl hl (by decide) rfl (fun ls hl => ?_)
  obtain ⟨n_3, hn_3⟩ := loop_e h
  have hL_3 : ∀ (n : Nat) (t_3 : Int32 × OS) (H : Heap) (locs : List Loc) (ls : Array Slot), loopN (f11_push_l3 a1) n t_3 = some r → Wd D (cellsM ad cy t_3.2) (Afr ad 66 s.heap.size) s.heap H locs → lv_has ls 3 [(2, .int t_3.1), (1, .int a1), (0, .ref (ad 0))] → W p l e (rmL 0) s m ([.ref (ad 0), .int a1] : List Value).toArray below meth c H locs 0 0 Q (F0 m 3 ls []) := by
    intro n
    induction n with
    | zero => intro t_3 H locs ls hn; cases hn
    | succ n ih_3 =>
      intro t_3 H locs ls hn hw hl
      obtain ⟨x_3, h, hx_3⟩ := loopN_e hn
      unfold f11_push_l3 at h
      refine lv_iload_n hx hb dX11_push_3 rfl (lv_at hl 0 rfl) ?_
      refine lv_if_lt (tgt := 36) hx hb dX11_push_4 (by decide) (fun c_4 => ?_) (fun c_4 => ?_)
      · have h := ite_t c_4 h
        have h := nx_m hx_3 h
        have h := Option.some.inj h
        subst h
        rw [← hQ]
        exact retV hx hb hr hlk hw dX11_push_36
      · have h := ite_f c_4 h
        refine lv_aload_n hx hb dX11_push_7 rfl (lv_at hl 2 rfl) ?_
        refine gX11_7 hx hb hts hown hK hw dX11_push_8 ?_
        refine lv_aload_n hx hb dX11_push_11 rfl (lv_at hl 2 rfl) ?_
        refine gX11_228 hx hb hts hown hK hw dX11_push_12 ?_
        refine lv_iload_n hx hb dX11_push_15 rfl (lv_at hl 1 rfl) ?_
        refine lv_iload_n hx hb dX11_push_16 rfl (lv_at hl 0 rfl) ?_
        refine lv_ishr hx hb dX11_push_17 ?_
        refine lv_i2b hx hb dX11_push_18 rfl ?_
        obtain ⟨hi_19, h⟩ := chk_e h
        obtain ⟨s11_19, e_19, h⟩ := nam_e h
        refine aM1 hx hb hK hw hi_19 e_19 dX11_push_19 (fun H locs hw => ?_)
        refine lv_aload_n hx hb dX11_push_20 rfl (lv_at hl 2 rfl) ?_
        refine lv_dup hx hb dX11_push_21 rfl ?_
        refine gX11_228 hx hb hts hown hK hw dX11_push_22 ?_
        refine lv_iconst (v := 1) hx hb dX11_push_25 (by decide) ?_
        refine lv_iadd hx hb dX11_push_26 ?_
        obtain ⟨s11_27, e_27, h⟩ := nam_e h
        refine pX11_228 hx hb hts hown hK hw e_27 dX11_push_27 (fun H locs hw => ?_)
        obtain ⟨n_30, e_30, h⟩ := nam_e h
        refine lv_iinc (v := n_30) (lv' := [(2, .int n_30), (1, .int a1), (0, .ref (ad 0))]) hx hb dX11_push_30 hl (k := 0) rfl (by rw [e_30]; rfl) (by decide) rfl (fun ls hl => ?_)
        refine lv_goto (tgt := 3) hx hb dX11_push_33 (by decide) ?_
        exact ih_3 (n_30, s11_27) H locs ls (nx_l hx_3 h) hw (lv_sub hl [0, 1, 2] rfl)
  exact hL_3 n_3 ((24 : Int32), s11) H locs ls hn_3 hw (lv_sub hl [0, 2, 1] rfl)
theorem dX11_feed_0 : decode cX11_feed 0 = .ok (.aload_n 0, 1) := by decide +kernel
theorem dX11_feed_1 : decode cX11_feed 1 = .ok (.getfield 228, 3) := by decide +kernel
theorem dX11_feed_4 : decode cX11_feed 4 = .ok (.bipush 20, 2) := by decide +kernel
theorem dX11_feed_6 : decode cX11_feed 6 = .ok (.iadd, 1) := by decide +kernel
theorem dX11_feed_7 : decode cX11_feed 7 = .ok (.sipush 400, 3) := by decide +kernel
theorem dX11_feed_10 : decode cX11_feed 10 = .ok (.if_icmp .le 5, 3) := by decide +kernel
theorem dX11_feed_13 : decode cX11_feed 13 = .ok (.iconst (-1), 1) := by decide +kernel
theorem dX11_feed_14 : decode cX11_feed 14 = .ok (.ireturn, 1) := by decide +kernel
theorem dX11_feed_15 : decode cX11_feed 15 = .ok (.aload_n 0, 1) := by decide +kernel
theorem dX11_feed_16 : decode cX11_feed 16 = .ok (.iload_n 1, 1) := by decide +kernel
theorem dX11_feed_17 : decode cX11_feed 17 = .ok (.invokevirtual 231, 3) := by decide +kernel
theorem dX11_feed_20 : decode cX11_feed 20 = .ok (.aload_n 0, 1) := by decide +kernel
theorem dX11_feed_21 : decode cX11_feed 21 = .ok (.iload_n 2, 1) := by decide +kernel
theorem dX11_feed_22 : decode cX11_feed 22 = .ok (.invokevirtual 231, 3) := by decide +kernel
theorem dX11_feed_25 : decode cX11_feed 25 = .ok (.aload_n 0, 1) := by decide +kernel
theorem dX11_feed_26 : decode cX11_feed 26 = .ok (.iload_n 3, 1) := by decide +kernel
theorem dX11_feed_27 : decode cX11_feed 27 = .ok (.invokevirtual 231, 3) := by decide +kernel
theorem dX11_feed_30 : decode cX11_feed 30 = .ok (.aload_n 0, 1) := by decide +kernel
theorem dX11_feed_31 : decode cX11_feed 31 = .ok (.iload 4, 2) := by decide +kernel
theorem dX11_feed_33 : decode cX11_feed 33 = .ok (.invokevirtual 231, 3) := by decide +kernel
theorem dX11_feed_36 : decode cX11_feed 36 = .ok (.aload_n 0, 1) := by decide +kernel
theorem dX11_feed_37 : decode cX11_feed 37 = .ok (.iload 5, 2) := by decide +kernel
theorem dX11_feed_39 : decode cX11_feed 39 = .ok (.invokevirtual 231, 3) := by decide +kernel
theorem dX11_feed_42 : decode cX11_feed 42 = .ok (.aload_n 0, 1) := by decide +kernel
theorem dX11_feed_43 : decode cX11_feed 43 = .ok (.getfield 228, 3) := by decide +kernel
theorem dX11_feed_46 : decode cX11_feed 46 = .ok (.ireturn, 1) := by decide +kernel
noncomputable def f11_feed (a1 : Int32) (a2 : Int32) (a3 : Int32) (a4 : Int32) (a5 : Int32) (s11 : OS) : Option (Int32 × OS) := if ((s11.1 0 1) + (20 : Int32)) ≤ (400 : Int32) then (Option.bind (f11_push a1 s11) fun q_17 => Option.bind (f11_push a2 q_17) fun q_22 => Option.bind (f11_push a3 q_22) fun q_27 => Option.bind (f11_push a4 q_27) fun q_33 => Option.bind (f11_push a5 q_33) fun q_39 => some ((q_39.1 0 1), q_39)) else (some ((-1 : Int32), s11))
set_option maxHeartbeats 4000000 in
set_option maxRecDepth 100000 in
theorem m11_feed (l : Launch) (D : va_G) (ad : Nat → Nat) (cy : Nat → ClassId) (sz : Nat) (s11 : OS) (a1 : Int32) (a2 : Int32) (a3 : Int32) (a4 : Int32) (a5 : Int32) (r : Int32 × OS) (h : f11_feed a1 a2 a3 a4 a5 s11 = some r) : Met l yX11_feed (wsOf yX11_feed cX11_feed 6 (some .int)) (rmL 1) (va_Pc ([.ref (ad 0), .int a1, .int a2, .int a3, .int a4, .int a5] : List Value) (PreG D cy (cellsM ad cy s11) sz NM)) (QcI D ad 66 (cellsM ad cy r.2) (r.1) sz) 0 0 (Afr ad 66 sz) := by
  refine metG (own := RX11) (by decide) rfl (Nat.le_of_ble_eq_true rfl) fstM ?_ sz
  intro p e s m below meth c ls C0 hw hl
  obtain ⟨hx, hb, hml, hown, hts, hr, hlk, hK, hN⟩ := C0
  have hl : lv_has ls 6 [(0, .ref (ad 0)), (1, .int a1), (2, .int a2), (3, .int a3), (4, .int a4), (5, .int a5)] := hl
  generalize hQ : MQ below (QcI D ad 66 (cellsM ad cy r.2) (r.1) s.heap.size) ([.ref (ad 0), .int a1, .int a2, .int a3, .int a4, .int a5] : List Value).toArray s 0 0 (Afr ad 66 s.heap.size) = Q
  obtain ⟨H, hH⟩ : ∃ H : Heap, H = s.heap := ⟨_, rfl⟩
  obtain ⟨locs, hlc⟩ : ∃ L : List Loc, L = [] := ⟨_, rfl⟩
  have hw : Wd D (cellsM ad cy s11) (Afr ad 66 s.heap.size) s.heap H locs := by rw [hH, hlc]; exact hw
  suffices h0 : W p l e (rmL 1) s m ([.ref (ad 0), .int a1, .int a2, .int a3, .int a4, .int a5] : List Value).toArray below meth c H locs 0 0 Q (F0 m 0 ls []) by rw [hH, hlc] at h0; exact h0
  clear hH hlc
  unfold f11_feed at h
  refine lv_aload_n hx hb dX11_feed_0 rfl (lv_at hl 0 rfl) ?_
  refine gX11_228 hx hb hts hown hK hw dX11_feed_1 ?_
  refine lv_bipush (v := 20) hx hb dX11_feed_4 (by decide) ?_
  refine lv_iadd hx hb dX11_feed_6 ?_
  refine lv_sipush (v := 400) hx hb dX11_feed_7 (by decide) ?_
  refine lv_icmp_le (tgt := 15) hx hb dX11_feed_10 (by decide) (fun c_10 => ?_) (fun c_10 => ?_)
  · have h := ite_t c_10 h
    refine lv_aload_n hx hb dX11_feed_15 rfl (lv_at hl 0 rfl) ?_
    refine lv_iload_n hx hb dX11_feed_16 rfl (lv_at hl 1 rfl) ?_
    obtain ⟨q_17, h_17, h⟩ := bnd_e h
    have pg_17 := preG (av := [.ref (ad 0), .int a1]) hK hw.1 hw.2.1 NM_keep NM_blind
    refine endV (mc := 0) (ms := 0) (va_runV (As := [.int a1]) (rest := []) ⟨hx, hb, hml, hown, hts⟩ (m11_push l D ad cy H.size s11 a1 q_17 h_17) (wX11_231 0 hts ⟨Nat.le_of_ble_eq_true rfl, Nat.le_of_ble_eq_true rfl⟩) ⟨pg_17.1, va_recv hK hw.1 (ci := 11) (q0 := 0) rfl eM_0, pg_17.2⟩ rfl rfl hl.1 rfl (lv_room (Nat.le_of_ble_eq_true rfl)) dX11_feed_17 ⟨Nat.le_refl _, Nat.le_refl _⟩) hw.2.2 (afr_in hw.2.2) (fun H locs hw => ?_)
    refine lv_aload_n hx hb dX11_feed_20 rfl (lv_at hl 0 rfl) ?_
    refine lv_iload_n hx hb dX11_feed_21 rfl (lv_at hl 2 rfl) ?_
    obtain ⟨q_22, h_22, h⟩ := bnd_e h
    have pg_22 := preG (av := [.ref (ad 0), .int a2]) hK hw.1 hw.2.1 NM_keep NM_blind
    refine endV (mc := 0) (ms := 0) (va_runV (As := [.int a2]) (rest := []) ⟨hx, hb, hml, hown, hts⟩ (m11_push l D ad cy H.size q_17 a2 q_22 h_22) (wX11_231 0 hts ⟨Nat.le_of_ble_eq_true rfl, Nat.le_of_ble_eq_true rfl⟩) ⟨pg_22.1, va_recv hK hw.1 (ci := 11) (q0 := 0) rfl eM_0, pg_22.2⟩ rfl rfl hl.1 rfl (lv_room (Nat.le_of_ble_eq_true rfl)) dX11_feed_22 ⟨Nat.le_refl _, Nat.le_refl _⟩) hw.2.2 (afr_in hw.2.2) (fun H locs hw => ?_)
    refine lv_aload_n hx hb dX11_feed_25 rfl (lv_at hl 0 rfl) ?_
    refine lv_iload_n hx hb dX11_feed_26 rfl (lv_at hl 3 rfl) ?_
    obtain ⟨q_27, h_27, h⟩ := bnd_e h
    have pg_27 := preG (av := [.ref (ad 0), .int a3]) hK hw.1 hw.2.1 NM_keep NM_blind
    refine endV (mc := 0) (ms := 0) (va_runV (As := [.int a3]) (rest := []) ⟨hx, hb, hml, hown, hts⟩ (m11_push l D ad cy H.size q_22 a3 q_27 h_27) (wX11_231 0 hts ⟨Nat.le_of_ble_eq_true rfl, Nat.le_of_ble_eq_true rfl⟩) ⟨pg_27.1, va_recv hK hw.1 (ci := 11) (q0 := 0) rfl eM_0, pg_27.2⟩ rfl rfl hl.1 rfl (lv_room (Nat.le_of_ble_eq_true rfl)) dX11_feed_27 ⟨Nat.le_refl _, Nat.le_refl _⟩) hw.2.2 (afr_in hw.2.2) (fun H locs hw => ?_)
    refine lv_aload_n hx hb dX11_feed_30 rfl (lv_at hl 0 rfl) ?_
    refine lv_iload hx hb dX11_feed_31 (lv_at hl 4 rfl) ?_
    obtain ⟨q_33, h_33, h⟩ := bnd_e h
    have pg_33 := preG (av := [.ref (ad 0), .int a4]) hK hw.1 hw.2.1 NM_keep NM_blind
    refine endV (mc := 0) (ms := 0) (va_runV (As := [.int a4]) (rest := []) ⟨hx, hb, hml, hown, hts⟩ (m11_push l D ad cy H.size q_27 a4 q_33 h_33) (wX11_231 0 hts ⟨Nat.le_of_ble_eq_true rfl, Nat.le_of_ble_eq_true rfl⟩) ⟨pg_33.1, va_recv hK hw.1 (ci := 11) (q0 := 0) rfl eM_0, pg_33.2⟩ rfl rfl hl.1 rfl (lv_room (Nat.le_of_ble_eq_true rfl)) dX11_feed_33 ⟨Nat.le_refl _, Nat.le_refl _⟩) hw.2.2 (afr_in hw.2.2) (fun H locs hw => ?_)
    refine lv_aload_n hx hb dX11_feed_36 rfl (lv_at hl 0 rfl) ?_
    refine lv_iload hx hb dX11_feed_37 (lv_at hl 5 rfl) ?_
    obtain ⟨q_39, h_39, h⟩ := bnd_e h
    have pg_39 := preG (av := [.ref (ad 0), .int a5]) hK hw.1 hw.2.1 NM_keep NM_blind
    refine endV (mc := 0) (ms := 0) (va_runV (As := [.int a5]) (rest := []) ⟨hx, hb, hml, hown, hts⟩ (m11_push l D ad cy H.size q_33 a5 q_39 h_39) (wX11_231 0 hts ⟨Nat.le_of_ble_eq_true rfl, Nat.le_of_ble_eq_true rfl⟩) ⟨pg_39.1, va_recv hK hw.1 (ci := 11) (q0 := 0) rfl eM_0, pg_39.2⟩ rfl rfl hl.1 rfl (lv_room (Nat.le_of_ble_eq_true rfl)) dX11_feed_39 ⟨Nat.le_refl _, Nat.le_refl _⟩) hw.2.2 (afr_in hw.2.2) (fun H locs hw => ?_)
    refine lv_aload_n hx hb dX11_feed_42 rfl (lv_at hl 0 rfl) ?_
    refine gX11_228 hx hb hts hown hK hw dX11_feed_43 ?_
    have h := Option.some.inj h
    subst h
    rw [← hQ]
    exact retI hx hb hr hlk hw rfl dX11_feed_46
  · have h := ite_f c_10 h
    refine lv_iconst (v := (-1)) hx hb dX11_feed_13 (by decide) ?_
    have h := Option.some.inj h
    subst h
    rw [← hQ]
    exact retI hx hb hr hlk hw rfl dX11_feed_14
theorem dX11_isFit_0 : decode cX11_isFit 0 = .ok (.aload_n 0, 1) := by decide +kernel
theorem dX11_isFit_1 : decode cX11_isFit 1 = .ok (.getfield 20, 3) := by decide +kernel
theorem dX11_isFit_4 : decode cX11_isFit 4 = .ok (.aload_n 0, 1) := by decide +kernel
theorem dX11_isFit_5 : decode cX11_isFit 5 = .ok (.getfield 151, 3) := by decide +kernel
theorem dX11_isFit_8 : decode cX11_isFit 8 = .ok (.iload_n 2, 1) := by decide +kernel
theorem dX11_isFit_9 : decode cX11_isFit 9 = .ok (.iaload, 1) := by decide +kernel
theorem dX11_isFit_10 : decode cX11_isFit 10 = .ok (.iaload, 1) := by decide +kernel
theorem dX11_isFit_11 : decode cX11_isFit 11 = .ok (.i2l, 1) := by decide +kernel
theorem dX11_isFit_12 : decode cX11_isFit 12 = .ok (.aload_n 0, 1) := by decide +kernel
theorem dX11_isFit_13 : decode cX11_isFit 13 = .ok (.getfield 154, 3) := by decide +kernel
theorem dX11_isFit_16 : decode cX11_isFit 16 = .ok (.iload_n 1, 1) := by decide +kernel
theorem dX11_isFit_17 : decode cX11_isFit 17 = .ok (.iaload, 1) := by decide +kernel
theorem dX11_isFit_18 : decode cX11_isFit 18 = .ok (.i2l, 1) := by decide +kernel
theorem dX11_isFit_19 : decode cX11_isFit 19 = .ok (.lsub, 1) := by decide +kernel
theorem dX11_isFit_20 : decode cX11_isFit 20 = .ok (.lstore_n 3, 1) := by decide +kernel
theorem dX11_isFit_21 : decode cX11_isFit 21 = .ok (.lload_n 3, 1) := by decide +kernel
theorem dX11_isFit_22 : decode cX11_isFit 22 = .ok (.lconst 0, 1) := by decide +kernel
theorem dX11_isFit_23 : decode cX11_isFit 23 = .ok (.lcmp, 1) := by decide +kernel
theorem dX11_isFit_24 : decode cX11_isFit 24 = .ok (.ifCond .ge 8, 3) := by decide +kernel
theorem dX11_isFit_27 : decode cX11_isFit 27 = .ok (.lload_n 3, 1) := by decide +kernel
theorem dX11_isFit_28 : decode cX11_isFit 28 = .ok (.lneg, 1) := by decide +kernel
theorem dX11_isFit_29 : decode cX11_isFit 29 = .ok (.goto 4, 3) := by decide +kernel
theorem dX11_isFit_32 : decode cX11_isFit 32 = .ok (.lload_n 3, 1) := by decide +kernel
theorem dX11_isFit_33 : decode cX11_isFit 33 = .ok (.lstore_n 3, 1) := by decide +kernel
theorem dX11_isFit_34 : decode cX11_isFit 34 = .ok (.lload_n 3, 1) := by decide +kernel
theorem dX11_isFit_35 : decode cX11_isFit 35 = .ok (.aload_n 0, 1) := by decide +kernel
theorem dX11_isFit_36 : decode cX11_isFit 36 = .ok (.getfield 157, 3) := by decide +kernel
theorem dX11_isFit_39 : decode cX11_isFit 39 = .ok (.iload_n 1, 1) := by decide +kernel
theorem dX11_isFit_40 : decode cX11_isFit 40 = .ok (.iaload, 1) := by decide +kernel
theorem dX11_isFit_41 : decode cX11_isFit 41 = .ok (.i2l, 1) := by decide +kernel
theorem dX11_isFit_42 : decode cX11_isFit 42 = .ok (.lcmp, 1) := by decide +kernel
theorem dX11_isFit_43 : decode cX11_isFit 43 = .ok (.ifCond .gt 38, 3) := by decide +kernel
theorem dX11_isFit_46 : decode cX11_isFit 46 = .ok (.aload_n 0, 1) := by decide +kernel
theorem dX11_isFit_47 : decode cX11_isFit 47 = .ok (.getfield 160, 3) := by decide +kernel
theorem dX11_isFit_50 : decode cX11_isFit 50 = .ok (.iload_n 1, 1) := by decide +kernel
theorem dX11_isFit_51 : decode cX11_isFit 51 = .ok (.iaload, 1) := by decide +kernel
theorem dX11_isFit_52 : decode cX11_isFit 52 = .ok (.bipush 8, 2) := by decide +kernel
theorem dX11_isFit_54 : decode cX11_isFit 54 = .ok (.if_icmp .eq 23, 3) := by decide +kernel
theorem dX11_isFit_57 : decode cX11_isFit 57 = .ok (.aload_n 0, 1) := by decide +kernel
theorem dX11_isFit_58 : decode cX11_isFit 58 = .ok (.getfield 160, 3) := by decide +kernel
theorem dX11_isFit_61 : decode cX11_isFit 61 = .ok (.iload_n 1, 1) := by decide +kernel
theorem dX11_isFit_62 : decode cX11_isFit 62 = .ok (.iaload, 1) := by decide +kernel
theorem dX11_isFit_63 : decode cX11_isFit 63 = .ok (.aload_n 0, 1) := by decide +kernel
theorem dX11_isFit_64 : decode cX11_isFit 64 = .ok (.getfield 13, 3) := by decide +kernel
theorem dX11_isFit_67 : decode cX11_isFit 67 = .ok (.aload_n 0, 1) := by decide +kernel
theorem dX11_isFit_68 : decode cX11_isFit 68 = .ok (.getfield 151, 3) := by decide +kernel
theorem dX11_isFit_71 : decode cX11_isFit 71 = .ok (.iload_n 2, 1) := by decide +kernel
theorem dX11_isFit_72 : decode cX11_isFit 72 = .ok (.iaload, 1) := by decide +kernel
theorem dX11_isFit_73 : decode cX11_isFit 73 = .ok (.iaload, 1) := by decide +kernel
theorem dX11_isFit_74 : decode cX11_isFit 74 = .ok (.if_icmp .ne 7, 3) := by decide +kernel
theorem dX11_isFit_77 : decode cX11_isFit 77 = .ok (.iconst 1, 1) := by decide +kernel
theorem dX11_isFit_78 : decode cX11_isFit 78 = .ok (.goto 4, 3) := by decide +kernel
theorem dX11_isFit_81 : decode cX11_isFit 81 = .ok (.iconst 0, 1) := by decide +kernel
theorem dX11_isFit_82 : decode cX11_isFit 82 = .ok (.ireturn, 1) := by decide +kernel
def f11_isFit_j82 (k0_j82 : Int32) (s11_j82 : OS) : Option (Int32) := chk (isB k0_j82) (some k0_j82)
def f11_isFit_j81 (s11_j81 : OS) : Option (Int32) := f11_isFit_j82 ((0 : Int32)) s11_j81
def f11_isFit_j77 (s11_j77 : OS) : Option (Int32) := f11_isFit_j82 ((1 : Int32)) s11_j77
def f11_isFit_j33 (v1_j33 : Int32) (v2_j33 : Int32) (k0_j33 : Int64) (s11_j33 : OS) : Option (Int32) := chk (inb v1_j33 6) (nm (s11_j33.1 73 v1_j33.toNatClampNeg) fun y_40 => if 0 < (lg_cmp k0_j33 ((y_40).toInt64)) then (f11_isFit_j81 s11_j33) else (chk (inb v1_j33 6) (nm (s11_j33.1 74 v1_j33.toNatClampNeg) fun y_51 => if y_51 = (8 : Int32) then (f11_isFit_j77 s11_j33) else (chk (inb v1_j33 6) (nm (s11_j33.1 74 v1_j33.toNatClampNeg) fun y_62 => chk (inb v2_j33 6) (nm (s11_j33.1 71 v2_j33.toNatClampNeg) fun y_72 => chk (inb y_72 150) (nm (s11_j33.1 12 y_72.toNatClampNeg) fun y_73 => if y_62 = y_73 then (f11_isFit_j77 s11_j33) else (f11_isFit_j81 s11_j33))))))))
def f11_isFit (a1 : Int32) (a2 : Int32) (s11 : OS) : Option (Int32) := chk (inb a2 6) (nm (s11.1 71 a2.toNatClampNeg) fun y_9 => chk (inb y_9 150) (nm (s11.1 14 y_9.toNatClampNeg) fun y_10 => chk (inb a1 6) (nm (s11.1 72 a1.toNatClampNeg) fun y_17 => nm (((y_10).toInt64 - (y_17).toInt64)) fun n_20 => if 0 ≤ (lg_cmp n_20 ((0 : Int64))) then (f11_isFit_j33 a1 a2 n_20 s11) else (f11_isFit_j33 a1 a2 ((0 - n_20)) s11))))
set_option maxHeartbeats 4000000 in
set_option maxRecDepth 100000 in
theorem m11_isFit (l : Launch) (D : va_G) (ad : Nat → Nat) (cy : Nat → ClassId) (sz : Nat) (s11 : OS) (a1 : Int32) (a2 : Int32) (r : Int32) (h : f11_isFit a1 a2 s11 = some r) : Met l yX11_isFit (wsOf yX11_isFit cX11_isFit 5 (some .boolean)) (rmL 0) (va_Pc ([.ref (ad 0), .int a1, .int a2] : List Value) (PreG D cy (cellsM ad cy s11) sz NM)) (QcI D ad 66 (cellsM ad cy s11) (r) sz) 0 0 (Afr ad 66 sz) := by
  refine metG (own := RX11) (by decide) rfl (Nat.le_of_ble_eq_true rfl) fstM ?_ sz
  intro p e s m below meth c ls C0 hw hl
  obtain ⟨hx, hb, hml, hown, hts, hr, hlk, hK, hN⟩ := C0
  have hl : lv_has ls 5 [(0, .ref (ad 0)), (1, .int a1), (2, .int a2)] := hl
  generalize hQ : MQ below (QcI D ad 66 (cellsM ad cy s11) (r) s.heap.size) ([.ref (ad 0), .int a1, .int a2] : List Value).toArray s 0 0 (Afr ad 66 s.heap.size) = Q
  obtain ⟨H, hH⟩ : ∃ H : Heap, H = s.heap := ⟨_, rfl⟩
  obtain ⟨locs, hlc⟩ : ∃ L : List Loc, L = [] := ⟨_, rfl⟩
  have hw : Wd D (cellsM ad cy s11) (Afr ad 66 s.heap.size) s.heap H locs := by rw [hH, hlc]; exact hw
  suffices h0 : W p l e (rmL 0) s m ([.ref (ad 0), .int a1, .int a2] : List Value).toArray below meth c H locs 0 0 Q (F0 m 0 ls []) by rw [hH, hlc] at h0; exact h0
  clear hH hlc
  unfold f11_isFit at h
  have hJ_82 : ∀ (k0_j82 : Int32) (H : Heap) (locs : List Loc) (ls : Array Slot), f11_isFit_j82 k0_j82 s11 = some r → Wd D (cellsM ad cy s11) (Afr ad 66 s.heap.size) s.heap H locs → lv_has ls 5 [] → W p l e (rmL 0) s m ([.ref (ad 0), .int a1, .int a2] : List Value).toArray below meth c H locs 0 0 Q (F0 m 82 ls [.int k0_j82]) := by
    intro k0_j82 H locs ls h hw hl
    unfold f11_isFit_j82 at h
    obtain ⟨hz_82, h⟩ := chk_e h
    have h := Option.some.inj h
    subst h
    rw [← hQ]
    exact retI hx hb hr hlk hw (narB hz_82) dX11_isFit_82
  have hJ_81 : ∀  (H : Heap) (locs : List Loc) (ls : Array Slot), f11_isFit_j81 s11 = some r → Wd D (cellsM ad cy s11) (Afr ad 66 s.heap.size) s.heap H locs → lv_has ls 5 [] → W p l e (rmL 0) s m ([.ref (ad 0), .int a1, .int a2] : List Value).toArray below meth c H locs 0 0 Q (F0 m 81 ls []) := by
    intro  H locs ls h hw hl
    unfold f11_isFit_j81 at h
    refine lv_iconst (v := 0) hx hb dX11_isFit_81 (by decide) ?_
    exact hJ_82 ((0 : Int32)) H locs ls h hw (lv_sub hl [] rfl)
  have hJ_77 : ∀  (H : Heap) (locs : List Loc) (ls : Array Slot), f11_isFit_j77 s11 = some r → Wd D (cellsM ad cy s11) (Afr ad 66 s.heap.size) s.heap H locs → lv_has ls 5 [] → W p l e (rmL 0) s m ([.ref (ad 0), .int a1, .int a2] : List Value).toArray below meth c H locs 0 0 Q (F0 m 77 ls []) := by
    intro  H locs ls h hw hl
    unfold f11_isFit_j77 at h
    refine lv_iconst (v := 1) hx hb dX11_isFit_77 (by decide) ?_
    refine lv_goto (tgt := 82) hx hb dX11_isFit_78 (by decide) ?_
    exact hJ_82 ((1 : Int32)) H locs ls h hw (lv_sub hl [] rfl)
  have hJ_33 : ∀ (v1_j33 : Int32) (v2_j33 : Int32) (k0_j33 : Int64) (H : Heap) (locs : List Loc) (ls : Array Slot), f11_isFit_j33 v1_j33 v2_j33 k0_j33 s11 = some r → Wd D (cellsM ad cy s11) (Afr ad 66 s.heap.size) s.heap H locs → lv_has ls 5 [(0, .ref (ad 0)), (1, .int v1_j33), (2, .int v2_j33)] → W p l e (rmL 0) s m ([.ref (ad 0), .int a1, .int a2] : List Value).toArray below meth c H locs 0 0 Q (F0 m 33 ls [.long k0_j33]) := by
    intro v1_j33 v2_j33 k0_j33 H locs ls h hw hl
    unfold f11_isFit_j33 at h
    refine lv_lstore_n (lv' := [(3, .long k0_j33), (0, .ref (ad 0)), (1, .int v1_j33), (2, .int v2_j33)]) hx hb dX11_isFit_33 rfl hl (by decide) rfl (fun ls hl => ?_)
    refine lv_lload_n hx hb dX11_isFit_34 rfl (lv_at hl 0 rfl) ?_
    refine lv_aload_n hx hb dX11_isFit_35 rfl (lv_at hl 1 rfl) ?_
    refine gX11_157 hx hb hts hown hK hw dX11_isFit_36 ?_
    refine lv_iload_n hx hb dX11_isFit_39 rfl (lv_at hl 2 rfl) ?_
    obtain ⟨hi_40, h⟩ := chk_e h
    obtain ⟨y_40, e_40, h⟩ := nam_e h
    refine lM49 hx hb hK hw hi_40 e_40 dX11_isFit_40 ?_
    refine lv_i2l hx hb dX11_isFit_41 rfl ?_
    refine W.lcmp hx hb dX11_isFit_42 ?_
    refine lv_if_gt (tgt := 81) hx hb dX11_isFit_43 (by decide) (fun c_43 => ?_) (fun c_43 => ?_)
    · have h := ite_t c_43 h
      exact hJ_81  H locs ls h hw (lv_sub hl [] rfl)
    · have h := ite_f c_43 h
      refine lv_aload_n hx hb dX11_isFit_46 rfl (lv_at hl 1 rfl) ?_
      refine gX11_160 hx hb hts hown hK hw dX11_isFit_47 ?_
      refine lv_iload_n hx hb dX11_isFit_50 rfl (lv_at hl 2 rfl) ?_
      obtain ⟨hi_51, h⟩ := chk_e h
      obtain ⟨y_51, e_51, h⟩ := nam_e h
      refine lM50 hx hb hK hw hi_51 e_51 dX11_isFit_51 ?_
      refine lv_bipush (v := 8) hx hb dX11_isFit_52 (by decide) ?_
      refine lv_icmp_eq (tgt := 77) hx hb dX11_isFit_54 (by decide) (fun c_54 => ?_) (fun c_54 => ?_)
      · have h := ite_t c_54 h
        exact hJ_77  H locs ls h hw (lv_sub hl [] rfl)
      · have h := ite_f c_54 h
        refine lv_aload_n hx hb dX11_isFit_57 rfl (lv_at hl 1 rfl) ?_
        refine gX11_160 hx hb hts hown hK hw dX11_isFit_58 ?_
        refine lv_iload_n hx hb dX11_isFit_61 rfl (lv_at hl 2 rfl) ?_
        obtain ⟨hi_62, h⟩ := chk_e h
        obtain ⟨y_62, e_62, h⟩ := nam_e h
        refine lM50 hx hb hK hw hi_62 e_62 dX11_isFit_62 ?_
        refine lv_aload_n hx hb dX11_isFit_63 rfl (lv_at hl 1 rfl) ?_
        refine gX11_13 hx hb hts hown hK hw dX11_isFit_64 ?_
        refine lv_aload_n hx hb dX11_isFit_67 rfl (lv_at hl 1 rfl) ?_
        refine gX11_151 hx hb hts hown hK hw dX11_isFit_68 ?_
        refine lv_iload_n hx hb dX11_isFit_71 rfl (lv_at hl 3 rfl) ?_
        obtain ⟨hi_72, h⟩ := chk_e h
        obtain ⟨y_72, e_72, h⟩ := nam_e h
        refine lM47 hx hb hK hw hi_72 e_72 dX11_isFit_72 ?_
        obtain ⟨hi_73, h⟩ := chk_e h
        obtain ⟨y_73, e_73, h⟩ := nam_e h
        refine lM2 hx hb hK hw hi_73 e_73 dX11_isFit_73 ?_
        refine lv_icmp_ne (tgt := 81) hx hb dX11_isFit_74 (by decide) (fun c_74 => ?_) (fun c_74 => ?_)
        · have h := ite_f c_74 h
          exact hJ_81  H locs ls h hw (lv_sub hl [] rfl)
        · have h := ite_t c_74 h
          exact hJ_77  H locs ls h hw (lv_sub hl [] rfl)
  refine lv_aload_n hx hb dX11_isFit_0 rfl (lv_at hl 0 rfl) ?_
  refine gX11_20 hx hb hts hown hK hw dX11_isFit_1 ?_
  refine lv_aload_n hx hb dX11_isFit_4 rfl (lv_at hl 0 rfl) ?_
  refine gX11_151 hx hb hts hown hK hw dX11_isFit_5 ?_
  refine lv_iload_n hx hb dX11_isFit_8 rfl (lv_at hl 2 rfl) ?_
  obtain ⟨hi_9, h⟩ := chk_e h
  obtain ⟨y_9, e_9, h⟩ := nam_e h
  refine lM47 hx hb hK hw hi_9 e_9 dX11_isFit_9 ?_
  obtain ⟨hi_10, h⟩ := chk_e h
  obtain ⟨y_10, e_10, h⟩ := nam_e h
  refine lM4 hx hb hK hw hi_10 e_10 dX11_isFit_10 ?_
  refine lv_i2l hx hb dX11_isFit_11 rfl ?_
  refine lv_aload_n hx hb dX11_isFit_12 rfl (lv_at hl 0 rfl) ?_
  refine gX11_154 hx hb hts hown hK hw dX11_isFit_13 ?_
  refine lv_iload_n hx hb dX11_isFit_16 rfl (lv_at hl 1 rfl) ?_
  obtain ⟨hi_17, h⟩ := chk_e h
  obtain ⟨y_17, e_17, h⟩ := nam_e h
  refine lM48 hx hb hK hw hi_17 e_17 dX11_isFit_17 ?_
  refine lv_i2l hx hb dX11_isFit_18 rfl ?_
  refine lv_lsub hx hb dX11_isFit_19 ?_
  obtain ⟨n_20, e_20, h⟩ := nam_e h
  refine topL e_20 ?_
  refine lv_lstore_n (lv' := [(3, .long n_20), (0, .ref (ad 0)), (1, .int a1), (2, .int a2)]) hx hb dX11_isFit_20 rfl hl (by decide) rfl (fun ls hl => ?_)
  refine lv_lload_n hx hb dX11_isFit_21 rfl (lv_at hl 0 rfl) ?_
  refine lv_lconst (v := 0) hx hb dX11_isFit_22 (by decide) ?_
  refine W.lcmp hx hb dX11_isFit_23 ?_
  refine lv_if_ge (tgt := 32) hx hb dX11_isFit_24 (by decide) (fun c_24 => ?_) (fun c_24 => ?_)
  · have h := ite_t c_24 h
    refine lv_lload_n hx hb dX11_isFit_32 rfl (lv_at hl 0 rfl) ?_
    exact hJ_33 a1 a2 n_20 H locs ls h hw (lv_sub hl [1, 2, 3] rfl)
  · have h := ite_f c_24 h
    refine lv_lload_n hx hb dX11_isFit_27 rfl (lv_at hl 0 rfl) ?_
    refine lv_lneg hx hb dX11_isFit_28 ?_
    refine lv_goto (tgt := 33) hx hb dX11_isFit_29 (by decide) ?_
    exact hJ_33 a1 a2 ((0 - n_20)) H locs ls h hw (lv_sub hl [1, 2, 3] rfl)
theorem dX11_isAnswer_0 : decode cX11_isAnswer 0 = .ok (.iconst 0, 1) := by decide +kernel
theorem dX11_isAnswer_1 : decode cX11_isAnswer 1 = .ok (.istore_n 2, 1) := by decide +kernel
theorem dX11_isAnswer_2 : decode cX11_isAnswer 2 = .ok (.iload_n 2, 1) := by decide +kernel
theorem dX11_isAnswer_3 : decode cX11_isAnswer 3 = .ok (.iload_n 1, 1) := by decide +kernel
theorem dX11_isAnswer_4 : decode cX11_isAnswer 4 = .ok (.if_icmp .ge 55, 3) := by decide +kernel
theorem dX11_isAnswer_7 : decode cX11_isAnswer 7 = .ok (.aload_n 0, 1) := by decide +kernel
theorem dX11_isAnswer_8 : decode cX11_isAnswer 8 = .ok (.iload_n 2, 1) := by decide +kernel
theorem dX11_isAnswer_9 : decode cX11_isAnswer 9 = .ok (.aload_n 0, 1) := by decide +kernel
theorem dX11_isAnswer_10 : decode cX11_isAnswer 10 = .ok (.getfield 163, 3) := by decide +kernel
theorem dX11_isAnswer_13 : decode cX11_isAnswer 13 = .ok (.iload_n 2, 1) := by decide +kernel
theorem dX11_isAnswer_14 : decode cX11_isAnswer 14 = .ok (.iaload, 1) := by decide +kernel
theorem dX11_isAnswer_15 : decode cX11_isAnswer 15 = .ok (.invokevirtual 454, 3) := by decide +kernel
theorem dX11_isAnswer_18 : decode cX11_isAnswer 18 = .ok (.ifCond .ne 5, 3) := by decide +kernel
theorem dX11_isAnswer_21 : decode cX11_isAnswer 21 = .ok (.iconst 0, 1) := by decide +kernel
theorem dX11_isAnswer_22 : decode cX11_isAnswer 22 = .ok (.ireturn, 1) := by decide +kernel
theorem dX11_isAnswer_23 : decode cX11_isAnswer 23 = .ok (.iconst 0, 1) := by decide +kernel
theorem dX11_isAnswer_24 : decode cX11_isAnswer 24 = .ok (.istore_n 3, 1) := by decide +kernel
theorem dX11_isAnswer_25 : decode cX11_isAnswer 25 = .ok (.iload_n 3, 1) := by decide +kernel
theorem dX11_isAnswer_26 : decode cX11_isAnswer 26 = .ok (.iload_n 2, 1) := by decide +kernel
theorem dX11_isAnswer_27 : decode cX11_isAnswer 27 = .ok (.if_icmp .ge 26, 3) := by decide +kernel
theorem dX11_isAnswer_30 : decode cX11_isAnswer 30 = .ok (.aload_n 0, 1) := by decide +kernel
theorem dX11_isAnswer_31 : decode cX11_isAnswer 31 = .ok (.getfield 163, 3) := by decide +kernel
theorem dX11_isAnswer_34 : decode cX11_isAnswer 34 = .ok (.iload_n 3, 1) := by decide +kernel
theorem dX11_isAnswer_35 : decode cX11_isAnswer 35 = .ok (.iaload, 1) := by decide +kernel
theorem dX11_isAnswer_36 : decode cX11_isAnswer 36 = .ok (.aload_n 0, 1) := by decide +kernel
theorem dX11_isAnswer_37 : decode cX11_isAnswer 37 = .ok (.getfield 163, 3) := by decide +kernel
theorem dX11_isAnswer_40 : decode cX11_isAnswer 40 = .ok (.iload_n 2, 1) := by decide +kernel
theorem dX11_isAnswer_41 : decode cX11_isAnswer 41 = .ok (.iaload, 1) := by decide +kernel
theorem dX11_isAnswer_42 : decode cX11_isAnswer 42 = .ok (.if_icmp .ne 5, 3) := by decide +kernel
theorem dX11_isAnswer_45 : decode cX11_isAnswer 45 = .ok (.iconst 0, 1) := by decide +kernel
theorem dX11_isAnswer_46 : decode cX11_isAnswer 46 = .ok (.ireturn, 1) := by decide +kernel
theorem dX11_isAnswer_47 : decode cX11_isAnswer 47 = .ok (.iinc 3 1, 3) := by decide +kernel
theorem dX11_isAnswer_50 : decode cX11_isAnswer 50 = .ok (.goto (-25), 3) := by decide +kernel
theorem dX11_isAnswer_53 : decode cX11_isAnswer 53 = .ok (.iinc 2 1, 3) := by decide +kernel
theorem dX11_isAnswer_56 : decode cX11_isAnswer 56 = .ok (.goto (-54), 3) := by decide +kernel
theorem dX11_isAnswer_59 : decode cX11_isAnswer 59 = .ok (.iconst 1, 1) := by decide +kernel
theorem dX11_isAnswer_60 : decode cX11_isAnswer 60 = .ok (.ireturn, 1) := by decide +kernel
noncomputable def f11_isAnswer_l25 (v1_i25 : Int32) (v2_i25 : Int32) (s11_i25 : OS) : Int32 → Option ((Int32) ⊕ ((Int32) ⊕ (Int32))) := fun t_25 => if v2_i25 ≤ t_25 then (Option.map Sum.inr (nm (v2_i25 + (1 : Int32)) fun n_53 => some (Sum.inl n_53))) else (chk (inb t_25 6) (nm (s11_i25.1 75 t_25.toNatClampNeg) fun y_35 => chk (inb v2_i25 6) (nm (s11_i25.1 75 v2_i25.toNatClampNeg) fun y_41 => if y_35 = y_41 then (Option.map Sum.inr (Option.map Sum.inr (some ((0 : Int32))))) else (nm (t_25 + (1 : Int32)) fun n_47 => some (Sum.inl n_47)))))
noncomputable def f11_isAnswer_l2 (v1_i2 : Int32) (s11_i2 : OS) : Int32 → Option ((Int32) ⊕ (Int32)) := fun t_2 => if v1_i2 ≤ t_2 then (Option.map Sum.inr (some ((1 : Int32)))) else (chk (inb t_2 6) (nm (s11_i2.1 75 t_2.toNatClampNeg) fun y_14 => Option.bind (f11_isFit t_2 y_14 s11_i2) fun q_15 => if q_15 = 0 then (Option.map Sum.inr (some ((0 : Int32)))) else (loop (f11_isAnswer_l25 v1_i2 t_2 s11_i2) (0 : Int32))))
noncomputable def f11_isAnswer (a1 : Int32) (s11 : OS) : Option (Int32) := loop (f11_isAnswer_l2 a1 s11) (0 : Int32)
set_option maxHeartbeats 4000000 in
set_option maxRecDepth 100000 in
theorem m11_isAnswer (l : Launch) (D : va_G) (ad : Nat → Nat) (cy : Nat → ClassId) (sz : Nat) (s11 : OS) (a1 : Int32) (r : Int32) (h : f11_isAnswer a1 s11 = some r) : Met l yX11_isAnswer (wsOf yX11_isAnswer cX11_isAnswer 4 (some .boolean)) (rmL 1) (va_Pc ([.ref (ad 0), .int a1] : List Value) (PreG D cy (cellsM ad cy s11) sz NM)) (QcI D ad 66 (cellsM ad cy s11) (r) sz) 0 0 (Afr ad 66 sz) := by
  refine metG (own := RX11) (by decide) rfl (Nat.le_of_ble_eq_true rfl) fstM ?_ sz
  intro p e s m below meth c ls C0 hw hl
  obtain ⟨hx, hb, hml, hown, hts, hr, hlk, hK, hN⟩ := C0
  have hl : lv_has ls 4 [(0, .ref (ad 0)), (1, .int a1)] := hl
  generalize hQ : MQ below (QcI D ad 66 (cellsM ad cy s11) (r) s.heap.size) ([.ref (ad 0), .int a1] : List Value).toArray s 0 0 (Afr ad 66 s.heap.size) = Q
  obtain ⟨H, hH⟩ : ∃ H : Heap, H = s.heap := ⟨_, rfl⟩
  obtain ⟨locs, hlc⟩ : ∃ L : List Loc, L = [] := ⟨_, rfl⟩
  have hw : Wd D (cellsM ad cy s11) (Afr ad 66 s.heap.size) s.heap H locs := by rw [hH, hlc]; exact hw
  suffices h0 : W p l e (rmL 1) s m ([.ref (ad 0), .int a1] : List Value).toArray below meth c H locs 0 0 Q (F0 m 0 ls []) by rw [hH, hlc] at h0; exact h0
  clear hH hlc
  unfold f11_isAnswer at h
  refine lv_iconst (v := 0) hx hb dX11_isAnswer_0 (by decide) ?_
  refine lv_istore_n (lv' := [(2, .int ((0 : Int32))), (0, .ref (ad 0)), (1, .int a1)]) hx hb dX11_isAnswer_1 rfl hl (by decide) rfl (fun ls hl => ?_)
  obtain ⟨n_2, hn_2⟩ := loop_e h
  have hL_2 : ∀ (n : Nat) (t_2 : Int32) (H : Heap) (locs : List Loc) (ls : Array Slot), loopN (f11_isAnswer_l2 a1 s11) n t_2 = some r → Wd D (cellsM ad cy s11) (Afr ad 66 s.heap.size) s.heap H locs → lv_has ls 4 [(2, .int t_2), (1, .int a1), (0, .ref (ad 0))] → W p l e (rmL 1) s m ([.ref (ad 0), .int a1] : List Value).toArray below meth c H locs 0 0 Q (F0 m 2 ls []) := by
    intro n
    induction n with
    | zero => intro t_2 H locs ls hn; cases hn
    | succ n ih_2 =>
      intro t_2 H locs ls hn hw hl
      obtain ⟨x_2, h, hx_2⟩ := loopN_e hn
      unfold f11_isAnswer_l2 at h
      refine lv_iload_n hx hb dX11_isAnswer_2 rfl (lv_at hl 0 rfl) ?_
      refine lv_iload_n hx hb dX11_isAnswer_3 rfl (lv_at hl 1 rfl) ?_
      refine lv_icmp_ge (tgt := 59) hx hb dX11_isAnswer_4 (by decide) (fun c_4 => ?_) (fun c_4 => ?_)
      · have h := ite_t c_4 h
        have h := nx_m hx_2 h
        refine lv_iconst (v := 1) hx hb dX11_isAnswer_59 (by decide) ?_
        have h := Option.some.inj h
        subst h
        rw [← hQ]
        exact retI hx hb hr hlk hw (narB (v := (1 : Int32)) (by decide)) dX11_isAnswer_60
      · have h := ite_f c_4 h
        refine lv_aload_n hx hb dX11_isAnswer_7 rfl (lv_at hl 2 rfl) ?_
        refine lv_iload_n hx hb dX11_isAnswer_8 rfl (lv_at hl 0 rfl) ?_
        refine lv_aload_n hx hb dX11_isAnswer_9 rfl (lv_at hl 2 rfl) ?_
        refine gX11_163 hx hb hts hown hK hw dX11_isAnswer_10 ?_
        refine lv_iload_n hx hb dX11_isAnswer_13 rfl (lv_at hl 0 rfl) ?_
        obtain ⟨hi_14, h⟩ := chk_e h
        obtain ⟨y_14, e_14, h⟩ := nam_e h
        refine lM51 hx hb hK hw hi_14 e_14 dX11_isAnswer_14 ?_
        obtain ⟨q_15, h_15, h⟩ := bnd_e h
        have pg_15 := preG (av := [.ref (ad 0), .int t_2, .int y_14]) hK hw.1 hw.2.1 NM_keep NM_blind
        refine endI (mc := 0) (ms := 0) (va_runV (As := [.int t_2, .int y_14]) (rest := []) ⟨hx, hb, hml, hown, hts⟩ (m11_isFit l D ad cy H.size s11 t_2 y_14 q_15 h_15) (wX11_454 0 hts ⟨Nat.le_of_ble_eq_true rfl, Nat.le_of_ble_eq_true rfl⟩) ⟨pg_15.1, va_recv hK hw.1 (ci := 11) (q0 := 0) rfl eM_0, pg_15.2⟩ rfl rfl hl.1 rfl (lv_room (Nat.le_of_ble_eq_true rfl)) dX11_isAnswer_15 ⟨Nat.le_refl _, Nat.le_refl _⟩) hw.2.2 (afr_in hw.2.2) (fun H locs hw => ?_)
        refine lv_if_ne (tgt := 23) hx hb dX11_isAnswer_18 (by decide) (fun c_18 => ?_) (fun c_18 => ?_)
        · have h := ite_f c_18 h
          refine lv_iconst (v := 0) hx hb dX11_isAnswer_23 (by decide) ?_
          refine lv_istore_n (lv' := [(3, .int ((0 : Int32))), (2, .int t_2), (1, .int a1), (0, .ref (ad 0))]) hx hb dX11_isAnswer_24 rfl hl (by decide) rfl (fun ls hl => ?_)
          obtain ⟨n_25, hn_25⟩ := loop_e h
          have hL_25 : ∀ (n : Nat) (t_25 : Int32) (H : Heap) (locs : List Loc) (ls : Array Slot), loopN (f11_isAnswer_l25 a1 t_2 s11) n t_25 = some x_2 → Wd D (cellsM ad cy s11) (Afr ad 66 s.heap.size) s.heap H locs → lv_has ls 4 [(3, .int t_25), (1, .int a1), (2, .int t_2), (0, .ref (ad 0))] → W p l e (rmL 1) s m ([.ref (ad 0), .int a1] : List Value).toArray below meth c H locs 0 0 Q (F0 m 25 ls []) := by
            intro n
            induction n with
            | zero => intro t_25 H locs ls hn; cases hn
            | succ n ih_25 =>
              intro t_25 H locs ls hn hw hl
              obtain ⟨x_25, h, hx_25⟩ := loopN_e hn
              unfold f11_isAnswer_l25 at h
              refine lv_iload_n hx hb dX11_isAnswer_25 rfl (lv_at hl 0 rfl) ?_
              refine lv_iload_n hx hb dX11_isAnswer_26 rfl (lv_at hl 2 rfl) ?_
              refine lv_icmp_ge (tgt := 53) hx hb dX11_isAnswer_27 (by decide) (fun c_27 => ?_) (fun c_27 => ?_)
              · have h := ite_t c_27 h
                have h := nx_m hx_25 h
                obtain ⟨n_53, e_53, h⟩ := nam_e h
                refine lv_iinc (v := n_53) (lv' := [(2, .int n_53), (3, .int t_25), (1, .int a1), (0, .ref (ad 0))]) hx hb dX11_isAnswer_53 hl (k := 2) rfl (by rw [e_53]; rfl) (by decide) rfl (fun ls hl => ?_)
                refine lv_goto (tgt := 2) hx hb dX11_isAnswer_56 (by decide) ?_
                exact ih_2 n_53 H locs ls (nx_l hx_2 h) hw (lv_sub hl [0, 2, 3] rfl)
              · have h := ite_f c_27 h
                refine lv_aload_n hx hb dX11_isAnswer_30 rfl (lv_at hl 3 rfl) ?_
                refine gX11_163 hx hb hts hown hK hw dX11_isAnswer_31 ?_
                refine lv_iload_n hx hb dX11_isAnswer_34 rfl (lv_at hl 0 rfl) ?_
                obtain ⟨hi_35, h⟩ := chk_e h
                obtain ⟨y_35, e_35, h⟩ := nam_e h
                refine lM51 hx hb hK hw hi_35 e_35 dX11_isAnswer_35 ?_
                refine lv_aload_n hx hb dX11_isAnswer_36 rfl (lv_at hl 3 rfl) ?_
                refine gX11_163 hx hb hts hown hK hw dX11_isAnswer_37 ?_
                refine lv_iload_n hx hb dX11_isAnswer_40 rfl (lv_at hl 2 rfl) ?_
                obtain ⟨hi_41, h⟩ := chk_e h
                obtain ⟨y_41, e_41, h⟩ := nam_e h
                refine lM51 hx hb hK hw hi_41 e_41 dX11_isAnswer_41 ?_
                refine lv_icmp_ne (tgt := 47) hx hb dX11_isAnswer_42 (by decide) (fun c_42 => ?_) (fun c_42 => ?_)
                · have h := ite_f c_42 h
                  obtain ⟨n_47, e_47, h⟩ := nam_e h
                  refine lv_iinc (v := n_47) (lv' := [(3, .int n_47), (1, .int a1), (2, .int t_2), (0, .ref (ad 0))]) hx hb dX11_isAnswer_47 hl (k := 0) rfl (by rw [e_47]; rfl) (by decide) rfl (fun ls hl => ?_)
                  refine lv_goto (tgt := 25) hx hb dX11_isAnswer_50 (by decide) ?_
                  exact ih_25 n_47 H locs ls (nx_l hx_25 h) hw (lv_sub hl [0, 1, 2, 3] rfl)
                · have h := ite_t c_42 h
                  have h := nx_m hx_25 h
                  have h := nx_m hx_2 h
                  refine lv_iconst (v := 0) hx hb dX11_isAnswer_45 (by decide) ?_
                  have h := Option.some.inj h
                  subst h
                  rw [← hQ]
                  exact retI hx hb hr hlk hw (narB (v := (0 : Int32)) (by decide)) dX11_isAnswer_46
          exact hL_25 n_25 (0 : Int32) H locs ls hn_25 hw (lv_sub hl [0, 2, 1, 3] rfl)
        · have h := ite_t c_18 h
          have h := nx_m hx_2 h
          refine lv_iconst (v := 0) hx hb dX11_isAnswer_21 (by decide) ?_
          have h := Option.some.inj h
          subst h
          rw [← hQ]
          exact retI hx hb hr hlk hw (narB (v := (0 : Int32)) (by decide)) dX11_isAnswer_22
  exact hL_2 n_2 (0 : Int32) H locs ls hn_2 hw (lv_sub hl [0, 2, 1] rfl)
theorem dX11_isMixture_0 : decode cX11_isMixture 0 = .ok (.iconst 0, 1) := by decide +kernel
theorem dX11_isMixture_1 : decode cX11_isMixture 1 = .ok (.istore_n 2, 1) := by decide +kernel
theorem dX11_isMixture_2 : decode cX11_isMixture 2 = .ok (.iload_n 2, 1) := by decide +kernel
theorem dX11_isMixture_3 : decode cX11_isMixture 3 = .ok (.iload_n 1, 1) := by decide +kernel
theorem dX11_isMixture_4 : decode cX11_isMixture 4 = .ok (.if_icmp .ge 129, 3) := by decide +kernel
theorem dX11_isMixture_7 : decode cX11_isMixture 7 = .ok (.aload_n 0, 1) := by decide +kernel
theorem dX11_isMixture_8 : decode cX11_isMixture 8 = .ok (.iload_n 2, 1) := by decide +kernel
theorem dX11_isMixture_9 : decode cX11_isMixture 9 = .ok (.invokevirtual 275, 3) := by decide +kernel
theorem dX11_isMixture_12 : decode cX11_isMixture 12 = .ok (.istore_n 3, 1) := by decide +kernel
theorem dX11_isMixture_13 : decode cX11_isMixture 13 = .ok (.aload_n 0, 1) := by decide +kernel
theorem dX11_isMixture_14 : decode cX11_isMixture 14 = .ok (.iload_n 3, 1) := by decide +kernel
theorem dX11_isMixture_15 : decode cX11_isMixture 15 = .ok (.invokevirtual 238, 3) := by decide +kernel
theorem dX11_isMixture_18 : decode cX11_isMixture 18 = .ok (.ifCond .eq 14, 3) := by decide +kernel
theorem dX11_isMixture_21 : decode cX11_isMixture 21 = .ok (.aload_n 0, 1) := by decide +kernel
theorem dX11_isMixture_22 : decode cX11_isMixture 22 = .ok (.getfield 26, 3) := by decide +kernel
theorem dX11_isMixture_25 : decode cX11_isMixture 25 = .ok (.iload_n 3, 1) := by decide +kernel
theorem dX11_isMixture_26 : decode cX11_isMixture 26 = .ok (.iaload, 1) := by decide +kernel
theorem dX11_isMixture_27 : decode cX11_isMixture 27 = .ok (.bipush 12, 2) := by decide +kernel
theorem dX11_isMixture_29 : decode cX11_isMixture 29 = .ok (.if_icmp .ne 5, 3) := by decide +kernel
theorem dX11_isMixture_32 : decode cX11_isMixture 32 = .ok (.iconst 0, 1) := by decide +kernel
theorem dX11_isMixture_33 : decode cX11_isMixture 33 = .ok (.ireturn, 1) := by decide +kernel
theorem dX11_isMixture_34 : decode cX11_isMixture 34 = .ok (.iconst 0, 1) := by decide +kernel
theorem dX11_isMixture_35 : decode cX11_isMixture 35 = .ok (.istore 4, 2) := by decide +kernel
theorem dX11_isMixture_37 : decode cX11_isMixture 37 = .ok (.iload 4, 2) := by decide +kernel
theorem dX11_isMixture_39 : decode cX11_isMixture 39 = .ok (.iload_n 2, 1) := by decide +kernel
theorem dX11_isMixture_40 : decode cX11_isMixture 40 = .ok (.if_icmp .ge 21, 3) := by decide +kernel
theorem dX11_isMixture_43 : decode cX11_isMixture 43 = .ok (.aload_n 0, 1) := by decide +kernel
theorem dX11_isMixture_44 : decode cX11_isMixture 44 = .ok (.iload 4, 2) := by decide +kernel
theorem dX11_isMixture_46 : decode cX11_isMixture 46 = .ok (.invokevirtual 275, 3) := by decide +kernel
theorem dX11_isMixture_49 : decode cX11_isMixture 49 = .ok (.iload_n 3, 1) := by decide +kernel
theorem dX11_isMixture_50 : decode cX11_isMixture 50 = .ok (.if_icmp .ne 5, 3) := by decide +kernel
theorem dX11_isMixture_53 : decode cX11_isMixture 53 = .ok (.iconst 0, 1) := by decide +kernel
theorem dX11_isMixture_54 : decode cX11_isMixture 54 = .ok (.ireturn, 1) := by decide +kernel
theorem dX11_isMixture_55 : decode cX11_isMixture 55 = .ok (.iinc 4 1, 3) := by decide +kernel
theorem dX11_isMixture_58 : decode cX11_isMixture 58 = .ok (.goto (-21), 3) := by decide +kernel
theorem dX11_isMixture_61 : decode cX11_isMixture 61 = .ok (.aload_n 0, 1) := by decide +kernel
theorem dX11_isMixture_62 : decode cX11_isMixture 62 = .ok (.iload_n 1, 1) := by decide +kernel
theorem dX11_isMixture_63 : decode cX11_isMixture 63 = .ok (.iconst 3, 1) := by decide +kernel
theorem dX11_isMixture_64 : decode cX11_isMixture 64 = .ok (.iload_n 2, 1) := by decide +kernel
theorem dX11_isMixture_65 : decode cX11_isMixture 65 = .ok (.imul, 1) := by decide +kernel
theorem dX11_isMixture_66 : decode cX11_isMixture 66 = .ok (.iadd, 1) := by decide +kernel
theorem dX11_isMixture_67 : decode cX11_isMixture 67 = .ok (.invokevirtual 275, 3) := by decide +kernel
theorem dX11_isMixture_70 : decode cX11_isMixture 70 = .ok (.i2l, 1) := by decide +kernel
theorem dX11_isMixture_71 : decode cX11_isMixture 71 = .ok (.lconst 0, 1) := by decide +kernel
theorem dX11_isMixture_72 : decode cX11_isMixture 72 = .ok (.ldc2_w 450, 3) := by decide +kernel
theorem dX11_isMixture_75 : decode cX11_isMixture 75 = .ok (.invokestatic 215, 3) := by decide +kernel
theorem dX11_isMixture_78 : decode cX11_isMixture 78 = .ok (.ifCond .eq 47, 3) := by decide +kernel
theorem dX11_isMixture_81 : decode cX11_isMixture 81 = .ok (.aload_n 0, 1) := by decide +kernel
theorem dX11_isMixture_82 : decode cX11_isMixture 82 = .ok (.iload_n 1, 1) := by decide +kernel
theorem dX11_isMixture_83 : decode cX11_isMixture 83 = .ok (.iconst 3, 1) := by decide +kernel
theorem dX11_isMixture_84 : decode cX11_isMixture 84 = .ok (.iload_n 2, 1) := by decide +kernel
theorem dX11_isMixture_85 : decode cX11_isMixture 85 = .ok (.imul, 1) := by decide +kernel
theorem dX11_isMixture_86 : decode cX11_isMixture 86 = .ok (.iadd, 1) := by decide +kernel
theorem dX11_isMixture_87 : decode cX11_isMixture 87 = .ok (.iconst 1, 1) := by decide +kernel
theorem dX11_isMixture_88 : decode cX11_isMixture 88 = .ok (.iadd, 1) := by decide +kernel
theorem dX11_isMixture_89 : decode cX11_isMixture 89 = .ok (.invokevirtual 275, 3) := by decide +kernel
theorem dX11_isMixture_92 : decode cX11_isMixture 92 = .ok (.i2l, 1) := by decide +kernel
theorem dX11_isMixture_93 : decode cX11_isMixture 93 = .ok (.lconst 0, 1) := by decide +kernel
theorem dX11_isMixture_94 : decode cX11_isMixture 94 = .ok (.ldc2_w 441, 3) := by decide +kernel
theorem dX11_isMixture_97 : decode cX11_isMixture 97 = .ok (.invokestatic 215, 3) := by decide +kernel
theorem dX11_isMixture_100 : decode cX11_isMixture 100 = .ok (.ifCond .eq 25, 3) := by decide +kernel
theorem dX11_isMixture_103 : decode cX11_isMixture 103 = .ok (.aload_n 0, 1) := by decide +kernel
theorem dX11_isMixture_104 : decode cX11_isMixture 104 = .ok (.iload_n 1, 1) := by decide +kernel
theorem dX11_isMixture_105 : decode cX11_isMixture 105 = .ok (.iconst 3, 1) := by decide +kernel
theorem dX11_isMixture_106 : decode cX11_isMixture 106 = .ok (.iload_n 2, 1) := by decide +kernel
theorem dX11_isMixture_107 : decode cX11_isMixture 107 = .ok (.imul, 1) := by decide +kernel
theorem dX11_isMixture_108 : decode cX11_isMixture 108 = .ok (.iadd, 1) := by decide +kernel
theorem dX11_isMixture_109 : decode cX11_isMixture 109 = .ok (.iconst 2, 1) := by decide +kernel
theorem dX11_isMixture_110 : decode cX11_isMixture 110 = .ok (.iadd, 1) := by decide +kernel
theorem dX11_isMixture_111 : decode cX11_isMixture 111 = .ok (.invokevirtual 275, 3) := by decide +kernel
theorem dX11_isMixture_114 : decode cX11_isMixture 114 = .ok (.i2l, 1) := by decide +kernel
theorem dX11_isMixture_115 : decode cX11_isMixture 115 = .ok (.lconst 0, 1) := by decide +kernel
theorem dX11_isMixture_116 : decode cX11_isMixture 116 = .ok (.ldc2_w 452, 3) := by decide +kernel
theorem dX11_isMixture_119 : decode cX11_isMixture 119 = .ok (.invokestatic 215, 3) := by decide +kernel
theorem dX11_isMixture_122 : decode cX11_isMixture 122 = .ok (.ifCond .ne 5, 3) := by decide +kernel
theorem dX11_isMixture_125 : decode cX11_isMixture 125 = .ok (.iconst 0, 1) := by decide +kernel
theorem dX11_isMixture_126 : decode cX11_isMixture 126 = .ok (.ireturn, 1) := by decide +kernel
theorem dX11_isMixture_127 : decode cX11_isMixture 127 = .ok (.iinc 2 1, 3) := by decide +kernel
theorem dX11_isMixture_130 : decode cX11_isMixture 130 = .ok (.goto (-128), 3) := by decide +kernel
theorem dX11_isMixture_133 : decode cX11_isMixture 133 = .ok (.iconst 1, 1) := by decide +kernel
theorem dX11_isMixture_134 : decode cX11_isMixture 134 = .ok (.ireturn, 1) := by decide +kernel
noncomputable def f11_isMixture_j125 (s11_j125 : OS) : Option (Int32) := some ((0 : Int32))
noncomputable def f11_isMixture_j32 (s11_j32 : OS) : Option (Int32) := some ((0 : Int32))
noncomputable def f11_isMixture_l37 (v1_i37 : Int32) (v2_i37 : Int32) (v3_i37 : Int32) (s11_i37 : OS) : Int32 → Option ((Int32) ⊕ ((Int32) ⊕ (Int32))) := fun t_37 => if v2_i37 ≤ t_37 then (Option.map Sum.inr (Option.bind (f11_numberAt ((v1_i37 + ((3 : Int32) * v2_i37))) s11_i37) fun q_67 => Option.bind (f11_lies ((q_67).toInt64) ((0 : Int64)) ((1000001000 : Int64))) fun q_75 => if q_75 = 0 then (Option.map Sum.inr (f11_isMixture_j125 s11_i37)) else (Option.bind (f11_numberAt (((v1_i37 + ((3 : Int32) * v2_i37)) + (1 : Int32))) s11_i37) fun q_89 => Option.bind (f11_lies ((q_89).toInt64) ((0 : Int64)) ((1000 : Int64))) fun q_97 => if q_97 = 0 then (Option.map Sum.inr (f11_isMixture_j125 s11_i37)) else (Option.bind (f11_numberAt (((v1_i37 + ((3 : Int32) * v2_i37)) + (2 : Int32))) s11_i37) fun q_111 => Option.bind (f11_lies ((q_111).toInt64) ((0 : Int64)) ((8 : Int64))) fun q_119 => if q_119 = 0 then (Option.map Sum.inr (f11_isMixture_j125 s11_i37)) else (nm (v2_i37 + (1 : Int32)) fun n_127 => some (Sum.inl n_127)))))) else (Option.bind (f11_numberAt t_37 s11_i37) fun q_46 => if q_46 = v3_i37 then (Option.map Sum.inr (Option.map Sum.inr (some ((0 : Int32))))) else (nm (t_37 + (1 : Int32)) fun n_55 => some (Sum.inl n_55)))
noncomputable def f11_isMixture_l2 (v1_i2 : Int32) (s11_i2 : OS) : Int32 → Option ((Int32) ⊕ (Int32)) := fun t_2 => if v1_i2 ≤ t_2 then (Option.map Sum.inr (some ((1 : Int32)))) else (Option.bind (f11_numberAt t_2 s11_i2) fun q_9 => Option.bind (f11_isPiece q_9 s11_i2) fun q_15 => if q_15 = 0 then (Option.map Sum.inr (f11_isMixture_j32 s11_i2)) else (chk (inb q_9 150) (nm (s11_i2.1 16 q_9.toNatClampNeg) fun y_26 => if y_26 = (12 : Int32) then (Option.map Sum.inr (f11_isMixture_j32 s11_i2)) else (loop (f11_isMixture_l37 v1_i2 t_2 q_9 s11_i2) (0 : Int32)))))
noncomputable def f11_isMixture (a1 : Int32) (s11 : OS) : Option (Int32) := loop (f11_isMixture_l2 a1 s11) (0 : Int32)
set_option maxHeartbeats 4000000 in
set_option maxRecDepth 100000 in
theorem m11_isMixture (l : Launch) (D : va_G) (ad : Nat → Nat) (cy : Nat → ClassId) (sz : Nat) (s11 : OS) (a1 : Int32) (r : Int32) (h : f11_isMixture a1 s11 = some r) : Met l yX11_isMixture (wsOf yX11_isMixture cX11_isMixture 5 (some .boolean)) (rmL 2) (va_Pc ([.ref (ad 0), .int a1] : List Value) (PreG D cy (cellsM ad cy s11) sz NM)) (QcI D ad 66 (cellsM ad cy s11) (r) sz) 0 0 (Afr ad 66 sz) := by
  refine metG (own := RX11) (by decide) rfl (Nat.le_of_ble_eq_true rfl) fstM ?_ sz
  intro p e s m below meth c ls C0 hw hl
  obtain ⟨hx, hb, hml, hown, hts, hr, hlk, hK, hN⟩ := C0
  have hl : lv_has ls 5 [(0, .ref (ad 0)), (1, .int a1)] := hl
  generalize hQ : MQ below (QcI D ad 66 (cellsM ad cy s11) (r) s.heap.size) ([.ref (ad 0), .int a1] : List Value).toArray s 0 0 (Afr ad 66 s.heap.size) = Q
  obtain ⟨H, hH⟩ : ∃ H : Heap, H = s.heap := ⟨_, rfl⟩
  obtain ⟨locs, hlc⟩ : ∃ L : List Loc, L = [] := ⟨_, rfl⟩
  have hw : Wd D (cellsM ad cy s11) (Afr ad 66 s.heap.size) s.heap H locs := by rw [hH, hlc]; exact hw
  suffices h0 : W p l e (rmL 2) s m ([.ref (ad 0), .int a1] : List Value).toArray below meth c H locs 0 0 Q (F0 m 0 ls []) by rw [hH, hlc] at h0; exact h0
  clear hH hlc
  unfold f11_isMixture at h
  have hJ_125 : ∀  (H : Heap) (locs : List Loc) (ls : Array Slot), f11_isMixture_j125 s11 = some r → Wd D (cellsM ad cy s11) (Afr ad 66 s.heap.size) s.heap H locs → lv_has ls 5 [] → W p l e (rmL 2) s m ([.ref (ad 0), .int a1] : List Value).toArray below meth c H locs 0 0 Q (F0 m 125 ls []) := by
    intro  H locs ls h hw hl
    unfold f11_isMixture_j125 at h
    refine lv_iconst (v := 0) hx hb dX11_isMixture_125 (by decide) ?_
    have h := Option.some.inj h
    subst h
    rw [← hQ]
    exact retI hx hb hr hlk hw (narB (v := (0 : Int32)) (by decide)) dX11_isMixture_126
  have hJ_32 : ∀  (H : Heap) (locs : List Loc) (ls : Array Slot), f11_isMixture_j32 s11 = some r → Wd D (cellsM ad cy s11) (Afr ad 66 s.heap.size) s.heap H locs → lv_has ls 5 [] → W p l e (rmL 2) s m ([.ref (ad 0), .int a1] : List Value).toArray below meth c H locs 0 0 Q (F0 m 32 ls []) := by
    intro  H locs ls h hw hl
    unfold f11_isMixture_j32 at h
    refine lv_iconst (v := 0) hx hb dX11_isMixture_32 (by decide) ?_
    have h := Option.some.inj h
    subst h
    rw [← hQ]
    exact retI hx hb hr hlk hw (narB (v := (0 : Int32)) (by decide)) dX11_isMixture_33
  refine lv_iconst (v := 0) hx hb dX11_isMixture_0 (by decide) ?_
  refine lv_istore_n (lv' := [(2, .int ((0 : Int32))), (0, .ref (ad 0)), (1, .int a1)]) hx hb dX11_isMixture_1 rfl hl (by decide) rfl (fun ls hl => ?_)
  obtain ⟨n_2, hn_2⟩ := loop_e h
  have hL_2 : ∀ (n : Nat) (t_2 : Int32) (H : Heap) (locs : List Loc) (ls : Array Slot), loopN (f11_isMixture_l2 a1 s11) n t_2 = some r → Wd D (cellsM ad cy s11) (Afr ad 66 s.heap.size) s.heap H locs → lv_has ls 5 [(2, .int t_2), (1, .int a1), (0, .ref (ad 0))] → W p l e (rmL 2) s m ([.ref (ad 0), .int a1] : List Value).toArray below meth c H locs 0 0 Q (F0 m 2 ls []) := by
    intro n
    induction n with
    | zero => intro t_2 H locs ls hn; cases hn
    | succ n ih_2 =>
      intro t_2 H locs ls hn hw hl
      obtain ⟨x_2, h, hx_2⟩ := loopN_e hn
      unfold f11_isMixture_l2 at h
      refine lv_iload_n hx hb dX11_isMixture_2 rfl (lv_at hl 0 rfl) ?_
      refine lv_iload_n hx hb dX11_isMixture_3 rfl (lv_at hl 1 rfl) ?_
      refine lv_icmp_ge (tgt := 133) hx hb dX11_isMixture_4 (by decide) (fun c_4 => ?_) (fun c_4 => ?_)
      · have h := ite_t c_4 h
        have h := nx_m hx_2 h
        refine lv_iconst (v := 1) hx hb dX11_isMixture_133 (by decide) ?_
        have h := Option.some.inj h
        subst h
        rw [← hQ]
        exact retI hx hb hr hlk hw (narB (v := (1 : Int32)) (by decide)) dX11_isMixture_134
      · have h := ite_f c_4 h
        refine lv_aload_n hx hb dX11_isMixture_7 rfl (lv_at hl 2 rfl) ?_
        refine lv_iload_n hx hb dX11_isMixture_8 rfl (lv_at hl 0 rfl) ?_
        obtain ⟨q_9, h_9, h⟩ := bnd_e h
        have pg_9 := preG (av := [.ref (ad 0), .int t_2]) hK hw.1 hw.2.1 NM_keep NM_blind
        refine endI (mc := 0) (ms := 0) (va_runV (As := [.int t_2]) (rest := []) ⟨hx, hb, hml, hown, hts⟩ (m11_numberAt l D ad cy H.size s11 t_2 q_9 h_9) (wX11_275 0 hts ⟨Nat.le_of_ble_eq_true rfl, Nat.le_of_ble_eq_true rfl⟩) ⟨pg_9.1, va_recv hK hw.1 (ci := 11) (q0 := 0) rfl eM_0, pg_9.2⟩ rfl rfl hl.1 rfl (lv_room (Nat.le_of_ble_eq_true rfl)) dX11_isMixture_9 ⟨Nat.le_refl _, Nat.le_refl _⟩) hw.2.2 (afr_in hw.2.2) (fun H locs hw => ?_)
        refine lv_istore_n (lv' := [(3, .int q_9), (2, .int t_2), (1, .int a1), (0, .ref (ad 0))]) hx hb dX11_isMixture_12 rfl hl (by decide) rfl (fun ls hl => ?_)
        refine lv_aload_n hx hb dX11_isMixture_13 rfl (lv_at hl 3 rfl) ?_
        refine lv_iload_n hx hb dX11_isMixture_14 rfl (lv_at hl 0 rfl) ?_
        obtain ⟨q_15, h_15, h⟩ := bnd_e h
        have pg_15 := preG (av := [.ref (ad 0), .int q_9]) hK hw.1 hw.2.1 NM_keep NM_blind
        refine endI (mc := 0) (ms := 0) (va_runV (As := [.int q_9]) (rest := []) ⟨hx, hb, hml, hown, hts⟩ (m11_isPiece l D ad cy H.size s11 q_9 q_15 h_15) (wX11_238 1 hts ⟨Nat.le_of_ble_eq_true rfl, Nat.le_of_ble_eq_true rfl⟩) ⟨pg_15.1, va_recv hK hw.1 (ci := 11) (q0 := 0) rfl eM_0, pg_15.2⟩ rfl rfl hl.1 rfl (lv_room (Nat.le_of_ble_eq_true rfl)) dX11_isMixture_15 ⟨Nat.le_refl _, Nat.le_refl _⟩) hw.2.2 (afr_in hw.2.2) (fun H locs hw => ?_)
        refine lv_if_eq (tgt := 32) hx hb dX11_isMixture_18 (by decide) (fun c_18 => ?_) (fun c_18 => ?_)
        · have h := ite_t c_18 h
          have h := nx_m hx_2 h
          exact hJ_32  H locs ls h hw (lv_sub hl [] rfl)
        · have h := ite_f c_18 h
          refine lv_aload_n hx hb dX11_isMixture_21 rfl (lv_at hl 3 rfl) ?_
          refine gX11_26 hx hb hts hown hK hw dX11_isMixture_22 ?_
          refine lv_iload_n hx hb dX11_isMixture_25 rfl (lv_at hl 0 rfl) ?_
          obtain ⟨hi_26, h⟩ := chk_e h
          obtain ⟨y_26, e_26, h⟩ := nam_e h
          refine lM6 hx hb hK hw hi_26 e_26 dX11_isMixture_26 ?_
          refine lv_bipush (v := 12) hx hb dX11_isMixture_27 (by decide) ?_
          refine lv_icmp_ne (tgt := 34) hx hb dX11_isMixture_29 (by decide) (fun c_29 => ?_) (fun c_29 => ?_)
          · have h := ite_f c_29 h
            refine lv_iconst (v := 0) hx hb dX11_isMixture_34 (by decide) ?_
            refine lv_istore (lv' := [(4, .int ((0 : Int32))), (3, .int q_9), (2, .int t_2), (1, .int a1), (0, .ref (ad 0))]) hx hb dX11_isMixture_35 hl (by decide) rfl (fun ls hl => ?_)
            obtain ⟨n_37, hn_37⟩ := loop_e h
            have hL_37 : ∀ (n : Nat) (t_37 : Int32) (H : Heap) (locs : List Loc) (ls : Array Slot), loopN (f11_isMixture_l37 a1 t_2 q_9 s11) n t_37 = some x_2 → Wd D (cellsM ad cy s11) (Afr ad 66 s.heap.size) s.heap H locs → lv_has ls 5 [(4, .int t_37), (1, .int a1), (2, .int t_2), (3, .int q_9), (0, .ref (ad 0))] → W p l e (rmL 2) s m ([.ref (ad 0), .int a1] : List Value).toArray below meth c H locs 0 0 Q (F0 m 37 ls []) := by
              intro n
              induction n with
              | zero => intro t_37 H locs ls hn; cases hn
              | succ n ih_37 =>
                intro t_37 H locs ls hn hw hl
                obtain ⟨x_37, h, hx_37⟩ := loopN_e hn
                unfold f11_isMixture_l37 at h
                refine lv_iload hx hb dX11_isMixture_37 (lv_at hl 0 rfl) ?_
                refine lv_iload_n hx hb dX11_isMixture_39 rfl (lv_at hl 2 rfl) ?_
                refine lv_icmp_ge (tgt := 61) hx hb dX11_isMixture_40 (by decide) (fun c_40 => ?_) (fun c_40 => ?_)
                · have h := ite_t c_40 h
                  have h := nx_m hx_37 h
                  refine lv_aload_n hx hb dX11_isMixture_61 rfl (lv_at hl 4 rfl) ?_
                  refine lv_iload_n hx hb dX11_isMixture_62 rfl (lv_at hl 1 rfl) ?_
                  refine lv_iconst (v := 3) hx hb dX11_isMixture_63 (by decide) ?_
                  refine lv_iload_n hx hb dX11_isMixture_64 rfl (lv_at hl 2 rfl) ?_
                  refine lv_imul hx hb dX11_isMixture_65 ?_
                  refine lv_iadd hx hb dX11_isMixture_66 ?_
                  obtain ⟨q_67, h_67, h⟩ := bnd_e h
                  have pg_67 := preG (av := [.ref (ad 0), .int ((a1 + ((3 : Int32) * t_2)))]) hK hw.1 hw.2.1 NM_keep NM_blind
                  refine endI (mc := 0) (ms := 0) (va_runV (As := [.int ((a1 + ((3 : Int32) * t_2)))]) (rest := []) ⟨hx, hb, hml, hown, hts⟩ (m11_numberAt l D ad cy H.size s11 ((a1 + ((3 : Int32) * t_2))) q_67 h_67) (wX11_275 0 hts ⟨Nat.le_of_ble_eq_true rfl, Nat.le_of_ble_eq_true rfl⟩) ⟨pg_67.1, va_recv hK hw.1 (ci := 11) (q0 := 0) rfl eM_0, pg_67.2⟩ rfl rfl hl.1 rfl (lv_room (Nat.le_of_ble_eq_true rfl)) dX11_isMixture_67 ⟨Nat.le_refl _, Nat.le_refl _⟩) hw.2.2 (afr_in hw.2.2) (fun H locs hw => ?_)
                  refine lv_i2l hx hb dX11_isMixture_70 rfl ?_
                  refine lv_lconst (v := 0) hx hb dX11_isMixture_71 (by decide) ?_
                  refine lv_ldc2 (v := 1000001000) hx hb hown (hts _ (wd_8 (w := .constantLong RX11 450 1000001000) (i := 86) (by decide +kernel) rfl)) dX11_isMixture_72 ?_
                  obtain ⟨q_75, h_75, h⟩ := bnd_e h
                  have pg_75 := preG (av := [.long ((q_67).toInt64), .long ((0 : Int64)), .long ((1000001000 : Int64))]) hK hw.1 hw.2.1 NM_keep NM_blind
                  refine endI (mc := 0) (ms := 0) (va_runS (As := [.long ((q_67).toInt64), .long ((0 : Int64)), .long ((1000001000 : Int64))]) (rest := []) ⟨hx, hb, hml, hown, hts⟩ (m11_lies l D ad cy H.size s11 ((q_67).toInt64) ((0 : Int64)) ((1000001000 : Int64)) q_75 h_75) (wX11_215 0 hts ⟨Nat.le_of_ble_eq_true rfl, Nat.le_of_ble_eq_true rfl⟩) pg_75 rfl rfl hl.1 rfl (lv_room (Nat.le_of_ble_eq_true rfl)) dX11_isMixture_75 ⟨Nat.le_refl _, Nat.le_refl _⟩) hw.2.2 (afr_in hw.2.2) (fun H locs hw => ?_)
                  refine lv_if_eq (tgt := 125) hx hb dX11_isMixture_78 (by decide) (fun c_78 => ?_) (fun c_78 => ?_)
                  · have h := ite_t c_78 h
                    have h := nx_m hx_2 h
                    exact hJ_125  H locs ls h hw (lv_sub hl [] rfl)
                  · have h := ite_f c_78 h
                    refine lv_aload_n hx hb dX11_isMixture_81 rfl (lv_at hl 4 rfl) ?_
                    refine lv_iload_n hx hb dX11_isMixture_82 rfl (lv_at hl 1 rfl) ?_
                    refine lv_iconst (v := 3) hx hb dX11_isMixture_83 (by decide) ?_
                    refine lv_iload_n hx hb dX11_isMixture_84 rfl (lv_at hl 2 rfl) ?_
                    refine lv_imul hx hb dX11_isMixture_85 ?_
                    refine lv_iadd hx hb dX11_isMixture_86 ?_
                    refine lv_iconst (v := 1) hx hb dX11_isMixture_87 (by decide) ?_
                    refine lv_iadd hx hb dX11_isMixture_88 ?_
                    obtain ⟨q_89, h_89, h⟩ := bnd_e h
                    have pg_89 := preG (av := [.ref (ad 0), .int (((a1 + ((3 : Int32) * t_2)) + (1 : Int32)))]) hK hw.1 hw.2.1 NM_keep NM_blind
                    refine endI (mc := 0) (ms := 0) (va_runV (As := [.int (((a1 + ((3 : Int32) * t_2)) + (1 : Int32)))]) (rest := []) ⟨hx, hb, hml, hown, hts⟩ (m11_numberAt l D ad cy H.size s11 (((a1 + ((3 : Int32) * t_2)) + (1 : Int32))) q_89 h_89) (wX11_275 0 hts ⟨Nat.le_of_ble_eq_true rfl, Nat.le_of_ble_eq_true rfl⟩) ⟨pg_89.1, va_recv hK hw.1 (ci := 11) (q0 := 0) rfl eM_0, pg_89.2⟩ rfl rfl hl.1 rfl (lv_room (Nat.le_of_ble_eq_true rfl)) dX11_isMixture_89 ⟨Nat.le_refl _, Nat.le_refl _⟩) hw.2.2 (afr_in hw.2.2) (fun H locs hw => ?_)
                    refine lv_i2l hx hb dX11_isMixture_92 rfl ?_
                    refine lv_lconst (v := 0) hx hb dX11_isMixture_93 (by decide) ?_
                    refine lv_ldc2 (v := 1000) hx hb hown (hts _ (wd_8 (w := .constantLong RX11 441 1000) (i := 70) (by decide +kernel) rfl)) dX11_isMixture_94 ?_
                    obtain ⟨q_97, h_97, h⟩ := bnd_e h
                    have pg_97 := preG (av := [.long ((q_89).toInt64), .long ((0 : Int64)), .long ((1000 : Int64))]) hK hw.1 hw.2.1 NM_keep NM_blind
                    refine endI (mc := 0) (ms := 0) (va_runS (As := [.long ((q_89).toInt64), .long ((0 : Int64)), .long ((1000 : Int64))]) (rest := []) ⟨hx, hb, hml, hown, hts⟩ (m11_lies l D ad cy H.size s11 ((q_89).toInt64) ((0 : Int64)) ((1000 : Int64)) q_97 h_97) (wX11_215 0 hts ⟨Nat.le_of_ble_eq_true rfl, Nat.le_of_ble_eq_true rfl⟩) pg_97 rfl rfl hl.1 rfl (lv_room (Nat.le_of_ble_eq_true rfl)) dX11_isMixture_97 ⟨Nat.le_refl _, Nat.le_refl _⟩) hw.2.2 (afr_in hw.2.2) (fun H locs hw => ?_)
                    refine lv_if_eq (tgt := 125) hx hb dX11_isMixture_100 (by decide) (fun c_100 => ?_) (fun c_100 => ?_)
                    · have h := ite_t c_100 h
                      have h := nx_m hx_2 h
                      exact hJ_125  H locs ls h hw (lv_sub hl [] rfl)
                    · have h := ite_f c_100 h
                      refine lv_aload_n hx hb dX11_isMixture_103 rfl (lv_at hl 4 rfl) ?_
                      refine lv_iload_n hx hb dX11_isMixture_104 rfl (lv_at hl 1 rfl) ?_
                      refine lv_iconst (v := 3) hx hb dX11_isMixture_105 (by decide) ?_
                      refine lv_iload_n hx hb dX11_isMixture_106 rfl (lv_at hl 2 rfl) ?_
                      refine lv_imul hx hb dX11_isMixture_107 ?_
                      refine lv_iadd hx hb dX11_isMixture_108 ?_
                      refine lv_iconst (v := 2) hx hb dX11_isMixture_109 (by decide) ?_
                      refine lv_iadd hx hb dX11_isMixture_110 ?_
                      obtain ⟨q_111, h_111, h⟩ := bnd_e h
                      have pg_111 := preG (av := [.ref (ad 0), .int (((a1 + ((3 : Int32) * t_2)) + (2 : Int32)))]) hK hw.1 hw.2.1 NM_keep NM_blind
                      refine endI (mc := 0) (ms := 0) (va_runV (As := [.int (((a1 + ((3 : Int32) * t_2)) + (2 : Int32)))]) (rest := []) ⟨hx, hb, hml, hown, hts⟩ (m11_numberAt l D ad cy H.size s11 (((a1 + ((3 : Int32) * t_2)) + (2 : Int32))) q_111 h_111) (wX11_275 0 hts ⟨Nat.le_of_ble_eq_true rfl, Nat.le_of_ble_eq_true rfl⟩) ⟨pg_111.1, va_recv hK hw.1 (ci := 11) (q0 := 0) rfl eM_0, pg_111.2⟩ rfl rfl hl.1 rfl (lv_room (Nat.le_of_ble_eq_true rfl)) dX11_isMixture_111 ⟨Nat.le_refl _, Nat.le_refl _⟩) hw.2.2 (afr_in hw.2.2) (fun H locs hw => ?_)
                      refine lv_i2l hx hb dX11_isMixture_114 rfl ?_
                      refine lv_lconst (v := 0) hx hb dX11_isMixture_115 (by decide) ?_
                      refine lv_ldc2 (v := 8) hx hb hown (hts _ (wd_8 (w := .constantLong RX11 452 8) (i := 99) (by decide +kernel) rfl)) dX11_isMixture_116 ?_
                      obtain ⟨q_119, h_119, h⟩ := bnd_e h
                      have pg_119 := preG (av := [.long ((q_111).toInt64), .long ((0 : Int64)), .long ((8 : Int64))]) hK hw.1 hw.2.1 NM_keep NM_blind
                      refine endI (mc := 0) (ms := 0) (va_runS (As := [.long ((q_111).toInt64), .long ((0 : Int64)), .long ((8 : Int64))]) (rest := []) ⟨hx, hb, hml, hown, hts⟩ (m11_lies l D ad cy H.size s11 ((q_111).toInt64) ((0 : Int64)) ((8 : Int64)) q_119 h_119) (wX11_215 0 hts ⟨Nat.le_of_ble_eq_true rfl, Nat.le_of_ble_eq_true rfl⟩) pg_119 rfl rfl hl.1 rfl (lv_room (Nat.le_of_ble_eq_true rfl)) dX11_isMixture_119 ⟨Nat.le_refl _, Nat.le_refl _⟩) hw.2.2 (afr_in hw.2.2) (fun H locs hw => ?_)
                      refine lv_if_ne (tgt := 127) hx hb dX11_isMixture_122 (by decide) (fun c_122 => ?_) (fun c_122 => ?_)
                      · have h := ite_f c_122 h
                        obtain ⟨n_127, e_127, h⟩ := nam_e h
                        refine lv_iinc (v := n_127) (lv' := [(2, .int n_127), (4, .int t_37), (1, .int a1), (3, .int q_9), (0, .ref (ad 0))]) hx hb dX11_isMixture_127 hl (k := 2) rfl (by rw [e_127]; rfl) (by decide) rfl (fun ls hl => ?_)
                        refine lv_goto (tgt := 2) hx hb dX11_isMixture_130 (by decide) ?_
                        exact ih_2 n_127 H locs ls (nx_l hx_2 h) hw (lv_sub hl [0, 2, 4] rfl)
                      · have h := ite_t c_122 h
                        have h := nx_m hx_2 h
                        exact hJ_125  H locs ls h hw (lv_sub hl [] rfl)
                · have h := ite_f c_40 h
                  refine lv_aload_n hx hb dX11_isMixture_43 rfl (lv_at hl 4 rfl) ?_
                  refine lv_iload hx hb dX11_isMixture_44 (lv_at hl 0 rfl) ?_
                  obtain ⟨q_46, h_46, h⟩ := bnd_e h
                  have pg_46 := preG (av := [.ref (ad 0), .int t_37]) hK hw.1 hw.2.1 NM_keep NM_blind
                  refine endI (mc := 0) (ms := 0) (va_runV (As := [.int t_37]) (rest := []) ⟨hx, hb, hml, hown, hts⟩ (m11_numberAt l D ad cy H.size s11 t_37 q_46 h_46) (wX11_275 0 hts ⟨Nat.le_of_ble_eq_true rfl, Nat.le_of_ble_eq_true rfl⟩) ⟨pg_46.1, va_recv hK hw.1 (ci := 11) (q0 := 0) rfl eM_0, pg_46.2⟩ rfl rfl hl.1 rfl (lv_room (Nat.le_of_ble_eq_true rfl)) dX11_isMixture_46 ⟨Nat.le_refl _, Nat.le_refl _⟩) hw.2.2 (afr_in hw.2.2) (fun H locs hw => ?_)
                  refine lv_iload_n hx hb dX11_isMixture_49 rfl (lv_at hl 3 rfl) ?_
                  refine lv_icmp_ne (tgt := 55) hx hb dX11_isMixture_50 (by decide) (fun c_50 => ?_) (fun c_50 => ?_)
                  · have h := ite_f c_50 h
                    obtain ⟨n_55, e_55, h⟩ := nam_e h
                    refine lv_iinc (v := n_55) (lv' := [(4, .int n_55), (1, .int a1), (2, .int t_2), (3, .int q_9), (0, .ref (ad 0))]) hx hb dX11_isMixture_55 hl (k := 0) rfl (by rw [e_55]; rfl) (by decide) rfl (fun ls hl => ?_)
                    refine lv_goto (tgt := 37) hx hb dX11_isMixture_58 (by decide) ?_
                    exact ih_37 n_55 H locs ls (nx_l hx_37 h) hw (lv_sub hl [0, 1, 2, 3, 4] rfl)
                  · have h := ite_t c_50 h
                    have h := nx_m hx_37 h
                    have h := nx_m hx_2 h
                    refine lv_iconst (v := 0) hx hb dX11_isMixture_53 (by decide) ?_
                    have h := Option.some.inj h
                    subst h
                    rw [← hQ]
                    exact retI hx hb hr hlk hw (narB (v := (0 : Int32)) (by decide)) dX11_isMixture_54
            exact hL_37 n_37 (0 : Int32) H locs ls hn_37 hw (lv_sub hl [0, 3, 2, 1, 4] rfl)
          · have h := ite_t c_29 h
            have h := nx_m hx_2 h
            exact hJ_32  H locs ls h hw (lv_sub hl [] rfl)
  exact hL_2 n_2 (0 : Int32) H locs ls hn_2 hw (lv_sub hl [0, 2, 1] rfl)
theorem dX11_turns_0 : decode cX11_turns 0 = .ok (.iload_n 1, 1) := by decide +kernel
theorem dX11_turns_1 : decode cX11_turns 1 = .ok (.iconst 1, 1) := by decide +kernel
theorem dX11_turns_2 : decode cX11_turns 2 = .ok (.isub, 1) := by decide +kernel
theorem dX11_turns_3 : decode cX11_turns 3 = .ok (.istore_n 2, 1) := by decide +kernel
theorem dX11_turns_4 : decode cX11_turns 4 = .ok (.iload_n 2, 1) := by decide +kernel
theorem dX11_turns_5 : decode cX11_turns 5 = .ok (.ifCond .lt 28, 3) := by decide +kernel
theorem dX11_turns_8 : decode cX11_turns 8 = .ok (.aload_n 0, 1) := by decide +kernel
theorem dX11_turns_9 : decode cX11_turns 9 = .ok (.getfield 163, 3) := by decide +kernel
theorem dX11_turns_12 : decode cX11_turns 12 = .ok (.iload_n 2, 1) := by decide +kernel
theorem dX11_turns_13 : decode cX11_turns 13 = .ok (.iaload, 1) := by decide +kernel
theorem dX11_turns_14 : decode cX11_turns 14 = .ok (.iload_n 1, 1) := by decide +kernel
theorem dX11_turns_15 : decode cX11_turns 15 = .ok (.iconst 1, 1) := by decide +kernel
theorem dX11_turns_16 : decode cX11_turns 16 = .ok (.isub, 1) := by decide +kernel
theorem dX11_turns_17 : decode cX11_turns 17 = .ok (.if_icmp .ne 16, 3) := by decide +kernel
theorem dX11_turns_20 : decode cX11_turns 20 = .ok (.aload_n 0, 1) := by decide +kernel
theorem dX11_turns_21 : decode cX11_turns 21 = .ok (.getfield 163, 3) := by decide +kernel
theorem dX11_turns_24 : decode cX11_turns 24 = .ok (.iload_n 2, 1) := by decide +kernel
theorem dX11_turns_25 : decode cX11_turns 25 = .ok (.iconst 0, 1) := by decide +kernel
theorem dX11_turns_26 : decode cX11_turns 26 = .ok (.iastore, 1) := by decide +kernel
theorem dX11_turns_27 : decode cX11_turns 27 = .ok (.iinc 2 (-1), 3) := by decide +kernel
theorem dX11_turns_30 : decode cX11_turns 30 = .ok (.goto (-26), 3) := by decide +kernel
theorem dX11_turns_33 : decode cX11_turns 33 = .ok (.iload_n 2, 1) := by decide +kernel
theorem dX11_turns_34 : decode cX11_turns 34 = .ok (.ifCond .ge 5, 3) := by decide +kernel
theorem dX11_turns_37 : decode cX11_turns 37 = .ok (.iconst 0, 1) := by decide +kernel
theorem dX11_turns_38 : decode cX11_turns 38 = .ok (.ireturn, 1) := by decide +kernel
theorem dX11_turns_39 : decode cX11_turns 39 = .ok (.aload_n 0, 1) := by decide +kernel
theorem dX11_turns_40 : decode cX11_turns 40 = .ok (.getfield 163, 3) := by decide +kernel
theorem dX11_turns_43 : decode cX11_turns 43 = .ok (.iload_n 2, 1) := by decide +kernel
theorem dX11_turns_44 : decode cX11_turns 44 = .ok (.dup2, 1) := by decide +kernel
theorem dX11_turns_45 : decode cX11_turns 45 = .ok (.iaload, 1) := by decide +kernel
theorem dX11_turns_46 : decode cX11_turns 46 = .ok (.iconst 1, 1) := by decide +kernel
theorem dX11_turns_47 : decode cX11_turns 47 = .ok (.iadd, 1) := by decide +kernel
theorem dX11_turns_48 : decode cX11_turns 48 = .ok (.iastore, 1) := by decide +kernel
theorem dX11_turns_49 : decode cX11_turns 49 = .ok (.iconst 1, 1) := by decide +kernel
theorem dX11_turns_50 : decode cX11_turns 50 = .ok (.ireturn, 1) := by decide +kernel
noncomputable def f11_turns_j33 (v2_j33 : Int32) (s11_j33 : OS) : Option (Int32 × OS) := if 0 ≤ v2_j33 then (chk (inb v2_j33 6) (nm (s11_j33.1 75 v2_j33.toNatClampNeg) fun y_45 => chk (inb v2_j33 6) (nm (wI s11_j33 75 v2_j33.toNatClampNeg ((y_45 + (1 : Int32)))) fun s11_48 => some ((1 : Int32), s11_48)))) else (some ((0 : Int32), s11_j33))
noncomputable def f11_turns_l4 (v1_i4 : Int32) : Int32 × OS → Option ((Int32 × OS) ⊕ (Int32 × OS)) := fun t_4 => if t_4.1 < 0 then (Option.map Sum.inr (f11_turns_j33 t_4.1 t_4.2)) else (chk (inb t_4.1 6) (nm (t_4.2.1 75 t_4.1.toNatClampNeg) fun y_13 => if y_13 = (v1_i4 - (1 : Int32)) then (chk (inb t_4.1 6) (nm (wI t_4.2 75 t_4.1.toNatClampNeg ((0 : Int32))) fun s11_26 => nm (t_4.1 + (-1 : Int32)) fun n_27 => some (Sum.inl (n_27, s11_26)))) else (Option.map Sum.inr (f11_turns_j33 t_4.1 t_4.2))))
noncomputable def f11_turns (a1 : Int32) (s11 : OS) : Option (Int32 × OS) := nm ((a1 - (1 : Int32))) fun n_3 => loop (f11_turns_l4 a1) (n_3, s11)
set_option maxHeartbeats 4000000 in
set_option maxRecDepth 100000 in
theorem m11_turns (l : Launch) (D : va_G) (ad : Nat → Nat) (cy : Nat → ClassId) (sz : Nat) (s11 : OS) (a1 : Int32) (r : Int32 × OS) (h : f11_turns a1 s11 = some r) : Met l yX11_turns (wsOf yX11_turns cX11_turns 3 (some .boolean)) (rmL 0) (va_Pc ([.ref (ad 0), .int a1] : List Value) (PreG D cy (cellsM ad cy s11) sz NM)) (QcI D ad 66 (cellsM ad cy r.2) (r.1) sz) 0 0 (Afr ad 66 sz) := by
  refine metG (own := RX11) (by decide) rfl (Nat.le_of_ble_eq_true rfl) fstM ?_ sz
  intro p e s m below meth c ls C0 hw hl
  obtain ⟨hx, hb, hml, hown, hts, hr, hlk, hK, hN⟩ := C0
  have hl : lv_has ls 3 [(0, .ref (ad 0)), (1, .int a1)] := hl
  generalize hQ : MQ below (QcI D ad 66 (cellsM ad cy r.2) (r.1) s.heap.size) ([.ref (ad 0), .int a1] : List Value).toArray s 0 0 (Afr ad 66 s.heap.size) = Q
  obtain ⟨H, hH⟩ : ∃ H : Heap, H = s.heap := ⟨_, rfl⟩
  obtain ⟨locs, hlc⟩ : ∃ L : List Loc, L = [] := ⟨_, rfl⟩
  have hw : Wd D (cellsM ad cy s11) (Afr ad 66 s.heap.size) s.heap H locs := by rw [hH, hlc]; exact hw
  suffices h0 : W p l e (rmL 0) s m ([.ref (ad 0), .int a1] : List Value).toArray below meth c H locs 0 0 Q (F0 m 0 ls []) by rw [hH, hlc] at h0; exact h0
  clear hH hlc
  unfold f11_turns at h
  have hJ_33 : ∀ (v2_j33 : Int32) (s11_j33 : OS) (H : Heap) (locs : List Loc) (ls : Array Slot), f11_turns_j33 v2_j33 s11_j33 = some r → Wd D (cellsM ad cy s11_j33) (Afr ad 66 s.heap.size) s.heap H locs → lv_has ls 3 [(0, .ref (ad 0)), (2, .int v2_j33)] → W p l e (rmL 0) s m ([.ref (ad 0), .int a1] : List Value).toArray below meth c H locs 0 0 Q (F0 m 33 ls []) := by
    intro v2_j33 s11_j33 H locs ls h hw hl
    unfold f11_turns_j33 at h
    refine lv_iload_n hx hb dX11_turns_33 rfl (lv_at hl 1 rfl) ?_
    refine lv_if_ge (tgt := 39) hx hb dX11_turns_34 (by decide) (fun c_34 => ?_) (fun c_34 => ?_)
    · have h := ite_t c_34 h
      refine lv_aload_n hx hb dX11_turns_39 rfl (lv_at hl 0 rfl) ?_
      refine gX11_163 hx hb hts hown hK hw dX11_turns_40 ?_
      refine lv_iload_n hx hb dX11_turns_43 rfl (lv_at hl 1 rfl) ?_
      refine lv_dup2_11 hx hb dX11_turns_44 rfl rfl ?_
      obtain ⟨hi_45, h⟩ := chk_e h
      obtain ⟨y_45, e_45, h⟩ := nam_e h
      refine lM51 hx hb hK hw hi_45 e_45 dX11_turns_45 ?_
      refine lv_iconst (v := 1) hx hb dX11_turns_46 (by decide) ?_
      refine lv_iadd hx hb dX11_turns_47 ?_
      obtain ⟨hi_48, h⟩ := chk_e h
      obtain ⟨s11_48, e_48, h⟩ := nam_e h
      refine aM51 hx hb hK hw hi_48 e_48 dX11_turns_48 (fun H locs hw => ?_)
      refine lv_iconst (v := 1) hx hb dX11_turns_49 (by decide) ?_
      have h := Option.some.inj h
      subst h
      rw [← hQ]
      exact retI hx hb hr hlk hw (narB (v := (1 : Int32)) (by decide)) dX11_turns_50
    · have h := ite_f c_34 h
      refine lv_iconst (v := 0) hx hb dX11_turns_37 (by decide) ?_
      have h := Option.some.inj h
      subst h
      rw [← hQ]
      exact retI hx hb hr hlk hw (narB (v := (0 : Int32)) (by decide)) dX11_turns_38
  refine lv_iload_n hx hb dX11_turns_0 rfl (lv_at hl 1 rfl) ?_
  refine lv_iconst (v := 1) hx hb dX11_turns_1 (by decide) ?_
  refine lv_isub hx hb dX11_turns_2 ?_
  obtain ⟨n_3, e_3, h⟩ := nam_e h
  refine topI e_3 ?_
  refine lv_istore_n (lv' := [(2, .int n_3), (0, .ref (ad 0)), (1, .int a1)]) hx hb dX11_turns_3 rfl hl (by decide) rfl (fun ls hl => ?_)
  obtain ⟨n_4, hn_4⟩ := loop_e h
  have hL_4 : ∀ (n : Nat) (t_4 : Int32 × OS) (H : Heap) (locs : List Loc) (ls : Array Slot), loopN (f11_turns_l4 a1) n t_4 = some r → Wd D (cellsM ad cy t_4.2) (Afr ad 66 s.heap.size) s.heap H locs → lv_has ls 3 [(2, .int t_4.1), (1, .int a1), (0, .ref (ad 0))] → W p l e (rmL 0) s m ([.ref (ad 0), .int a1] : List Value).toArray below meth c H locs 0 0 Q (F0 m 4 ls []) := by
    intro n
    induction n with
    | zero => intro t_4 H locs ls hn; cases hn
    | succ n ih_4 =>
      intro t_4 H locs ls hn hw hl
      obtain ⟨x_4, h, hx_4⟩ := loopN_e hn
      unfold f11_turns_l4 at h
      refine lv_iload_n hx hb dX11_turns_4 rfl (lv_at hl 0 rfl) ?_
      refine lv_if_lt (tgt := 33) hx hb dX11_turns_5 (by decide) (fun c_5 => ?_) (fun c_5 => ?_)
      · have h := ite_t c_5 h
        have h := nx_m hx_4 h
        exact hJ_33 t_4.1 t_4.2 H locs ls h hw (lv_sub hl [2, 0] rfl)
      · have h := ite_f c_5 h
        refine lv_aload_n hx hb dX11_turns_8 rfl (lv_at hl 2 rfl) ?_
        refine gX11_163 hx hb hts hown hK hw dX11_turns_9 ?_
        refine lv_iload_n hx hb dX11_turns_12 rfl (lv_at hl 0 rfl) ?_
        obtain ⟨hi_13, h⟩ := chk_e h
        obtain ⟨y_13, e_13, h⟩ := nam_e h
        refine lM51 hx hb hK hw hi_13 e_13 dX11_turns_13 ?_
        refine lv_iload_n hx hb dX11_turns_14 rfl (lv_at hl 1 rfl) ?_
        refine lv_iconst (v := 1) hx hb dX11_turns_15 (by decide) ?_
        refine lv_isub hx hb dX11_turns_16 ?_
        refine lv_icmp_ne (tgt := 33) hx hb dX11_turns_17 (by decide) (fun c_17 => ?_) (fun c_17 => ?_)
        · have h := ite_f c_17 h
          have h := nx_m hx_4 h
          exact hJ_33 t_4.1 t_4.2 H locs ls h hw (lv_sub hl [2, 0] rfl)
        · have h := ite_t c_17 h
          refine lv_aload_n hx hb dX11_turns_20 rfl (lv_at hl 2 rfl) ?_
          refine gX11_163 hx hb hts hown hK hw dX11_turns_21 ?_
          refine lv_iload_n hx hb dX11_turns_24 rfl (lv_at hl 0 rfl) ?_
          refine lv_iconst (v := 0) hx hb dX11_turns_25 (by decide) ?_
          obtain ⟨hi_26, h⟩ := chk_e h
          obtain ⟨s11_26, e_26, h⟩ := nam_e h
          refine aM51 hx hb hK hw hi_26 e_26 dX11_turns_26 (fun H locs hw => ?_)
          obtain ⟨n_27, e_27, h⟩ := nam_e h
          refine lv_iinc (v := n_27) (lv' := [(2, .int n_27), (1, .int a1), (0, .ref (ad 0))]) hx hb dX11_turns_27 hl (k := 0) rfl (by rw [e_27]; rfl) (by decide) rfl (fun ls hl => ?_)
          refine lv_goto (tgt := 4) hx hb dX11_turns_30 (by decide) ?_
          exact ih_4 (n_27, s11_26) H locs ls (nx_l hx_4 h) hw (lv_sub hl [0, 1, 2] rfl)
  exact hL_4 n_4 (n_3, s11) H locs ls hn_4 hw (lv_sub hl [0, 2, 1] rfl)
theorem dX11_found_0 : decode cX11_found 0 = .ok (.iload_n 1, 1) := by decide +kernel
theorem dX11_found_1 : decode cX11_found 1 = .ok (.i2l, 1) := by decide +kernel
theorem dX11_found_2 : decode cX11_found 2 = .ok (.lconst 1, 1) := by decide +kernel
theorem dX11_found_3 : decode cX11_found 3 = .ok (.ldc2_w 273, 3) := by decide +kernel
theorem dX11_found_6 : decode cX11_found 6 = .ok (.invokestatic 215, 3) := by decide +kernel
theorem dX11_found_9 : decode cX11_found 9 = .ok (.ifCond .eq 14, 3) := by decide +kernel
theorem dX11_found_12 : decode cX11_found 12 = .ok (.bipush 16, 2) := by decide +kernel
theorem dX11_found_14 : decode cX11_found 14 = .ok (.iload_n 1, 1) := by decide +kernel
theorem dX11_found_15 : decode cX11_found 15 = .ok (.imul, 1) := by decide +kernel
theorem dX11_found_16 : decode cX11_found 16 = .ok (.aload_n 0, 1) := by decide +kernel
theorem dX11_found_17 : decode cX11_found 17 = .ok (.getfield 228, 3) := by decide +kernel
theorem dX11_found_20 : decode cX11_found 20 = .ok (.if_icmp .le 5, 3) := by decide +kernel
theorem dX11_found_23 : decode cX11_found 23 = .ok (.iconst (-1), 1) := by decide +kernel
theorem dX11_found_24 : decode cX11_found 24 = .ok (.ireturn, 1) := by decide +kernel
theorem dX11_found_25 : decode cX11_found 25 = .ok (.aload_n 0, 1) := by decide +kernel
theorem dX11_found_26 : decode cX11_found 26 = .ok (.iconst 0, 1) := by decide +kernel
theorem dX11_found_27 : decode cX11_found 27 = .ok (.putfield 228, 3) := by decide +kernel
theorem dX11_found_30 : decode cX11_found 30 = .ok (.aload_n 0, 1) := by decide +kernel
theorem dX11_found_31 : decode cX11_found 31 = .ok (.iload_n 1, 1) := by decide +kernel
theorem dX11_found_32 : decode cX11_found 32 = .ok (.invokevirtual 458, 3) := by decide +kernel
theorem dX11_found_35 : decode cX11_found 35 = .ok (.ifCond .ne 6, 3) := by decide +kernel
theorem dX11_found_38 : decode cX11_found 38 = .ok (.bipush (-2), 2) := by decide +kernel
theorem dX11_found_40 : decode cX11_found 40 = .ok (.ireturn, 1) := by decide +kernel
theorem dX11_found_41 : decode cX11_found 41 = .ok (.aload_n 0, 1) := by decide +kernel
theorem dX11_found_42 : decode cX11_found 42 = .ok (.iload_n 1, 1) := by decide +kernel
theorem dX11_found_43 : decode cX11_found 43 = .ok (.putfield 461, 3) := by decide +kernel
theorem dX11_found_46 : decode cX11_found 46 = .ok (.aload_n 0, 1) := by decide +kernel
theorem dX11_found_47 : decode cX11_found 47 = .ok (.iconst 0, 1) := by decide +kernel
theorem dX11_found_48 : decode cX11_found 48 = .ok (.putfield 464, 3) := by decide +kernel
theorem dX11_found_51 : decode cX11_found 51 = .ok (.iconst 0, 1) := by decide +kernel
theorem dX11_found_52 : decode cX11_found 52 = .ok (.istore_n 2, 1) := by decide +kernel
theorem dX11_found_53 : decode cX11_found 53 = .ok (.iload_n 2, 1) := by decide +kernel
theorem dX11_found_54 : decode cX11_found 54 = .ok (.iload_n 1, 1) := by decide +kernel
theorem dX11_found_55 : decode cX11_found 55 = .ok (.if_icmp .ge 91, 3) := by decide +kernel
theorem dX11_found_58 : decode cX11_found 58 = .ok (.aload_n 0, 1) := by decide +kernel
theorem dX11_found_59 : decode cX11_found 59 = .ok (.getfield 151, 3) := by decide +kernel
theorem dX11_found_62 : decode cX11_found 62 = .ok (.iload_n 2, 1) := by decide +kernel
theorem dX11_found_63 : decode cX11_found 63 = .ok (.aload_n 0, 1) := by decide +kernel
theorem dX11_found_64 : decode cX11_found 64 = .ok (.iload_n 2, 1) := by decide +kernel
theorem dX11_found_65 : decode cX11_found 65 = .ok (.invokevirtual 275, 3) := by decide +kernel
theorem dX11_found_68 : decode cX11_found 68 = .ok (.iastore, 1) := by decide +kernel
theorem dX11_found_69 : decode cX11_found 69 = .ok (.aload_n 0, 1) := by decide +kernel
theorem dX11_found_70 : decode cX11_found 70 = .ok (.getfield 154, 3) := by decide +kernel
theorem dX11_found_73 : decode cX11_found 73 = .ok (.iload_n 2, 1) := by decide +kernel
theorem dX11_found_74 : decode cX11_found 74 = .ok (.aload_n 0, 1) := by decide +kernel
theorem dX11_found_75 : decode cX11_found 75 = .ok (.iload_n 1, 1) := by decide +kernel
theorem dX11_found_76 : decode cX11_found 76 = .ok (.iconst 3, 1) := by decide +kernel
theorem dX11_found_77 : decode cX11_found 77 = .ok (.iload_n 2, 1) := by decide +kernel
theorem dX11_found_78 : decode cX11_found 78 = .ok (.imul, 1) := by decide +kernel
theorem dX11_found_79 : decode cX11_found 79 = .ok (.iadd, 1) := by decide +kernel
theorem dX11_found_80 : decode cX11_found 80 = .ok (.invokevirtual 275, 3) := by decide +kernel
theorem dX11_found_83 : decode cX11_found 83 = .ok (.iastore, 1) := by decide +kernel
theorem dX11_found_84 : decode cX11_found 84 = .ok (.aload_n 0, 1) := by decide +kernel
theorem dX11_found_85 : decode cX11_found 85 = .ok (.getfield 157, 3) := by decide +kernel
theorem dX11_found_88 : decode cX11_found 88 = .ok (.iload_n 2, 1) := by decide +kernel
theorem dX11_found_89 : decode cX11_found 89 = .ok (.aload_n 0, 1) := by decide +kernel
theorem dX11_found_90 : decode cX11_found 90 = .ok (.iload_n 1, 1) := by decide +kernel
theorem dX11_found_91 : decode cX11_found 91 = .ok (.iconst 3, 1) := by decide +kernel
theorem dX11_found_92 : decode cX11_found 92 = .ok (.iload_n 2, 1) := by decide +kernel
theorem dX11_found_93 : decode cX11_found 93 = .ok (.imul, 1) := by decide +kernel
theorem dX11_found_94 : decode cX11_found 94 = .ok (.iadd, 1) := by decide +kernel
theorem dX11_found_95 : decode cX11_found 95 = .ok (.iconst 1, 1) := by decide +kernel
theorem dX11_found_96 : decode cX11_found 96 = .ok (.iadd, 1) := by decide +kernel
theorem dX11_found_97 : decode cX11_found 97 = .ok (.invokevirtual 275, 3) := by decide +kernel
theorem dX11_found_100 : decode cX11_found 100 = .ok (.iastore, 1) := by decide +kernel
theorem dX11_found_101 : decode cX11_found 101 = .ok (.aload_n 0, 1) := by decide +kernel
theorem dX11_found_102 : decode cX11_found 102 = .ok (.getfield 160, 3) := by decide +kernel
theorem dX11_found_105 : decode cX11_found 105 = .ok (.iload_n 2, 1) := by decide +kernel
theorem dX11_found_106 : decode cX11_found 106 = .ok (.aload_n 0, 1) := by decide +kernel
theorem dX11_found_107 : decode cX11_found 107 = .ok (.iload_n 1, 1) := by decide +kernel
theorem dX11_found_108 : decode cX11_found 108 = .ok (.iconst 3, 1) := by decide +kernel
theorem dX11_found_109 : decode cX11_found 109 = .ok (.iload_n 2, 1) := by decide +kernel
theorem dX11_found_110 : decode cX11_found 110 = .ok (.imul, 1) := by decide +kernel
theorem dX11_found_111 : decode cX11_found 111 = .ok (.iadd, 1) := by decide +kernel
theorem dX11_found_112 : decode cX11_found 112 = .ok (.iconst 2, 1) := by decide +kernel
theorem dX11_found_113 : decode cX11_found 113 = .ok (.iadd, 1) := by decide +kernel
theorem dX11_found_114 : decode cX11_found 114 = .ok (.invokevirtual 275, 3) := by decide +kernel
theorem dX11_found_117 : decode cX11_found 117 = .ok (.iastore, 1) := by decide +kernel
theorem dX11_found_118 : decode cX11_found 118 = .ok (.aload_n 0, 1) := by decide +kernel
theorem dX11_found_119 : decode cX11_found 119 = .ok (.getfield 163, 3) := by decide +kernel
theorem dX11_found_122 : decode cX11_found 122 = .ok (.iload_n 2, 1) := by decide +kernel
theorem dX11_found_123 : decode cX11_found 123 = .ok (.iconst 0, 1) := by decide +kernel
theorem dX11_found_124 : decode cX11_found 124 = .ok (.iastore, 1) := by decide +kernel
theorem dX11_found_125 : decode cX11_found 125 = .ok (.aload_n 0, 1) := by decide +kernel
theorem dX11_found_126 : decode cX11_found 126 = .ok (.getfield 166, 3) := by decide +kernel
theorem dX11_found_129 : decode cX11_found 129 = .ok (.iload_n 2, 1) := by decide +kernel
theorem dX11_found_130 : decode cX11_found 130 = .ok (.iconst 0, 1) := by decide +kernel
theorem dX11_found_131 : decode cX11_found 131 = .ok (.iastore, 1) := by decide +kernel
theorem dX11_found_132 : decode cX11_found 132 = .ok (.aload_n 0, 1) := by decide +kernel
theorem dX11_found_133 : decode cX11_found 133 = .ok (.getfield 169, 3) := by decide +kernel
theorem dX11_found_136 : decode cX11_found 136 = .ok (.iload_n 2, 1) := by decide +kernel
theorem dX11_found_137 : decode cX11_found 137 = .ok (.bipush 63, 2) := by decide +kernel
theorem dX11_found_139 : decode cX11_found 139 = .ok (.iastore, 1) := by decide +kernel
theorem dX11_found_140 : decode cX11_found 140 = .ok (.iinc 2 1, 3) := by decide +kernel
theorem dX11_found_143 : decode cX11_found 143 = .ok (.goto (-90), 3) := by decide +kernel
theorem dX11_found_146 : decode cX11_found 146 = .ok (.iconst 1, 1) := by decide +kernel
theorem dX11_found_147 : decode cX11_found 147 = .ok (.istore_n 2, 1) := by decide +kernel
theorem dX11_found_148 : decode cX11_found 148 = .ok (.iload_n 2, 1) := by decide +kernel
theorem dX11_found_149 : decode cX11_found 149 = .ok (.ifCond .eq 77, 3) := by decide +kernel
theorem dX11_found_152 : decode cX11_found 152 = .ok (.aload_n 0, 1) := by decide +kernel
theorem dX11_found_153 : decode cX11_found 153 = .ok (.iload_n 1, 1) := by decide +kernel
theorem dX11_found_154 : decode cX11_found 154 = .ok (.invokevirtual 467, 3) := by decide +kernel
theorem dX11_found_157 : decode cX11_found 157 = .ok (.ifCond .eq 60, 3) := by decide +kernel
theorem dX11_found_160 : decode cX11_found 160 = .ok (.aload_n 0, 1) := by decide +kernel
theorem dX11_found_161 : decode cX11_found 161 = .ok (.dup, 1) := by decide +kernel
theorem dX11_found_162 : decode cX11_found 162 = .ok (.getfield 464, 3) := by decide +kernel
theorem dX11_found_165 : decode cX11_found 165 = .ok (.iconst 1, 1) := by decide +kernel
theorem dX11_found_166 : decode cX11_found 166 = .ok (.iadd, 1) := by decide +kernel
theorem dX11_found_167 : decode cX11_found 167 = .ok (.putfield 464, 3) := by decide +kernel
theorem dX11_found_170 : decode cX11_found 170 = .ok (.iconst 0, 1) := by decide +kernel
theorem dX11_found_171 : decode cX11_found 171 = .ok (.istore_n 3, 1) := by decide +kernel
theorem dX11_found_172 : decode cX11_found 172 = .ok (.iload_n 3, 1) := by decide +kernel
theorem dX11_found_173 : decode cX11_found 173 = .ok (.iload_n 1, 1) := by decide +kernel
theorem dX11_found_174 : decode cX11_found 174 = .ok (.if_icmp .ge 43, 3) := by decide +kernel
theorem dX11_found_177 : decode cX11_found 177 = .ok (.aload_n 0, 1) := by decide +kernel
theorem dX11_found_178 : decode cX11_found 178 = .ok (.getfield 166, 3) := by decide +kernel
theorem dX11_found_181 : decode cX11_found 181 = .ok (.iload_n 3, 1) := by decide +kernel
theorem dX11_found_182 : decode cX11_found 182 = .ok (.dup2, 1) := by decide +kernel
theorem dX11_found_183 : decode cX11_found 183 = .ok (.iaload, 1) := by decide +kernel
theorem dX11_found_184 : decode cX11_found 184 = .ok (.iconst 1, 1) := by decide +kernel
theorem dX11_found_185 : decode cX11_found 185 = .ok (.aload_n 0, 1) := by decide +kernel
theorem dX11_found_186 : decode cX11_found 186 = .ok (.getfield 163, 3) := by decide +kernel
theorem dX11_found_189 : decode cX11_found 189 = .ok (.iload_n 3, 1) := by decide +kernel
theorem dX11_found_190 : decode cX11_found 190 = .ok (.iaload, 1) := by decide +kernel
theorem dX11_found_191 : decode cX11_found 191 = .ok (.ishl, 1) := by decide +kernel
theorem dX11_found_192 : decode cX11_found 192 = .ok (.ior, 1) := by decide +kernel
theorem dX11_found_193 : decode cX11_found 193 = .ok (.iastore, 1) := by decide +kernel
theorem dX11_found_194 : decode cX11_found 194 = .ok (.aload_n 0, 1) := by decide +kernel
theorem dX11_found_195 : decode cX11_found 195 = .ok (.getfield 169, 3) := by decide +kernel
theorem dX11_found_198 : decode cX11_found 198 = .ok (.iload_n 3, 1) := by decide +kernel
theorem dX11_found_199 : decode cX11_found 199 = .ok (.dup2, 1) := by decide +kernel
theorem dX11_found_200 : decode cX11_found 200 = .ok (.iaload, 1) := by decide +kernel
theorem dX11_found_201 : decode cX11_found 201 = .ok (.iconst 1, 1) := by decide +kernel
theorem dX11_found_202 : decode cX11_found 202 = .ok (.aload_n 0, 1) := by decide +kernel
theorem dX11_found_203 : decode cX11_found 203 = .ok (.getfield 163, 3) := by decide +kernel
theorem dX11_found_206 : decode cX11_found 206 = .ok (.iload_n 3, 1) := by decide +kernel
theorem dX11_found_207 : decode cX11_found 207 = .ok (.iaload, 1) := by decide +kernel
theorem dX11_found_208 : decode cX11_found 208 = .ok (.ishl, 1) := by decide +kernel
theorem dX11_found_209 : decode cX11_found 209 = .ok (.iand, 1) := by decide +kernel
theorem dX11_found_210 : decode cX11_found 210 = .ok (.iastore, 1) := by decide +kernel
theorem dX11_found_211 : decode cX11_found 211 = .ok (.iinc 3 1, 3) := by decide +kernel
theorem dX11_found_214 : decode cX11_found 214 = .ok (.goto (-42), 3) := by decide +kernel
theorem dX11_found_217 : decode cX11_found 217 = .ok (.aload_n 0, 1) := by decide +kernel
theorem dX11_found_218 : decode cX11_found 218 = .ok (.iload_n 1, 1) := by decide +kernel
theorem dX11_found_219 : decode cX11_found 219 = .ok (.invokevirtual 470, 3) := by decide +kernel
theorem dX11_found_222 : decode cX11_found 222 = .ok (.istore_n 2, 1) := by decide +kernel
theorem dX11_found_223 : decode cX11_found 223 = .ok (.goto (-75), 3) := by decide +kernel
theorem dX11_found_226 : decode cX11_found 226 = .ok (.aload_n 0, 1) := by decide +kernel
theorem dX11_found_227 : decode cX11_found 227 = .ok (.getfield 464, 3) := by decide +kernel
theorem dX11_found_230 : decode cX11_found 230 = .ok (.ireturn, 1) := by decide +kernel
noncomputable def f11_found_j23 (s11_j23 : OS) : Option (Int32 × OS) := some ((-1 : Int32), s11_j23)
noncomputable def f11_found_j217 (v1_j217 : Int32) (s11_j217 : OS) : Option ((Int32 × OS) ⊕ (Int32 × OS)) := Option.bind (f11_turns v1_j217 s11_j217) fun q_219 => some (Sum.inl (q_219.1, q_219.2))
noncomputable def f11_found_l172 (v1_i172 : Int32) : Int32 × OS → Option ((Int32 × OS) ⊕ ((Int32 × OS) ⊕ (Int32 × OS))) := fun t_172 => if v1_i172 ≤ t_172.1 then (Option.map Sum.inr (f11_found_j217 v1_i172 t_172.2)) else (chk (inb t_172.1 6) (nm (t_172.2.1 76 t_172.1.toNatClampNeg) fun y_183 => chk (inb t_172.1 6) (nm (t_172.2.1 75 t_172.1.toNatClampNeg) fun y_190 => chk (inb t_172.1 6) (nm (wI t_172.2 76 t_172.1.toNatClampNeg ((y_183 ||| ((1 : Int32) <<< (y_190 &&& 31))))) fun s11_193 => chk (inb t_172.1 6) (nm (s11_193.1 77 t_172.1.toNatClampNeg) fun y_200 => chk (inb t_172.1 6) (nm (s11_193.1 75 t_172.1.toNatClampNeg) fun y_207 => chk (inb t_172.1 6) (nm (wI s11_193 77 t_172.1.toNatClampNeg ((y_200 &&& ((1 : Int32) <<< (y_207 &&& 31))))) fun s11_210 => nm (t_172.1 + (1 : Int32)) fun n_211 => some (Sum.inl (n_211, s11_210)))))))))
noncomputable def f11_found_l148 (v1_i148 : Int32) : Int32 × OS → Option ((Int32 × OS) ⊕ (Int32 × OS)) := fun t_148 => if t_148.1 = 0 then (Option.map Sum.inr (some ((t_148.2.1 0 69), t_148.2))) else (Option.bind (f11_isAnswer v1_i148 t_148.2) fun q_154 => if q_154 = 0 then (f11_found_j217 v1_i148 t_148.2) else (nm (wI t_148.2 0 69 (((t_148.2.1 0 69) + (1 : Int32)))) fun s11_167 => loop (f11_found_l172 v1_i148) ((0 : Int32), s11_167)))
noncomputable def f11_found_l53 (v1_i53 : Int32) : Int32 × OS → Option ((Int32 × OS) ⊕ (Int32 × OS)) := fun t_53 => if v1_i53 ≤ t_53.1 then (Option.map Sum.inr (loop (f11_found_l148 v1_i53) ((1 : Int32), t_53.2))) else (Option.bind (f11_numberAt t_53.1 t_53.2) fun q_65 => chk (inb t_53.1 6) (nm (wI t_53.2 71 t_53.1.toNatClampNeg q_65) fun s11_68 => Option.bind (f11_numberAt ((v1_i53 + ((3 : Int32) * t_53.1))) s11_68) fun q_80 => chk (inb t_53.1 6) (nm (wI s11_68 72 t_53.1.toNatClampNeg q_80) fun s11_83 => Option.bind (f11_numberAt (((v1_i53 + ((3 : Int32) * t_53.1)) + (1 : Int32))) s11_83) fun q_97 => chk (inb t_53.1 6) (nm (wI s11_83 73 t_53.1.toNatClampNeg q_97) fun s11_100 => Option.bind (f11_numberAt (((v1_i53 + ((3 : Int32) * t_53.1)) + (2 : Int32))) s11_100) fun q_114 => chk (inb t_53.1 6) (nm (wI s11_100 74 t_53.1.toNatClampNeg q_114) fun s11_117 => chk (inb t_53.1 6) (nm (wI s11_117 75 t_53.1.toNatClampNeg ((0 : Int32))) fun s11_124 => chk (inb t_53.1 6) (nm (wI s11_124 76 t_53.1.toNatClampNeg ((0 : Int32))) fun s11_131 => chk (inb t_53.1 6) (nm (wI s11_131 77 t_53.1.toNatClampNeg ((63 : Int32))) fun s11_139 => nm (t_53.1 + (1 : Int32)) fun n_140 => some (Sum.inl (n_140, s11_139))))))))))
noncomputable def f11_found (a1 : Int32) (s11 : OS) : Option (Int32 × OS) := Option.bind (f11_lies ((a1).toInt64) ((1 : Int64)) ((6 : Int64))) fun q_6 => if q_6 = 0 then (f11_found_j23 s11) else (if ((16 : Int32) * a1) ≤ (s11.1 0 1) then (nm (wI s11 0 1 ((0 : Int32))) fun s11_27 => Option.bind (f11_isMixture a1 s11_27) fun q_32 => if q_32 = 0 then (some ((-2 : Int32), s11_27)) else (nm (wI s11_27 0 68 a1) fun s11_43 => nm (wI s11_43 0 69 ((0 : Int32))) fun s11_48 => loop (f11_found_l53 a1) ((0 : Int32), s11_48))) else (f11_found_j23 s11))
set_option maxHeartbeats 4000000 in
set_option maxRecDepth 100000 in
theorem m11_found (l : Launch) (D : va_G) (ad : Nat → Nat) (cy : Nat → ClassId) (sz : Nat) (s11 : OS) (a1 : Int32) (r : Int32 × OS) (h : f11_found a1 s11 = some r) : Met l yX11_found (wsOf yX11_found cX11_found 4 (some .int)) (rmL 3) (va_Pc ([.ref (ad 0), .int a1] : List Value) (PreG D cy (cellsM ad cy s11) sz NM)) (QcI D ad 66 (cellsM ad cy r.2) (r.1) sz) 0 0 (Afr ad 66 sz) := by
  refine metG (own := RX11) (by decide) rfl (Nat.le_of_ble_eq_true rfl) fstM ?_ sz
  intro p e s m below meth c ls C0 hw hl
  obtain ⟨hx, hb, hml, hown, hts, hr, hlk, hK, hN⟩ := C0
  have hl : lv_has ls 4 [(0, .ref (ad 0)), (1, .int a1)] := hl
  generalize hQ : MQ below (QcI D ad 66 (cellsM ad cy r.2) (r.1) s.heap.size) ([.ref (ad 0), .int a1] : List Value).toArray s 0 0 (Afr ad 66 s.heap.size) = Q
  obtain ⟨H, hH⟩ : ∃ H : Heap, H = s.heap := ⟨_, rfl⟩
  obtain ⟨locs, hlc⟩ : ∃ L : List Loc, L = [] := ⟨_, rfl⟩
  have hw : Wd D (cellsM ad cy s11) (Afr ad 66 s.heap.size) s.heap H locs := by rw [hH, hlc]; exact hw
  suffices h0 : W p l e (rmL 3) s m ([.ref (ad 0), .int a1] : List Value).toArray below meth c H locs 0 0 Q (F0 m 0 ls []) by rw [hH, hlc] at h0; exact h0
  clear hH hlc
  unfold f11_found at h
  have hJ_23 : ∀ (s11_j23 : OS) (H : Heap) (locs : List Loc) (ls : Array Slot), f11_found_j23 s11_j23 = some r → Wd D (cellsM ad cy s11_j23) (Afr ad 66 s.heap.size) s.heap H locs → lv_has ls 4 [] → W p l e (rmL 3) s m ([.ref (ad 0), .int a1] : List Value).toArray below meth c H locs 0 0 Q (F0 m 23 ls []) := by
    intro s11_j23 H locs ls h hw hl
    unfold f11_found_j23 at h
    refine lv_iconst (v := (-1)) hx hb dX11_found_23 (by decide) ?_
    have h := Option.some.inj h
    subst h
    rw [← hQ]
    exact retI hx hb hr hlk hw rfl dX11_found_24
  refine lv_iload_n hx hb dX11_found_0 rfl (lv_at hl 1 rfl) ?_
  refine lv_i2l hx hb dX11_found_1 rfl ?_
  refine lv_lconst (v := 1) hx hb dX11_found_2 (by decide) ?_
  refine lv_ldc2 (v := 6) hx hb hown (hts _ (wd_7 (w := .constantLong RX11 273 6) (i := 144) (by decide +kernel) rfl)) dX11_found_3 ?_
  obtain ⟨q_6, h_6, h⟩ := bnd_e h
  have pg_6 := preG (av := [.long ((a1).toInt64), .long ((1 : Int64)), .long ((6 : Int64))]) hK hw.1 hw.2.1 NM_keep NM_blind
  refine endI (mc := 0) (ms := 0) (va_runS (As := [.long ((a1).toInt64), .long ((1 : Int64)), .long ((6 : Int64))]) (rest := []) ⟨hx, hb, hml, hown, hts⟩ (m11_lies l D ad cy H.size s11 ((a1).toInt64) ((1 : Int64)) ((6 : Int64)) q_6 h_6) (wX11_215 0 hts ⟨Nat.le_of_ble_eq_true rfl, Nat.le_of_ble_eq_true rfl⟩) pg_6 rfl rfl hl.1 rfl (lv_room (Nat.le_of_ble_eq_true rfl)) dX11_found_6 ⟨Nat.le_refl _, Nat.le_refl _⟩) hw.2.2 (afr_in hw.2.2) (fun H locs hw => ?_)
  refine lv_if_eq (tgt := 23) hx hb dX11_found_9 (by decide) (fun c_9 => ?_) (fun c_9 => ?_)
  · have h := ite_t c_9 h
    exact hJ_23 s11 H locs ls h hw (lv_sub hl [] rfl)
  · have h := ite_f c_9 h
    refine lv_bipush (v := 16) hx hb dX11_found_12 (by decide) ?_
    refine lv_iload_n hx hb dX11_found_14 rfl (lv_at hl 1 rfl) ?_
    refine lv_imul hx hb dX11_found_15 ?_
    refine lv_aload_n hx hb dX11_found_16 rfl (lv_at hl 0 rfl) ?_
    refine gX11_228 hx hb hts hown hK hw dX11_found_17 ?_
    refine lv_icmp_le (tgt := 25) hx hb dX11_found_20 (by decide) (fun c_20 => ?_) (fun c_20 => ?_)
    · have h := ite_t c_20 h
      refine lv_aload_n hx hb dX11_found_25 rfl (lv_at hl 0 rfl) ?_
      refine lv_iconst (v := 0) hx hb dX11_found_26 (by decide) ?_
      obtain ⟨s11_27, e_27, h⟩ := nam_e h
      refine pX11_228 hx hb hts hown hK hw e_27 dX11_found_27 (fun H locs hw => ?_)
      refine lv_aload_n hx hb dX11_found_30 rfl (lv_at hl 0 rfl) ?_
      refine lv_iload_n hx hb dX11_found_31 rfl (lv_at hl 1 rfl) ?_
      obtain ⟨q_32, h_32, h⟩ := bnd_e h
      have pg_32 := preG (av := [.ref (ad 0), .int a1]) hK hw.1 hw.2.1 NM_keep NM_blind
      refine endI (mc := 0) (ms := 0) (va_runV (As := [.int a1]) (rest := []) ⟨hx, hb, hml, hown, hts⟩ (m11_isMixture l D ad cy H.size s11_27 a1 q_32 h_32) (wX11_458 2 hts ⟨Nat.le_of_ble_eq_true rfl, Nat.le_of_ble_eq_true rfl⟩) ⟨pg_32.1, va_recv hK hw.1 (ci := 11) (q0 := 0) rfl eM_0, pg_32.2⟩ rfl rfl hl.1 rfl (lv_room (Nat.le_of_ble_eq_true rfl)) dX11_found_32 ⟨Nat.le_refl _, Nat.le_refl _⟩) hw.2.2 (afr_in hw.2.2) (fun H locs hw => ?_)
      refine lv_if_ne (tgt := 41) hx hb dX11_found_35 (by decide) (fun c_35 => ?_) (fun c_35 => ?_)
      · have h := ite_f c_35 h
        refine lv_aload_n hx hb dX11_found_41 rfl (lv_at hl 0 rfl) ?_
        refine lv_iload_n hx hb dX11_found_42 rfl (lv_at hl 1 rfl) ?_
        obtain ⟨s11_43, e_43, h⟩ := nam_e h
        refine pX11_461 hx hb hts hown hK hw e_43 dX11_found_43 (fun H locs hw => ?_)
        refine lv_aload_n hx hb dX11_found_46 rfl (lv_at hl 0 rfl) ?_
        refine lv_iconst (v := 0) hx hb dX11_found_47 (by decide) ?_
        obtain ⟨s11_48, e_48, h⟩ := nam_e h
        refine pX11_464 hx hb hts hown hK hw e_48 dX11_found_48 (fun H locs hw => ?_)
        refine lv_iconst (v := 0) hx hb dX11_found_51 (by decide) ?_
        refine lv_istore_n (lv' := [(2, .int ((0 : Int32))), (0, .ref (ad 0)), (1, .int a1)]) hx hb dX11_found_52 rfl hl (by decide) rfl (fun ls hl => ?_)
        obtain ⟨n_53, hn_53⟩ := loop_e h
        have hL_53 : ∀ (n : Nat) (t_53 : Int32 × OS) (H : Heap) (locs : List Loc) (ls : Array Slot), loopN (f11_found_l53 a1) n t_53 = some r → Wd D (cellsM ad cy t_53.2) (Afr ad 66 s.heap.size) s.heap H locs → lv_has ls 4 [(2, .int t_53.1), (1, .int a1), (0, .ref (ad 0))] → W p l e (rmL 3) s m ([.ref (ad 0), .int a1] : List Value).toArray below meth c H locs 0 0 Q (F0 m 53 ls []) := by
          intro n
          induction n with
          | zero => intro t_53 H locs ls hn; cases hn
          | succ n ih_53 =>
            intro t_53 H locs ls hn hw hl
            obtain ⟨x_53, h, hx_53⟩ := loopN_e hn
            unfold f11_found_l53 at h
            refine lv_iload_n hx hb dX11_found_53 rfl (lv_at hl 0 rfl) ?_
            refine lv_iload_n hx hb dX11_found_54 rfl (lv_at hl 1 rfl) ?_
            refine lv_icmp_ge (tgt := 146) hx hb dX11_found_55 (by decide) (fun c_55 => ?_) (fun c_55 => ?_)
            · have h := ite_t c_55 h
              have h := nx_m hx_53 h
              refine lv_iconst (v := 1) hx hb dX11_found_146 (by decide) ?_
              refine lv_istore_n (lv' := [(2, .int ((1 : Int32))), (1, .int a1), (0, .ref (ad 0))]) hx hb dX11_found_147 rfl hl (by decide) rfl (fun ls hl => ?_)
              obtain ⟨n_148, hn_148⟩ := loop_e h
              have hL_148 : ∀ (n : Nat) (t_148 : Int32 × OS) (H : Heap) (locs : List Loc) (ls : Array Slot), loopN (f11_found_l148 a1) n t_148 = some r → Wd D (cellsM ad cy t_148.2) (Afr ad 66 s.heap.size) s.heap H locs → lv_has ls 4 [(2, .int t_148.1), (1, .int a1), (0, .ref (ad 0))] → W p l e (rmL 3) s m ([.ref (ad 0), .int a1] : List Value).toArray below meth c H locs 0 0 Q (F0 m 148 ls []) := by
                intro n
                induction n with
                | zero => intro t_148 H locs ls hn; cases hn
                | succ n ih_148 =>
                  intro t_148 H locs ls hn hw hl
                  obtain ⟨x_148, h, hx_148⟩ := loopN_e hn
                  unfold f11_found_l148 at h
                  have hJ_217 : ∀ (s11_j217 : OS) (H : Heap) (locs : List Loc) (ls : Array Slot), f11_found_j217 a1 s11_j217 = some x_148 → Wd D (cellsM ad cy s11_j217) (Afr ad 66 s.heap.size) s.heap H locs → lv_has ls 4 [(0, .ref (ad 0)), (1, .int a1)] → W p l e (rmL 3) s m ([.ref (ad 0), .int a1] : List Value).toArray below meth c H locs 0 0 Q (F0 m 217 ls []) := by
                    intro s11_j217 H locs ls h hw hl
                    unfold f11_found_j217 at h
                    refine lv_aload_n hx hb dX11_found_217 rfl (lv_at hl 0 rfl) ?_
                    refine lv_iload_n hx hb dX11_found_218 rfl (lv_at hl 1 rfl) ?_
                    obtain ⟨q_219, h_219, h⟩ := bnd_e h
                    have pg_219 := preG (av := [.ref (ad 0), .int a1]) hK hw.1 hw.2.1 NM_keep NM_blind
                    refine endI (mc := 0) (ms := 0) (va_runV (As := [.int a1]) (rest := []) ⟨hx, hb, hml, hown, hts⟩ (m11_turns l D ad cy H.size s11_j217 a1 q_219 h_219) (wX11_470 0 hts ⟨Nat.le_of_ble_eq_true rfl, Nat.le_of_ble_eq_true rfl⟩) ⟨pg_219.1, va_recv hK hw.1 (ci := 11) (q0 := 0) rfl eM_0, pg_219.2⟩ rfl rfl hl.1 rfl (lv_room (Nat.le_of_ble_eq_true rfl)) dX11_found_219 ⟨Nat.le_refl _, Nat.le_refl _⟩) hw.2.2 (afr_in hw.2.2) (fun H locs hw => ?_)
                    refine lv_istore_n (lv' := [(2, .int q_219.1), (0, .ref (ad 0)), (1, .int a1)]) hx hb dX11_found_222 rfl hl (by decide) rfl (fun ls hl => ?_)
                    refine lv_goto (tgt := 148) hx hb dX11_found_223 (by decide) ?_
                    exact ih_148 (q_219.1, q_219.2) H locs ls (nx_l hx_148 h) hw (lv_sub hl [0, 2, 1] rfl)
                  refine lv_iload_n hx hb dX11_found_148 rfl (lv_at hl 0 rfl) ?_
                  refine lv_if_eq (tgt := 226) hx hb dX11_found_149 (by decide) (fun c_149 => ?_) (fun c_149 => ?_)
                  · have h := ite_t c_149 h
                    have h := nx_m hx_148 h
                    refine lv_aload_n hx hb dX11_found_226 rfl (lv_at hl 2 rfl) ?_
                    refine gX11_464 hx hb hts hown hK hw dX11_found_227 ?_
                    have h := Option.some.inj h
                    subst h
                    rw [← hQ]
                    exact retI hx hb hr hlk hw rfl dX11_found_230
                  · have h := ite_f c_149 h
                    refine lv_aload_n hx hb dX11_found_152 rfl (lv_at hl 2 rfl) ?_
                    refine lv_iload_n hx hb dX11_found_153 rfl (lv_at hl 1 rfl) ?_
                    obtain ⟨q_154, h_154, h⟩ := bnd_e h
                    have pg_154 := preG (av := [.ref (ad 0), .int a1]) hK hw.1 hw.2.1 NM_keep NM_blind
                    refine endI (mc := 0) (ms := 0) (va_runV (As := [.int a1]) (rest := []) ⟨hx, hb, hml, hown, hts⟩ (m11_isAnswer l D ad cy H.size t_148.2 a1 q_154 h_154) (wX11_467 1 hts ⟨Nat.le_of_ble_eq_true rfl, Nat.le_of_ble_eq_true rfl⟩) ⟨pg_154.1, va_recv hK hw.1 (ci := 11) (q0 := 0) rfl eM_0, pg_154.2⟩ rfl rfl hl.1 rfl (lv_room (Nat.le_of_ble_eq_true rfl)) dX11_found_154 ⟨Nat.le_refl _, Nat.le_refl _⟩) hw.2.2 (afr_in hw.2.2) (fun H locs hw => ?_)
                    refine lv_if_eq (tgt := 217) hx hb dX11_found_157 (by decide) (fun c_157 => ?_) (fun c_157 => ?_)
                    · have h := ite_t c_157 h
                      exact hJ_217 t_148.2 H locs ls h hw (lv_sub hl [2, 1] rfl)
                    · have h := ite_f c_157 h
                      refine lv_aload_n hx hb dX11_found_160 rfl (lv_at hl 2 rfl) ?_
                      refine lv_dup hx hb dX11_found_161 rfl ?_
                      refine gX11_464 hx hb hts hown hK hw dX11_found_162 ?_
                      refine lv_iconst (v := 1) hx hb dX11_found_165 (by decide) ?_
                      refine lv_iadd hx hb dX11_found_166 ?_
                      obtain ⟨s11_167, e_167, h⟩ := nam_e h
                      refine pX11_464 hx hb hts hown hK hw e_167 dX11_found_167 (fun H locs hw => ?_)
                      refine lv_iconst (v := 0) hx hb dX11_found_170 (by decide) ?_
                      refine lv_istore_n (lv' := [(3, .int ((0 : Int32))), (2, .int t_148.1), (1, .int a1), (0, .ref (ad 0))]) hx hb dX11_found_171 rfl hl (by decide) rfl (fun ls hl => ?_)
                      obtain ⟨n_172, hn_172⟩ := loop_e h
                      have hL_172 : ∀ (n : Nat) (t_172 : Int32 × OS) (H : Heap) (locs : List Loc) (ls : Array Slot), loopN (f11_found_l172 a1) n t_172 = some x_148 → Wd D (cellsM ad cy t_172.2) (Afr ad 66 s.heap.size) s.heap H locs → lv_has ls 4 [(3, .int t_172.1), (1, .int a1), (0, .ref (ad 0))] → W p l e (rmL 3) s m ([.ref (ad 0), .int a1] : List Value).toArray below meth c H locs 0 0 Q (F0 m 172 ls []) := by
                        intro n
                        induction n with
                        | zero => intro t_172 H locs ls hn; cases hn
                        | succ n ih_172 =>
                          intro t_172 H locs ls hn hw hl
                          obtain ⟨x_172, h, hx_172⟩ := loopN_e hn
                          unfold f11_found_l172 at h
                          refine lv_iload_n hx hb dX11_found_172 rfl (lv_at hl 0 rfl) ?_
                          refine lv_iload_n hx hb dX11_found_173 rfl (lv_at hl 1 rfl) ?_
                          refine lv_icmp_ge (tgt := 217) hx hb dX11_found_174 (by decide) (fun c_174 => ?_) (fun c_174 => ?_)
                          · have h := ite_t c_174 h
                            have h := nx_m hx_172 h
                            exact hJ_217 t_172.2 H locs ls h hw (lv_sub hl [2, 1] rfl)
                          · have h := ite_f c_174 h
                            refine lv_aload_n hx hb dX11_found_177 rfl (lv_at hl 2 rfl) ?_
                            refine gX11_166 hx hb hts hown hK hw dX11_found_178 ?_
                            refine lv_iload_n hx hb dX11_found_181 rfl (lv_at hl 0 rfl) ?_
                            refine lv_dup2_11 hx hb dX11_found_182 rfl rfl ?_
                            obtain ⟨hi_183, h⟩ := chk_e h
                            obtain ⟨y_183, e_183, h⟩ := nam_e h
                            refine lM52 hx hb hK hw hi_183 e_183 dX11_found_183 ?_
                            refine lv_iconst (v := 1) hx hb dX11_found_184 (by decide) ?_
                            refine lv_aload_n hx hb dX11_found_185 rfl (lv_at hl 2 rfl) ?_
                            refine gX11_163 hx hb hts hown hK hw dX11_found_186 ?_
                            refine lv_iload_n hx hb dX11_found_189 rfl (lv_at hl 0 rfl) ?_
                            obtain ⟨hi_190, h⟩ := chk_e h
                            obtain ⟨y_190, e_190, h⟩ := nam_e h
                            refine lM51 hx hb hK hw hi_190 e_190 dX11_found_190 ?_
                            refine lv_ishl hx hb dX11_found_191 ?_
                            refine lv_ior hx hb dX11_found_192 ?_
                            obtain ⟨hi_193, h⟩ := chk_e h
                            obtain ⟨s11_193, e_193, h⟩ := nam_e h
                            refine aM52 hx hb hK hw hi_193 e_193 dX11_found_193 (fun H locs hw => ?_)
                            refine lv_aload_n hx hb dX11_found_194 rfl (lv_at hl 2 rfl) ?_
                            refine gX11_169 hx hb hts hown hK hw dX11_found_195 ?_
                            refine lv_iload_n hx hb dX11_found_198 rfl (lv_at hl 0 rfl) ?_
                            refine lv_dup2_11 hx hb dX11_found_199 rfl rfl ?_
                            obtain ⟨hi_200, h⟩ := chk_e h
                            obtain ⟨y_200, e_200, h⟩ := nam_e h
                            refine lM53 hx hb hK hw hi_200 e_200 dX11_found_200 ?_
                            refine lv_iconst (v := 1) hx hb dX11_found_201 (by decide) ?_
                            refine lv_aload_n hx hb dX11_found_202 rfl (lv_at hl 2 rfl) ?_
                            refine gX11_163 hx hb hts hown hK hw dX11_found_203 ?_
                            refine lv_iload_n hx hb dX11_found_206 rfl (lv_at hl 0 rfl) ?_
                            obtain ⟨hi_207, h⟩ := chk_e h
                            obtain ⟨y_207, e_207, h⟩ := nam_e h
                            refine lM51 hx hb hK hw hi_207 e_207 dX11_found_207 ?_
                            refine lv_ishl hx hb dX11_found_208 ?_
                            refine lv_iand hx hb dX11_found_209 ?_
                            obtain ⟨hi_210, h⟩ := chk_e h
                            obtain ⟨s11_210, e_210, h⟩ := nam_e h
                            refine aM53 hx hb hK hw hi_210 e_210 dX11_found_210 (fun H locs hw => ?_)
                            obtain ⟨n_211, e_211, h⟩ := nam_e h
                            refine lv_iinc (v := n_211) (lv' := [(3, .int n_211), (1, .int a1), (0, .ref (ad 0))]) hx hb dX11_found_211 hl (k := 0) rfl (by rw [e_211]; rfl) (by decide) rfl (fun ls hl => ?_)
                            refine lv_goto (tgt := 172) hx hb dX11_found_214 (by decide) ?_
                            exact ih_172 (n_211, s11_210) H locs ls (nx_l hx_172 h) hw (lv_sub hl [0, 1, 2] rfl)
                      exact hL_172 n_172 ((0 : Int32), s11_167) H locs ls hn_172 hw (lv_sub hl [0, 2, 3] rfl)
              exact hL_148 n_148 ((1 : Int32), t_53.2) H locs ls hn_148 hw (lv_sub hl [0, 1, 2] rfl)
            · have h := ite_f c_55 h
              refine lv_aload_n hx hb dX11_found_58 rfl (lv_at hl 2 rfl) ?_
              refine gX11_151 hx hb hts hown hK hw dX11_found_59 ?_
              refine lv_iload_n hx hb dX11_found_62 rfl (lv_at hl 0 rfl) ?_
              refine lv_aload_n hx hb dX11_found_63 rfl (lv_at hl 2 rfl) ?_
              refine lv_iload_n hx hb dX11_found_64 rfl (lv_at hl 0 rfl) ?_
              obtain ⟨q_65, h_65, h⟩ := bnd_e h
              have pg_65 := preG (av := [.ref (ad 0), .int t_53.1]) hK hw.1 hw.2.1 NM_keep NM_blind
              refine endI (mc := 0) (ms := 0) (va_runV (As := [.int t_53.1]) (rest := [.int t_53.1, .ref (ad 47)]) ⟨hx, hb, hml, hown, hts⟩ (m11_numberAt l D ad cy H.size t_53.2 t_53.1 q_65 h_65) (wX11_275 0 hts ⟨Nat.le_of_ble_eq_true rfl, Nat.le_of_ble_eq_true rfl⟩) ⟨pg_65.1, va_recv hK hw.1 (ci := 11) (q0 := 0) rfl eM_0, pg_65.2⟩ rfl rfl hl.1 rfl (lv_room (Nat.le_of_ble_eq_true rfl)) dX11_found_65 ⟨Nat.le_refl _, Nat.le_refl _⟩) hw.2.2 (afr_in hw.2.2) (fun H locs hw => ?_)
              obtain ⟨hi_68, h⟩ := chk_e h
              obtain ⟨s11_68, e_68, h⟩ := nam_e h
              refine aM47 hx hb hK hw hi_68 e_68 dX11_found_68 (fun H locs hw => ?_)
              refine lv_aload_n hx hb dX11_found_69 rfl (lv_at hl 2 rfl) ?_
              refine gX11_154 hx hb hts hown hK hw dX11_found_70 ?_
              refine lv_iload_n hx hb dX11_found_73 rfl (lv_at hl 0 rfl) ?_
              refine lv_aload_n hx hb dX11_found_74 rfl (lv_at hl 2 rfl) ?_
              refine lv_iload_n hx hb dX11_found_75 rfl (lv_at hl 1 rfl) ?_
              refine lv_iconst (v := 3) hx hb dX11_found_76 (by decide) ?_
              refine lv_iload_n hx hb dX11_found_77 rfl (lv_at hl 0 rfl) ?_
              refine lv_imul hx hb dX11_found_78 ?_
              refine lv_iadd hx hb dX11_found_79 ?_
              obtain ⟨q_80, h_80, h⟩ := bnd_e h
              have pg_80 := preG (av := [.ref (ad 0), .int ((a1 + ((3 : Int32) * t_53.1)))]) hK hw.1 hw.2.1 NM_keep NM_blind
              refine endI (mc := 0) (ms := 0) (va_runV (As := [.int ((a1 + ((3 : Int32) * t_53.1)))]) (rest := [.int t_53.1, .ref (ad 48)]) ⟨hx, hb, hml, hown, hts⟩ (m11_numberAt l D ad cy H.size s11_68 ((a1 + ((3 : Int32) * t_53.1))) q_80 h_80) (wX11_275 0 hts ⟨Nat.le_of_ble_eq_true rfl, Nat.le_of_ble_eq_true rfl⟩) ⟨pg_80.1, va_recv hK hw.1 (ci := 11) (q0 := 0) rfl eM_0, pg_80.2⟩ rfl rfl hl.1 rfl (lv_room (Nat.le_of_ble_eq_true rfl)) dX11_found_80 ⟨Nat.le_refl _, Nat.le_refl _⟩) hw.2.2 (afr_in hw.2.2) (fun H locs hw => ?_)
              obtain ⟨hi_83, h⟩ := chk_e h
              obtain ⟨s11_83, e_83, h⟩ := nam_e h
              refine aM48 hx hb hK hw hi_83 e_83 dX11_found_83 (fun H locs hw => ?_)
              refine lv_aload_n hx hb dX11_found_84 rfl (lv_at hl 2 rfl) ?_
              refine gX11_157 hx hb hts hown hK hw dX11_found_85 ?_
              refine lv_iload_n hx hb dX11_found_88 rfl (lv_at hl 0 rfl) ?_
              refine lv_aload_n hx hb dX11_found_89 rfl (lv_at hl 2 rfl) ?_
              refine lv_iload_n hx hb dX11_found_90 rfl (lv_at hl 1 rfl) ?_
              refine lv_iconst (v := 3) hx hb dX11_found_91 (by decide) ?_
              refine lv_iload_n hx hb dX11_found_92 rfl (lv_at hl 0 rfl) ?_
              refine lv_imul hx hb dX11_found_93 ?_
              refine lv_iadd hx hb dX11_found_94 ?_
              refine lv_iconst (v := 1) hx hb dX11_found_95 (by decide) ?_
              refine lv_iadd hx hb dX11_found_96 ?_
              obtain ⟨q_97, h_97, h⟩ := bnd_e h
              have pg_97 := preG (av := [.ref (ad 0), .int (((a1 + ((3 : Int32) * t_53.1)) + (1 : Int32)))]) hK hw.1 hw.2.1 NM_keep NM_blind
              refine endI (mc := 0) (ms := 0) (va_runV (As := [.int (((a1 + ((3 : Int32) * t_53.1)) + (1 : Int32)))]) (rest := [.int t_53.1, .ref (ad 49)]) ⟨hx, hb, hml, hown, hts⟩ (m11_numberAt l D ad cy H.size s11_83 (((a1 + ((3 : Int32) * t_53.1)) + (1 : Int32))) q_97 h_97) (wX11_275 0 hts ⟨Nat.le_of_ble_eq_true rfl, Nat.le_of_ble_eq_true rfl⟩) ⟨pg_97.1, va_recv hK hw.1 (ci := 11) (q0 := 0) rfl eM_0, pg_97.2⟩ rfl rfl hl.1 rfl (lv_room (Nat.le_of_ble_eq_true rfl)) dX11_found_97 ⟨Nat.le_refl _, Nat.le_refl _⟩) hw.2.2 (afr_in hw.2.2) (fun H locs hw => ?_)
              obtain ⟨hi_100, h⟩ := chk_e h
              obtain ⟨s11_100, e_100, h⟩ := nam_e h
              refine aM49 hx hb hK hw hi_100 e_100 dX11_found_100 (fun H locs hw => ?_)
              refine lv_aload_n hx hb dX11_found_101 rfl (lv_at hl 2 rfl) ?_
              refine gX11_160 hx hb hts hown hK hw dX11_found_102 ?_
              refine lv_iload_n hx hb dX11_found_105 rfl (lv_at hl 0 rfl) ?_
              refine lv_aload_n hx hb dX11_found_106 rfl (lv_at hl 2 rfl) ?_
              refine lv_iload_n hx hb dX11_found_107 rfl (lv_at hl 1 rfl) ?_
              refine lv_iconst (v := 3) hx hb dX11_found_108 (by decide) ?_
              refine lv_iload_n hx hb dX11_found_109 rfl (lv_at hl 0 rfl) ?_
              refine lv_imul hx hb dX11_found_110 ?_
              refine lv_iadd hx hb dX11_found_111 ?_
              refine lv_iconst (v := 2) hx hb dX11_found_112 (by decide) ?_
              refine lv_iadd hx hb dX11_found_113 ?_
              obtain ⟨q_114, h_114, h⟩ := bnd_e h
              have pg_114 := preG (av := [.ref (ad 0), .int (((a1 + ((3 : Int32) * t_53.1)) + (2 : Int32)))]) hK hw.1 hw.2.1 NM_keep NM_blind
              refine endI (mc := 0) (ms := 0) (va_runV (As := [.int (((a1 + ((3 : Int32) * t_53.1)) + (2 : Int32)))]) (rest := [.int t_53.1, .ref (ad 50)]) ⟨hx, hb, hml, hown, hts⟩ (m11_numberAt l D ad cy H.size s11_100 (((a1 + ((3 : Int32) * t_53.1)) + (2 : Int32))) q_114 h_114) (wX11_275 0 hts ⟨Nat.le_of_ble_eq_true rfl, Nat.le_of_ble_eq_true rfl⟩) ⟨pg_114.1, va_recv hK hw.1 (ci := 11) (q0 := 0) rfl eM_0, pg_114.2⟩ rfl rfl hl.1 rfl (lv_room (Nat.le_of_ble_eq_true rfl)) dX11_found_114 ⟨Nat.le_refl _, Nat.le_refl _⟩) hw.2.2 (afr_in hw.2.2) (fun H locs hw => ?_)
              obtain ⟨hi_117, h⟩ := chk_e h
              obtain ⟨s11_117, e_117, h⟩ := nam_e h
              refine aM50 hx hb hK hw hi_117 e_117 dX11_found_117 (fun H locs hw => ?_)
              refine lv_aload_n hx hb dX11_found_118 rfl (lv_at hl 2 rfl) ?_
              refine gX11_163 hx hb hts hown hK hw dX11_found_119 ?_
              refine lv_iload_n hx hb dX11_found_122 rfl (lv_at hl 0 rfl) ?_
              refine lv_iconst (v := 0) hx hb dX11_found_123 (by decide) ?_
              obtain ⟨hi_124, h⟩ := chk_e h
              obtain ⟨s11_124, e_124, h⟩ := nam_e h
              refine aM51 hx hb hK hw hi_124 e_124 dX11_found_124 (fun H locs hw => ?_)
              refine lv_aload_n hx hb dX11_found_125 rfl (lv_at hl 2 rfl) ?_
              refine gX11_166 hx hb hts hown hK hw dX11_found_126 ?_
              refine lv_iload_n hx hb dX11_found_129 rfl (lv_at hl 0 rfl) ?_
              refine lv_iconst (v := 0) hx hb dX11_found_130 (by decide) ?_
              obtain ⟨hi_131, h⟩ := chk_e h
              obtain ⟨s11_131, e_131, h⟩ := nam_e h
              refine aM52 hx hb hK hw hi_131 e_131 dX11_found_131 (fun H locs hw => ?_)
              refine lv_aload_n hx hb dX11_found_132 rfl (lv_at hl 2 rfl) ?_
              refine gX11_169 hx hb hts hown hK hw dX11_found_133 ?_
              refine lv_iload_n hx hb dX11_found_136 rfl (lv_at hl 0 rfl) ?_
              refine lv_bipush (v := 63) hx hb dX11_found_137 (by decide) ?_
              obtain ⟨hi_139, h⟩ := chk_e h
              obtain ⟨s11_139, e_139, h⟩ := nam_e h
              refine aM53 hx hb hK hw hi_139 e_139 dX11_found_139 (fun H locs hw => ?_)
              obtain ⟨n_140, e_140, h⟩ := nam_e h
              refine lv_iinc (v := n_140) (lv' := [(2, .int n_140), (1, .int a1), (0, .ref (ad 0))]) hx hb dX11_found_140 hl (k := 0) rfl (by rw [e_140]; rfl) (by decide) rfl (fun ls hl => ?_)
              refine lv_goto (tgt := 53) hx hb dX11_found_143 (by decide) ?_
              exact ih_53 (n_140, s11_139) H locs ls (nx_l hx_53 h) hw (lv_sub hl [0, 1, 2] rfl)
        exact hL_53 n_53 ((0 : Int32), s11_48) H locs ls hn_53 hw (lv_sub hl [0, 2, 1] rfl)
      · have h := ite_t c_35 h
        refine lv_bipush (v := (-2)) hx hb dX11_found_38 (by decide) ?_
        have h := Option.some.inj h
        subst h
        rw [← hQ]
        exact retI hx hb hr hlk hw rfl dX11_found_40
    · have h := ite_f c_20 h
      exact hJ_23 s11 H locs ls h hw (lv_sub hl [] rfl)
