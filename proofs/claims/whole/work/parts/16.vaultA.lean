theorem dX10_areMixed_0 : decode cX10_areMixed 0 = .ok (.iconst 0, 1) := by decide +kernel
theorem dX10_areMixed_1 : decode cX10_areMixed 1 = .ok (.istore_n 2, 1) := by decide +kernel
theorem dX10_areMixed_2 : decode cX10_areMixed 2 = .ok (.iload_n 2, 1) := by decide +kernel
theorem dX10_areMixed_3 : decode cX10_areMixed 3 = .ok (.iload_n 1, 1) := by decide +kernel
theorem dX10_areMixed_4 : decode cX10_areMixed 4 = .ok (.if_icmp .ge 74, 3) := by decide +kernel
theorem dX10_areMixed_7 : decode cX10_areMixed 7 = .ok (.aload_n 0, 1) := by decide +kernel
theorem dX10_areMixed_8 : decode cX10_areMixed 8 = .ok (.getfield 16, 3) := by decide +kernel
theorem dX10_areMixed_11 : decode cX10_areMixed 11 = .ok (.iload_n 2, 1) := by decide +kernel
theorem dX10_areMixed_12 : decode cX10_areMixed 12 = .ok (.invokevirtual 143, 3) := by decide +kernel
theorem dX10_areMixed_15 : decode cX10_areMixed 15 = .ok (.istore_n 3, 1) := by decide +kernel
theorem dX10_areMixed_16 : decode cX10_areMixed 16 = .ok (.aload_n 0, 1) := by decide +kernel
theorem dX10_areMixed_17 : decode cX10_areMixed 17 = .ok (.getfield 23, 3) := by decide +kernel
theorem dX10_areMixed_20 : decode cX10_areMixed 20 = .ok (.iload_n 3, 1) := by decide +kernel
theorem dX10_areMixed_21 : decode cX10_areMixed 21 = .ok (.invokevirtual 258, 3) := by decide +kernel
theorem dX10_areMixed_24 : decode cX10_areMixed 24 = .ok (.ifCond .eq 16, 3) := by decide +kernel
theorem dX10_areMixed_27 : decode cX10_areMixed 27 = .ok (.aload_n 0, 1) := by decide +kernel
theorem dX10_areMixed_28 : decode cX10_areMixed 28 = .ok (.getfield 23, 3) := by decide +kernel
theorem dX10_areMixed_31 : decode cX10_areMixed 31 = .ok (.iload_n 3, 1) := by decide +kernel
theorem dX10_areMixed_32 : decode cX10_areMixed 32 = .ok (.invokevirtual 116, 3) := by decide +kernel
theorem dX10_areMixed_35 : decode cX10_areMixed 35 = .ok (.bipush 12, 2) := by decide +kernel
theorem dX10_areMixed_37 : decode cX10_areMixed 37 = .ok (.if_icmp .ne 5, 3) := by decide +kernel
theorem dX10_areMixed_40 : decode cX10_areMixed 40 = .ok (.iconst 0, 1) := by decide +kernel
theorem dX10_areMixed_41 : decode cX10_areMixed 41 = .ok (.ireturn, 1) := by decide +kernel
theorem dX10_areMixed_42 : decode cX10_areMixed 42 = .ok (.iconst 0, 1) := by decide +kernel
theorem dX10_areMixed_43 : decode cX10_areMixed 43 = .ok (.istore 4, 2) := by decide +kernel
theorem dX10_areMixed_45 : decode cX10_areMixed 45 = .ok (.iload 4, 2) := by decide +kernel
theorem dX10_areMixed_47 : decode cX10_areMixed 47 = .ok (.iload_n 2, 1) := by decide +kernel
theorem dX10_areMixed_48 : decode cX10_areMixed 48 = .ok (.if_icmp .ge 24, 3) := by decide +kernel
theorem dX10_areMixed_51 : decode cX10_areMixed 51 = .ok (.aload_n 0, 1) := by decide +kernel
theorem dX10_areMixed_52 : decode cX10_areMixed 52 = .ok (.getfield 16, 3) := by decide +kernel
theorem dX10_areMixed_55 : decode cX10_areMixed 55 = .ok (.iload 4, 2) := by decide +kernel
theorem dX10_areMixed_57 : decode cX10_areMixed 57 = .ok (.invokevirtual 143, 3) := by decide +kernel
theorem dX10_areMixed_60 : decode cX10_areMixed 60 = .ok (.iload_n 3, 1) := by decide +kernel
theorem dX10_areMixed_61 : decode cX10_areMixed 61 = .ok (.if_icmp .ne 5, 3) := by decide +kernel
theorem dX10_areMixed_64 : decode cX10_areMixed 64 = .ok (.iconst 0, 1) := by decide +kernel
theorem dX10_areMixed_65 : decode cX10_areMixed 65 = .ok (.ireturn, 1) := by decide +kernel
theorem dX10_areMixed_66 : decode cX10_areMixed 66 = .ok (.iinc 4 1, 3) := by decide +kernel
theorem dX10_areMixed_69 : decode cX10_areMixed 69 = .ok (.goto (-24), 3) := by decide +kernel
theorem dX10_areMixed_72 : decode cX10_areMixed 72 = .ok (.iinc 2 1, 3) := by decide +kernel
theorem dX10_areMixed_75 : decode cX10_areMixed 75 = .ok (.goto (-73), 3) := by decide +kernel
theorem dX10_areMixed_78 : decode cX10_areMixed 78 = .ok (.iconst 1, 1) := by decide +kernel
theorem dX10_areMixed_79 : decode cX10_areMixed 79 = .ok (.ireturn, 1) := by decide +kernel
noncomputable def f10_areMixed_j40 (s4_j40 : OS) (s8_j40 : OS) : Option (Int32) := some ((0 : Int32))
noncomputable def f10_areMixed_l45 (v1_i45 : Int32) (v2_i45 : Int32) (v3_i45 : Int32) (s4_i45 : OS) (s8_i45 : OS) : Int32 → Option ((Int32) ⊕ ((Int32) ⊕ (Int32))) := fun t_45 => if v2_i45 ≤ t_45 then (Option.map Sum.inr (nm (v2_i45 + (1 : Int32)) fun n_72 => some (Sum.inl n_72))) else (Option.bind (f8_number t_45 s8_i45) fun q_57 => if q_57 = v3_i45 then (Option.map Sum.inr (Option.map Sum.inr (some ((0 : Int32))))) else (nm (t_45 + (1 : Int32)) fun n_66 => some (Sum.inl n_66)))
noncomputable def f10_areMixed_l2 (v1_i2 : Int32) (s4_i2 : OS) (s8_i2 : OS) : Int32 → Option ((Int32) ⊕ (Int32)) := fun t_2 => if v1_i2 ≤ t_2 then (Option.map Sum.inr (some ((1 : Int32)))) else (Option.bind (f8_number t_2 s8_i2) fun q_12 => Option.bind (f4_has q_12 s4_i2) fun q_21 => if q_21 = 0 then (Option.map Sum.inr (f10_areMixed_j40 s4_i2 s8_i2)) else (Option.bind (f4_placeOf q_12 s4_i2) fun q_32 => if q_32 = (12 : Int32) then (Option.map Sum.inr (f10_areMixed_j40 s4_i2 s8_i2)) else (loop (f10_areMixed_l45 v1_i2 t_2 q_12 s4_i2 s8_i2) (0 : Int32))))
noncomputable def f10_areMixed (a1 : Int32) (s4 : OS) (s8 : OS) : Option (Int32) := loop (f10_areMixed_l2 a1 s4 s8) (0 : Int32)
set_option maxHeartbeats 4000000 in
set_option maxRecDepth 100000 in
theorem m10_areMixed (l : Launch) (D : va_G) (ad : Nat → Nat) (cy : Nat → ClassId) (sz : Nat) (s0 s1 s2 s3 s4 s5 s6 s7 s8 s9 s10 : OS) (a1 : Int32) (r : Int32) (h : f10_areMixed a1 s4 s8 = some r) : Met l yX10_areMixed (wsOf yX10_areMixed cX10_areMixed 5 (some .boolean)) (rmL 2) (va_Pc ([.ref (ad 10), .int a1] : List Value) (PreG D cy (cellsC ad cy s0 s1 s2 s3 s4 s5 s6 s7 s8 s9 s10) sz (NC ad))) (QcI D ad 67 (cellsC ad cy s0 s1 s2 s3 s4 s5 s6 s7 s8 s9 s10) (r) sz) 0 0 (Afr ad 67 sz) := by
  refine metG (own := RX10) (by decide) rfl (Nat.le_of_ble_eq_true rfl) fstC ?_ sz
  intro p e s m below meth c ls C0 hw hl
  obtain ⟨hx, hb, hml, hown, hts, hr, hlk, hK, hN⟩ := C0
  have hl : lv_has ls 5 [(0, .ref (ad 10)), (1, .int a1)] := hl
  generalize hQ : MQ below (QcI D ad 67 (cellsC ad cy s0 s1 s2 s3 s4 s5 s6 s7 s8 s9 s10) (r) s.heap.size) ([.ref (ad 10), .int a1] : List Value).toArray s 0 0 (Afr ad 67 s.heap.size) = Q
  obtain ⟨H, hH⟩ : ∃ H : Heap, H = s.heap := ⟨_, rfl⟩
  obtain ⟨locs, hlc⟩ : ∃ L : List Loc, L = [] := ⟨_, rfl⟩
  have hw : Wd D (cellsC ad cy s0 s1 s2 s3 s4 s5 s6 s7 s8 s9 s10) (Afr ad 67 s.heap.size) s.heap H locs := by rw [hH, hlc]; exact hw
  suffices h0 : W p l e (rmL 2) s m ([.ref (ad 10), .int a1] : List Value).toArray below meth c H locs 0 0 Q (F0 m 0 ls []) by rw [hH, hlc] at h0; exact h0
  clear hH hlc
  unfold f10_areMixed at h
  have hJ_40 : ∀  (H : Heap) (locs : List Loc) (ls : Array Slot), f10_areMixed_j40 s4 s8 = some r → Wd D (cellsC ad cy s0 s1 s2 s3 s4 s5 s6 s7 s8 s9 s10) (Afr ad 67 s.heap.size) s.heap H locs → lv_has ls 5 [] → W p l e (rmL 2) s m ([.ref (ad 10), .int a1] : List Value).toArray below meth c H locs 0 0 Q (F0 m 40 ls []) := by
    intro  H locs ls h hw hl
    unfold f10_areMixed_j40 at h
    refine lv_iconst (v := 0) hx hb dX10_areMixed_40 (by decide) ?_
    have h := Option.some.inj h
    subst h
    rw [← hQ]
    exact retI hx hb hr hlk hw (narB (v := (0 : Int32)) (by decide)) dX10_areMixed_41
  refine lv_iconst (v := 0) hx hb dX10_areMixed_0 (by decide) ?_
  refine lv_istore_n (lv' := [(2, .int ((0 : Int32))), (0, .ref (ad 10)), (1, .int a1)]) hx hb dX10_areMixed_1 rfl hl (by decide) rfl (fun ls hl => ?_)
  obtain ⟨n_2, hn_2⟩ := loop_e h
  have hL_2 : ∀ (n : Nat) (t_2 : Int32) (H : Heap) (locs : List Loc) (ls : Array Slot), loopN (f10_areMixed_l2 a1 s4 s8) n t_2 = some r → Wd D (cellsC ad cy s0 s1 s2 s3 s4 s5 s6 s7 s8 s9 s10) (Afr ad 67 s.heap.size) s.heap H locs → lv_has ls 5 [(2, .int t_2), (1, .int a1), (0, .ref (ad 10))] → W p l e (rmL 2) s m ([.ref (ad 10), .int a1] : List Value).toArray below meth c H locs 0 0 Q (F0 m 2 ls []) := by
    intro n
    induction n with
    | zero => intro t_2 H locs ls hn; cases hn
    | succ n ih_2 =>
      intro t_2 H locs ls hn hw hl
      obtain ⟨x_2, h, hx_2⟩ := loopN_e hn
      unfold f10_areMixed_l2 at h
      refine lv_iload_n hx hb dX10_areMixed_2 rfl (lv_at hl 0 rfl) ?_
      refine lv_iload_n hx hb dX10_areMixed_3 rfl (lv_at hl 1 rfl) ?_
      refine lv_icmp_ge (tgt := 78) hx hb dX10_areMixed_4 (by decide) (fun c_4 => ?_) (fun c_4 => ?_)
      · have h := ite_t c_4 h
        have h := nx_m hx_2 h
        refine lv_iconst (v := 1) hx hb dX10_areMixed_78 (by decide) ?_
        have h := Option.some.inj h
        subst h
        rw [← hQ]
        exact retI hx hb hr hlk hw (narB (v := (1 : Int32)) (by decide)) dX10_areMixed_79
      · have h := ite_f c_4 h
        refine lv_aload_n hx hb dX10_areMixed_7 rfl (lv_at hl 2 rfl) ?_
        refine gX10_16 hx hb hts hown hK hw dX10_areMixed_8 ?_
        refine lv_iload_n hx hb dX10_areMixed_11 rfl (lv_at hl 0 rfl) ?_
        obtain ⟨q_12, h_12, h⟩ := bnd_e h
        have pg_12 := preG (av := [.ref (ad 8), .int t_2]) hK hw.1 hw.2.1 (NC_keep hN hw.2.2) NC_blind
        refine endI (mc := 0) (ms := 0) (va_runV (As := [.int t_2]) (rest := []) ⟨hx, hb, hml, hown, hts⟩ (m8_number l D ad cy H.size s0 s1 s2 s3 s4 s5 s6 s7 s8 s9 s10 t_2 q_12 h_12) (wX10_143 1 hts ⟨Nat.le_of_ble_eq_true rfl, Nat.le_of_ble_eq_true rfl⟩) ⟨pg_12.1, va_recv hK hw.1 (ci := 8) (q0 := 8) rfl eC_8, pg_12.2⟩ rfl rfl hl.1 rfl (lv_room (Nat.le_of_ble_eq_true rfl)) dX10_areMixed_12 ⟨Nat.le_refl _, Nat.le_refl _⟩) hw.2.2 (afr_in hw.2.2) (fun H locs hw => ?_)
        refine lv_istore_n (lv' := [(3, .int q_12), (2, .int t_2), (1, .int a1), (0, .ref (ad 10))]) hx hb dX10_areMixed_15 rfl hl (by decide) rfl (fun ls hl => ?_)
        refine lv_aload_n hx hb dX10_areMixed_16 rfl (lv_at hl 3 rfl) ?_
        refine gX10_23 hx hb hts hown hK hw dX10_areMixed_17 ?_
        refine lv_iload_n hx hb dX10_areMixed_20 rfl (lv_at hl 0 rfl) ?_
        obtain ⟨q_21, h_21, h⟩ := bnd_e h
        have pg_21 := preG (av := [.ref (ad 4), .int q_12]) hK hw.1 hw.2.1 (NC_keep hN hw.2.2) NC_blind
        refine endI (mc := 0) (ms := 0) (va_runV (As := [.int q_12]) (rest := []) ⟨hx, hb, hml, hown, hts⟩ (m4_has l D ad cy H.size s0 s1 s2 s3 s4 s5 s6 s7 s8 s9 s10 q_12 q_21 h_21) (wX10_258 0 hts ⟨Nat.le_of_ble_eq_true rfl, Nat.le_of_ble_eq_true rfl⟩) ⟨pg_21.1, va_recv hK hw.1 (ci := 4) (q0 := 4) rfl eC_4, pg_21.2⟩ rfl rfl hl.1 rfl (lv_room (Nat.le_of_ble_eq_true rfl)) dX10_areMixed_21 ⟨Nat.le_refl _, Nat.le_refl _⟩) hw.2.2 (afr_in hw.2.2) (fun H locs hw => ?_)
        refine lv_if_eq (tgt := 40) hx hb dX10_areMixed_24 (by decide) (fun c_24 => ?_) (fun c_24 => ?_)
        · have h := ite_t c_24 h
          have h := nx_m hx_2 h
          exact hJ_40  H locs ls h hw (lv_sub hl [] rfl)
        · have h := ite_f c_24 h
          refine lv_aload_n hx hb dX10_areMixed_27 rfl (lv_at hl 3 rfl) ?_
          refine gX10_23 hx hb hts hown hK hw dX10_areMixed_28 ?_
          refine lv_iload_n hx hb dX10_areMixed_31 rfl (lv_at hl 0 rfl) ?_
          obtain ⟨q_32, h_32, h⟩ := bnd_e h
          have pg_32 := preG (av := [.ref (ad 4), .int q_12]) hK hw.1 hw.2.1 (NC_keep hN hw.2.2) NC_blind
          refine endI (mc := 0) (ms := 0) (va_runV (As := [.int q_12]) (rest := []) ⟨hx, hb, hml, hown, hts⟩ (m4_placeOf l D ad cy H.size s0 s1 s2 s3 s4 s5 s6 s7 s8 s9 s10 q_12 q_32 h_32) (wX10_116 1 hts ⟨Nat.le_of_ble_eq_true rfl, Nat.le_of_ble_eq_true rfl⟩) ⟨pg_32.1, va_recv hK hw.1 (ci := 4) (q0 := 4) rfl eC_4, pg_32.2⟩ rfl rfl hl.1 rfl (lv_room (Nat.le_of_ble_eq_true rfl)) dX10_areMixed_32 ⟨Nat.le_refl _, Nat.le_refl _⟩) hw.2.2 (afr_in hw.2.2) (fun H locs hw => ?_)
          refine lv_bipush (v := 12) hx hb dX10_areMixed_35 (by decide) ?_
          refine lv_icmp_ne (tgt := 42) hx hb dX10_areMixed_37 (by decide) (fun c_37 => ?_) (fun c_37 => ?_)
          · have h := ite_f c_37 h
            refine lv_iconst (v := 0) hx hb dX10_areMixed_42 (by decide) ?_
            refine lv_istore (lv' := [(4, .int ((0 : Int32))), (3, .int q_12), (2, .int t_2), (1, .int a1), (0, .ref (ad 10))]) hx hb dX10_areMixed_43 hl (by decide) rfl (fun ls hl => ?_)
            obtain ⟨n_45, hn_45⟩ := loop_e h
            have hL_45 : ∀ (n : Nat) (t_45 : Int32) (H : Heap) (locs : List Loc) (ls : Array Slot), loopN (f10_areMixed_l45 a1 t_2 q_12 s4 s8) n t_45 = some x_2 → Wd D (cellsC ad cy s0 s1 s2 s3 s4 s5 s6 s7 s8 s9 s10) (Afr ad 67 s.heap.size) s.heap H locs → lv_has ls 5 [(4, .int t_45), (1, .int a1), (2, .int t_2), (3, .int q_12), (0, .ref (ad 10))] → W p l e (rmL 2) s m ([.ref (ad 10), .int a1] : List Value).toArray below meth c H locs 0 0 Q (F0 m 45 ls []) := by
              intro n
              induction n with
              | zero => intro t_45 H locs ls hn; cases hn
              | succ n ih_45 =>
                intro t_45 H locs ls hn hw hl
                obtain ⟨x_45, h, hx_45⟩ := loopN_e hn
                unfold f10_areMixed_l45 at h
                refine lv_iload hx hb dX10_areMixed_45 (lv_at hl 0 rfl) ?_
                refine lv_iload_n hx hb dX10_areMixed_47 rfl (lv_at hl 2 rfl) ?_
                refine lv_icmp_ge (tgt := 72) hx hb dX10_areMixed_48 (by decide) (fun c_48 => ?_) (fun c_48 => ?_)
                · have h := ite_t c_48 h
                  have h := nx_m hx_45 h
                  obtain ⟨n_72, e_72, h⟩ := nam_e h
                  refine lv_iinc (v := n_72) (lv' := [(2, .int n_72), (4, .int t_45), (1, .int a1), (3, .int q_12), (0, .ref (ad 10))]) hx hb dX10_areMixed_72 hl (k := 2) rfl (by rw [e_72]; rfl) (by decide) rfl (fun ls hl => ?_)
                  refine lv_goto (tgt := 2) hx hb dX10_areMixed_75 (by decide) ?_
                  exact ih_2 n_72 H locs ls (nx_l hx_2 h) hw (lv_sub hl [0, 2, 4] rfl)
                · have h := ite_f c_48 h
                  refine lv_aload_n hx hb dX10_areMixed_51 rfl (lv_at hl 4 rfl) ?_
                  refine gX10_16 hx hb hts hown hK hw dX10_areMixed_52 ?_
                  refine lv_iload hx hb dX10_areMixed_55 (lv_at hl 0 rfl) ?_
                  obtain ⟨q_57, h_57, h⟩ := bnd_e h
                  have pg_57 := preG (av := [.ref (ad 8), .int t_45]) hK hw.1 hw.2.1 (NC_keep hN hw.2.2) NC_blind
                  refine endI (mc := 0) (ms := 0) (va_runV (As := [.int t_45]) (rest := []) ⟨hx, hb, hml, hown, hts⟩ (m8_number l D ad cy H.size s0 s1 s2 s3 s4 s5 s6 s7 s8 s9 s10 t_45 q_57 h_57) (wX10_143 1 hts ⟨Nat.le_of_ble_eq_true rfl, Nat.le_of_ble_eq_true rfl⟩) ⟨pg_57.1, va_recv hK hw.1 (ci := 8) (q0 := 8) rfl eC_8, pg_57.2⟩ rfl rfl hl.1 rfl (lv_room (Nat.le_of_ble_eq_true rfl)) dX10_areMixed_57 ⟨Nat.le_refl _, Nat.le_refl _⟩) hw.2.2 (afr_in hw.2.2) (fun H locs hw => ?_)
                  refine lv_iload_n hx hb dX10_areMixed_60 rfl (lv_at hl 3 rfl) ?_
                  refine lv_icmp_ne (tgt := 66) hx hb dX10_areMixed_61 (by decide) (fun c_61 => ?_) (fun c_61 => ?_)
                  · have h := ite_f c_61 h
                    obtain ⟨n_66, e_66, h⟩ := nam_e h
                    refine lv_iinc (v := n_66) (lv' := [(4, .int n_66), (1, .int a1), (2, .int t_2), (3, .int q_12), (0, .ref (ad 10))]) hx hb dX10_areMixed_66 hl (k := 0) rfl (by rw [e_66]; rfl) (by decide) rfl (fun ls hl => ?_)
                    refine lv_goto (tgt := 45) hx hb dX10_areMixed_69 (by decide) ?_
                    exact ih_45 n_66 H locs ls (nx_l hx_45 h) hw (lv_sub hl [0, 1, 2, 3, 4] rfl)
                  · have h := ite_t c_61 h
                    have h := nx_m hx_45 h
                    have h := nx_m hx_2 h
                    refine lv_iconst (v := 0) hx hb dX10_areMixed_64 (by decide) ?_
                    have h := Option.some.inj h
                    subst h
                    rw [← hQ]
                    exact retI hx hb hr hlk hw (narB (v := (0 : Int32)) (by decide)) dX10_areMixed_65
            exact hL_45 n_45 (0 : Int32) H locs ls hn_45 hw (lv_sub hl [0, 3, 2, 1, 4] rfl)
          · have h := ite_t c_37 h
            have h := nx_m hx_2 h
            exact hJ_40  H locs ls h hw (lv_sub hl [] rfl)
  exact hL_2 n_2 (0 : Int32) H locs ls hn_2 hw (lv_sub hl [0, 2, 1] rfl)
theorem dX10_areThings_0 : decode cX10_areThings 0 = .ok (.iconst 0, 1) := by decide +kernel
theorem dX10_areThings_1 : decode cX10_areThings 1 = .ok (.istore_n 2, 1) := by decide +kernel
theorem dX10_areThings_2 : decode cX10_areThings 2 = .ok (.iload_n 2, 1) := by decide +kernel
theorem dX10_areThings_3 : decode cX10_areThings 3 = .ok (.iload_n 1, 1) := by decide +kernel
theorem dX10_areThings_4 : decode cX10_areThings 4 = .ok (.if_icmp .ge 86, 3) := by decide +kernel
theorem dX10_areThings_7 : decode cX10_areThings 7 = .ok (.iload_n 1, 1) := by decide +kernel
theorem dX10_areThings_8 : decode cX10_areThings 8 = .ok (.iconst 3, 1) := by decide +kernel
theorem dX10_areThings_9 : decode cX10_areThings 9 = .ok (.iload_n 2, 1) := by decide +kernel
theorem dX10_areThings_10 : decode cX10_areThings 10 = .ok (.imul, 1) := by decide +kernel
theorem dX10_areThings_11 : decode cX10_areThings 11 = .ok (.iadd, 1) := by decide +kernel
theorem dX10_areThings_12 : decode cX10_areThings 12 = .ok (.istore_n 3, 1) := by decide +kernel
theorem dX10_areThings_13 : decode cX10_areThings 13 = .ok (.aload_n 0, 1) := by decide +kernel
theorem dX10_areThings_14 : decode cX10_areThings 14 = .ok (.getfield 16, 3) := by decide +kernel
theorem dX10_areThings_17 : decode cX10_areThings 17 = .ok (.iload_n 3, 1) := by decide +kernel
theorem dX10_areThings_18 : decode cX10_areThings 18 = .ok (.invokevirtual 143, 3) := by decide +kernel
theorem dX10_areThings_21 : decode cX10_areThings 21 = .ok (.iconst 0, 1) := by decide +kernel
theorem dX10_areThings_22 : decode cX10_areThings 22 = .ok (.ldc_w 264, 3) := by decide +kernel
theorem dX10_areThings_25 : decode cX10_areThings 25 = .ok (.invokestatic 86, 3) := by decide +kernel
theorem dX10_areThings_28 : decode cX10_areThings 28 = .ok (.ifCond .eq 46, 3) := by decide +kernel
theorem dX10_areThings_31 : decode cX10_areThings 31 = .ok (.aload_n 0, 1) := by decide +kernel
theorem dX10_areThings_32 : decode cX10_areThings 32 = .ok (.getfield 16, 3) := by decide +kernel
theorem dX10_areThings_35 : decode cX10_areThings 35 = .ok (.iload_n 3, 1) := by decide +kernel
theorem dX10_areThings_36 : decode cX10_areThings 36 = .ok (.iconst 1, 1) := by decide +kernel
theorem dX10_areThings_37 : decode cX10_areThings 37 = .ok (.iadd, 1) := by decide +kernel
theorem dX10_areThings_38 : decode cX10_areThings 38 = .ok (.invokevirtual 143, 3) := by decide +kernel
theorem dX10_areThings_41 : decode cX10_areThings 41 = .ok (.iconst 0, 1) := by decide +kernel
theorem dX10_areThings_42 : decode cX10_areThings 42 = .ok (.sipush 1000, 3) := by decide +kernel
theorem dX10_areThings_45 : decode cX10_areThings 45 = .ok (.invokestatic 86, 3) := by decide +kernel
theorem dX10_areThings_48 : decode cX10_areThings 48 = .ok (.ifCond .eq 26, 3) := by decide +kernel
theorem dX10_areThings_51 : decode cX10_areThings 51 = .ok (.aload_n 0, 1) := by decide +kernel
theorem dX10_areThings_52 : decode cX10_areThings 52 = .ok (.getfield 16, 3) := by decide +kernel
theorem dX10_areThings_55 : decode cX10_areThings 55 = .ok (.iload_n 3, 1) := by decide +kernel
theorem dX10_areThings_56 : decode cX10_areThings 56 = .ok (.iconst 2, 1) := by decide +kernel
theorem dX10_areThings_57 : decode cX10_areThings 57 = .ok (.iadd, 1) := by decide +kernel
theorem dX10_areThings_58 : decode cX10_areThings 58 = .ok (.invokevirtual 143, 3) := by decide +kernel
theorem dX10_areThings_61 : decode cX10_areThings 61 = .ok (.iconst 0, 1) := by decide +kernel
theorem dX10_areThings_62 : decode cX10_areThings 62 = .ok (.bipush 8, 2) := by decide +kernel
theorem dX10_areThings_64 : decode cX10_areThings 64 = .ok (.invokestatic 86, 3) := by decide +kernel
theorem dX10_areThings_67 : decode cX10_areThings 67 = .ok (.ifCond .eq 7, 3) := by decide +kernel
theorem dX10_areThings_70 : decode cX10_areThings 70 = .ok (.iconst 1, 1) := by decide +kernel
theorem dX10_areThings_71 : decode cX10_areThings 71 = .ok (.goto 4, 3) := by decide +kernel
theorem dX10_areThings_74 : decode cX10_areThings 74 = .ok (.iconst 0, 1) := by decide +kernel
theorem dX10_areThings_75 : decode cX10_areThings 75 = .ok (.istore 4, 2) := by decide +kernel
theorem dX10_areThings_77 : decode cX10_areThings 77 = .ok (.iload 4, 2) := by decide +kernel
theorem dX10_areThings_79 : decode cX10_areThings 79 = .ok (.ifCond .ne 5, 3) := by decide +kernel
theorem dX10_areThings_82 : decode cX10_areThings 82 = .ok (.iconst 0, 1) := by decide +kernel
theorem dX10_areThings_83 : decode cX10_areThings 83 = .ok (.ireturn, 1) := by decide +kernel
theorem dX10_areThings_84 : decode cX10_areThings 84 = .ok (.iinc 2 1, 3) := by decide +kernel
theorem dX10_areThings_87 : decode cX10_areThings 87 = .ok (.goto (-85), 3) := by decide +kernel
theorem dX10_areThings_90 : decode cX10_areThings 90 = .ok (.iconst 1, 1) := by decide +kernel
theorem dX10_areThings_91 : decode cX10_areThings 91 = .ok (.ireturn, 1) := by decide +kernel
noncomputable def f10_areThings_j75 (v1_j75 : Int32) (v2_j75 : Int32) (k0_j75 : Int32) (s8_j75 : OS) : Option ((Int32) ⊕ (Int32)) := if k0_j75 = 0 then (Option.map Sum.inr (some ((0 : Int32)))) else (nm (v2_j75 + (1 : Int32)) fun n_84 => some (Sum.inl n_84))
noncomputable def f10_areThings_j74 (v1_j74 : Int32) (v2_j74 : Int32) (s8_j74 : OS) : Option ((Int32) ⊕ (Int32)) := f10_areThings_j75 v1_j74 v2_j74 ((0 : Int32)) s8_j74
noncomputable def f10_areThings_l2 (v1_i2 : Int32) (s8_i2 : OS) : Int32 → Option ((Int32) ⊕ (Int32)) := fun t_2 => if v1_i2 ≤ t_2 then (Option.map Sum.inr (some ((1 : Int32)))) else (nm ((v1_i2 + ((3 : Int32) * t_2))) fun n_12 => Option.bind (f8_number n_12 s8_i2) fun q_18 => Option.bind (f10_isWithin q_18 ((0 : Int32)) ((1000001000 : Int32))) fun q_25 => if q_25 = 0 then (f10_areThings_j74 v1_i2 t_2 s8_i2) else (Option.bind (f8_number ((n_12 + (1 : Int32))) s8_i2) fun q_38 => Option.bind (f10_isWithin q_38 ((0 : Int32)) ((1000 : Int32))) fun q_45 => if q_45 = 0 then (f10_areThings_j74 v1_i2 t_2 s8_i2) else (Option.bind (f8_number ((n_12 + (2 : Int32))) s8_i2) fun q_58 => Option.bind (f10_isWithin q_58 ((0 : Int32)) ((8 : Int32))) fun q_64 => if q_64 = 0 then (f10_areThings_j74 v1_i2 t_2 s8_i2) else (f10_areThings_j75 v1_i2 t_2 ((1 : Int32)) s8_i2))))
noncomputable def f10_areThings (a1 : Int32) (s8 : OS) : Option (Int32) := loop (f10_areThings_l2 a1 s8) (0 : Int32)
set_option maxHeartbeats 4000000 in
set_option maxRecDepth 100000 in
theorem m10_areThings (l : Launch) (D : va_G) (ad : Nat → Nat) (cy : Nat → ClassId) (sz : Nat) (s0 s1 s2 s3 s4 s5 s6 s7 s8 s9 s10 : OS) (a1 : Int32) (r : Int32) (h : f10_areThings a1 s8 = some r) : Met l yX10_areThings (wsOf yX10_areThings cX10_areThings 5 (some .boolean)) (rmL 2) (va_Pc ([.ref (ad 10), .int a1] : List Value) (PreG D cy (cellsC ad cy s0 s1 s2 s3 s4 s5 s6 s7 s8 s9 s10) sz (NC ad))) (QcI D ad 67 (cellsC ad cy s0 s1 s2 s3 s4 s5 s6 s7 s8 s9 s10) (r) sz) 0 0 (Afr ad 67 sz) := by
  refine metG (own := RX10) (by decide) rfl (Nat.le_of_ble_eq_true rfl) fstC ?_ sz
  intro p e s m below meth c ls C0 hw hl
  obtain ⟨hx, hb, hml, hown, hts, hr, hlk, hK, hN⟩ := C0
  have hl : lv_has ls 5 [(0, .ref (ad 10)), (1, .int a1)] := hl
  generalize hQ : MQ below (QcI D ad 67 (cellsC ad cy s0 s1 s2 s3 s4 s5 s6 s7 s8 s9 s10) (r) s.heap.size) ([.ref (ad 10), .int a1] : List Value).toArray s 0 0 (Afr ad 67 s.heap.size) = Q
  obtain ⟨H, hH⟩ : ∃ H : Heap, H = s.heap := ⟨_, rfl⟩
  obtain ⟨locs, hlc⟩ : ∃ L : List Loc, L = [] := ⟨_, rfl⟩
  have hw : Wd D (cellsC ad cy s0 s1 s2 s3 s4 s5 s6 s7 s8 s9 s10) (Afr ad 67 s.heap.size) s.heap H locs := by rw [hH, hlc]; exact hw
  suffices h0 : W p l e (rmL 2) s m ([.ref (ad 10), .int a1] : List Value).toArray below meth c H locs 0 0 Q (F0 m 0 ls []) by rw [hH, hlc] at h0; exact h0
  clear hH hlc
  unfold f10_areThings at h
  refine lv_iconst (v := 0) hx hb dX10_areThings_0 (by decide) ?_
  refine lv_istore_n (lv' := [(2, .int ((0 : Int32))), (0, .ref (ad 10)), (1, .int a1)]) hx hb dX10_areThings_1 rfl hl (by decide) rfl (fun ls hl => ?_)
  obtain ⟨n_2, hn_2⟩ := loop_e h
  have hL_2 : ∀ (n : Nat) (t_2 : Int32) (H : Heap) (locs : List Loc) (ls : Array Slot), loopN (f10_areThings_l2 a1 s8) n t_2 = some r → Wd D (cellsC ad cy s0 s1 s2 s3 s4 s5 s6 s7 s8 s9 s10) (Afr ad 67 s.heap.size) s.heap H locs → lv_has ls 5 [(2, .int t_2), (1, .int a1), (0, .ref (ad 10))] → W p l e (rmL 2) s m ([.ref (ad 10), .int a1] : List Value).toArray below meth c H locs 0 0 Q (F0 m 2 ls []) := by
    intro n
    induction n with
    | zero => intro t_2 H locs ls hn; cases hn
    | succ n ih_2 =>
      intro t_2 H locs ls hn hw hl
      obtain ⟨x_2, h, hx_2⟩ := loopN_e hn
      unfold f10_areThings_l2 at h
      have hJ_75 : ∀ (v2_j75 : Int32) (k0_j75 : Int32) (H : Heap) (locs : List Loc) (ls : Array Slot), f10_areThings_j75 a1 v2_j75 k0_j75 s8 = some x_2 → Wd D (cellsC ad cy s0 s1 s2 s3 s4 s5 s6 s7 s8 s9 s10) (Afr ad 67 s.heap.size) s.heap H locs → lv_has ls 5 [(0, .ref (ad 10)), (1, .int a1), (2, .int v2_j75)] → W p l e (rmL 2) s m ([.ref (ad 10), .int a1] : List Value).toArray below meth c H locs 0 0 Q (F0 m 75 ls [.int k0_j75]) := by
        intro v2_j75 k0_j75 H locs ls h hw hl
        unfold f10_areThings_j75 at h
        refine lv_istore (lv' := [(4, .int k0_j75), (0, .ref (ad 10)), (1, .int a1), (2, .int v2_j75)]) hx hb dX10_areThings_75 hl (by decide) rfl (fun ls hl => ?_)
        refine lv_iload hx hb dX10_areThings_77 (lv_at hl 0 rfl) ?_
        refine lv_if_ne (tgt := 84) hx hb dX10_areThings_79 (by decide) (fun c_79 => ?_) (fun c_79 => ?_)
        · have h := ite_f c_79 h
          obtain ⟨n_84, e_84, h⟩ := nam_e h
          refine lv_iinc (v := n_84) (lv' := [(2, .int n_84), (4, .int k0_j75), (0, .ref (ad 10)), (1, .int a1)]) hx hb dX10_areThings_84 hl (k := 3) rfl (by rw [e_84]; rfl) (by decide) rfl (fun ls hl => ?_)
          refine lv_goto (tgt := 2) hx hb dX10_areThings_87 (by decide) ?_
          exact ih_2 n_84 H locs ls (nx_l hx_2 h) hw (lv_sub hl [0, 3, 2] rfl)
        · have h := ite_t c_79 h
          have h := nx_m hx_2 h
          refine lv_iconst (v := 0) hx hb dX10_areThings_82 (by decide) ?_
          have h := Option.some.inj h
          subst h
          rw [← hQ]
          exact retI hx hb hr hlk hw (narB (v := (0 : Int32)) (by decide)) dX10_areThings_83
      have hJ_74 : ∀ (v2_j74 : Int32) (H : Heap) (locs : List Loc) (ls : Array Slot), f10_areThings_j74 a1 v2_j74 s8 = some x_2 → Wd D (cellsC ad cy s0 s1 s2 s3 s4 s5 s6 s7 s8 s9 s10) (Afr ad 67 s.heap.size) s.heap H locs → lv_has ls 5 [(0, .ref (ad 10)), (1, .int a1), (2, .int v2_j74)] → W p l e (rmL 2) s m ([.ref (ad 10), .int a1] : List Value).toArray below meth c H locs 0 0 Q (F0 m 74 ls []) := by
        intro v2_j74 H locs ls h hw hl
        unfold f10_areThings_j74 at h
        refine lv_iconst (v := 0) hx hb dX10_areThings_74 (by decide) ?_
        exact hJ_75 v2_j74 ((0 : Int32)) H locs ls h hw (lv_sub hl [0, 1, 2] rfl)
      refine lv_iload_n hx hb dX10_areThings_2 rfl (lv_at hl 0 rfl) ?_
      refine lv_iload_n hx hb dX10_areThings_3 rfl (lv_at hl 1 rfl) ?_
      refine lv_icmp_ge (tgt := 90) hx hb dX10_areThings_4 (by decide) (fun c_4 => ?_) (fun c_4 => ?_)
      · have h := ite_t c_4 h
        have h := nx_m hx_2 h
        refine lv_iconst (v := 1) hx hb dX10_areThings_90 (by decide) ?_
        have h := Option.some.inj h
        subst h
        rw [← hQ]
        exact retI hx hb hr hlk hw (narB (v := (1 : Int32)) (by decide)) dX10_areThings_91
      · have h := ite_f c_4 h
        refine lv_iload_n hx hb dX10_areThings_7 rfl (lv_at hl 1 rfl) ?_
        refine lv_iconst (v := 3) hx hb dX10_areThings_8 (by decide) ?_
        refine lv_iload_n hx hb dX10_areThings_9 rfl (lv_at hl 0 rfl) ?_
        refine lv_imul hx hb dX10_areThings_10 ?_
        refine lv_iadd hx hb dX10_areThings_11 ?_
        obtain ⟨n_12, e_12, h⟩ := nam_e h
        refine topI e_12 ?_
        refine lv_istore_n (lv' := [(3, .int n_12), (2, .int t_2), (1, .int a1), (0, .ref (ad 10))]) hx hb dX10_areThings_12 rfl hl (by decide) rfl (fun ls hl => ?_)
        refine lv_aload_n hx hb dX10_areThings_13 rfl (lv_at hl 3 rfl) ?_
        refine gX10_16 hx hb hts hown hK hw dX10_areThings_14 ?_
        refine lv_iload_n hx hb dX10_areThings_17 rfl (lv_at hl 0 rfl) ?_
        obtain ⟨q_18, h_18, h⟩ := bnd_e h
        have pg_18 := preG (av := [.ref (ad 8), .int n_12]) hK hw.1 hw.2.1 (NC_keep hN hw.2.2) NC_blind
        refine endI (mc := 0) (ms := 0) (va_runV (As := [.int n_12]) (rest := []) ⟨hx, hb, hml, hown, hts⟩ (m8_number l D ad cy H.size s0 s1 s2 s3 s4 s5 s6 s7 s8 s9 s10 n_12 q_18 h_18) (wX10_143 1 hts ⟨Nat.le_of_ble_eq_true rfl, Nat.le_of_ble_eq_true rfl⟩) ⟨pg_18.1, va_recv hK hw.1 (ci := 8) (q0 := 8) rfl eC_8, pg_18.2⟩ rfl rfl hl.1 rfl (lv_room (Nat.le_of_ble_eq_true rfl)) dX10_areThings_18 ⟨Nat.le_refl _, Nat.le_refl _⟩) hw.2.2 (afr_in hw.2.2) (fun H locs hw => ?_)
        refine lv_iconst (v := 0) hx hb dX10_areThings_21 (by decide) ?_
        refine lv_ldcw (v := 1000001000) hx hb hown (hts _ (wd_4 (w := .constant RX10 264 1000001000) (i := 200) (by decide +kernel) rfl)) dX10_areThings_22 ?_
        obtain ⟨q_25, h_25, h⟩ := bnd_e h
        have pg_25 := preG (av := [.int q_18, .int ((0 : Int32)), .int ((1000001000 : Int32))]) hK hw.1 hw.2.1 (NC_keep hN hw.2.2) NC_blind
        refine endI (mc := 0) (ms := 0) (va_runS (As := [.int q_18, .int ((0 : Int32)), .int ((1000001000 : Int32))]) (rest := []) ⟨hx, hb, hml, hown, hts⟩ (m10_isWithin l D ad cy H.size s0 s1 s2 s3 s4 s5 s6 s7 s8 s9 s10 q_18 ((0 : Int32)) ((1000001000 : Int32)) q_25 h_25) (wX10_86 0 hts ⟨Nat.le_of_ble_eq_true rfl, Nat.le_of_ble_eq_true rfl⟩) pg_25 rfl rfl hl.1 rfl (lv_room (Nat.le_of_ble_eq_true rfl)) dX10_areThings_25 ⟨Nat.le_refl _, Nat.le_refl _⟩) hw.2.2 (afr_in hw.2.2) (fun H locs hw => ?_)
        refine lv_if_eq (tgt := 74) hx hb dX10_areThings_28 (by decide) (fun c_28 => ?_) (fun c_28 => ?_)
        · have h := ite_t c_28 h
          exact hJ_74 t_2 H locs ls h hw (lv_sub hl [3, 2, 1] rfl)
        · have h := ite_f c_28 h
          refine lv_aload_n hx hb dX10_areThings_31 rfl (lv_at hl 3 rfl) ?_
          refine gX10_16 hx hb hts hown hK hw dX10_areThings_32 ?_
          refine lv_iload_n hx hb dX10_areThings_35 rfl (lv_at hl 0 rfl) ?_
          refine lv_iconst (v := 1) hx hb dX10_areThings_36 (by decide) ?_
          refine lv_iadd hx hb dX10_areThings_37 ?_
          obtain ⟨q_38, h_38, h⟩ := bnd_e h
          have pg_38 := preG (av := [.ref (ad 8), .int ((n_12 + (1 : Int32)))]) hK hw.1 hw.2.1 (NC_keep hN hw.2.2) NC_blind
          refine endI (mc := 0) (ms := 0) (va_runV (As := [.int ((n_12 + (1 : Int32)))]) (rest := []) ⟨hx, hb, hml, hown, hts⟩ (m8_number l D ad cy H.size s0 s1 s2 s3 s4 s5 s6 s7 s8 s9 s10 ((n_12 + (1 : Int32))) q_38 h_38) (wX10_143 1 hts ⟨Nat.le_of_ble_eq_true rfl, Nat.le_of_ble_eq_true rfl⟩) ⟨pg_38.1, va_recv hK hw.1 (ci := 8) (q0 := 8) rfl eC_8, pg_38.2⟩ rfl rfl hl.1 rfl (lv_room (Nat.le_of_ble_eq_true rfl)) dX10_areThings_38 ⟨Nat.le_refl _, Nat.le_refl _⟩) hw.2.2 (afr_in hw.2.2) (fun H locs hw => ?_)
          refine lv_iconst (v := 0) hx hb dX10_areThings_41 (by decide) ?_
          refine lv_sipush (v := 1000) hx hb dX10_areThings_42 (by decide) ?_
          obtain ⟨q_45, h_45, h⟩ := bnd_e h
          have pg_45 := preG (av := [.int q_38, .int ((0 : Int32)), .int ((1000 : Int32))]) hK hw.1 hw.2.1 (NC_keep hN hw.2.2) NC_blind
          refine endI (mc := 0) (ms := 0) (va_runS (As := [.int q_38, .int ((0 : Int32)), .int ((1000 : Int32))]) (rest := []) ⟨hx, hb, hml, hown, hts⟩ (m10_isWithin l D ad cy H.size s0 s1 s2 s3 s4 s5 s6 s7 s8 s9 s10 q_38 ((0 : Int32)) ((1000 : Int32)) q_45 h_45) (wX10_86 0 hts ⟨Nat.le_of_ble_eq_true rfl, Nat.le_of_ble_eq_true rfl⟩) pg_45 rfl rfl hl.1 rfl (lv_room (Nat.le_of_ble_eq_true rfl)) dX10_areThings_45 ⟨Nat.le_refl _, Nat.le_refl _⟩) hw.2.2 (afr_in hw.2.2) (fun H locs hw => ?_)
          refine lv_if_eq (tgt := 74) hx hb dX10_areThings_48 (by decide) (fun c_48 => ?_) (fun c_48 => ?_)
          · have h := ite_t c_48 h
            exact hJ_74 t_2 H locs ls h hw (lv_sub hl [3, 2, 1] rfl)
          · have h := ite_f c_48 h
            refine lv_aload_n hx hb dX10_areThings_51 rfl (lv_at hl 3 rfl) ?_
            refine gX10_16 hx hb hts hown hK hw dX10_areThings_52 ?_
            refine lv_iload_n hx hb dX10_areThings_55 rfl (lv_at hl 0 rfl) ?_
            refine lv_iconst (v := 2) hx hb dX10_areThings_56 (by decide) ?_
            refine lv_iadd hx hb dX10_areThings_57 ?_
            obtain ⟨q_58, h_58, h⟩ := bnd_e h
            have pg_58 := preG (av := [.ref (ad 8), .int ((n_12 + (2 : Int32)))]) hK hw.1 hw.2.1 (NC_keep hN hw.2.2) NC_blind
            refine endI (mc := 0) (ms := 0) (va_runV (As := [.int ((n_12 + (2 : Int32)))]) (rest := []) ⟨hx, hb, hml, hown, hts⟩ (m8_number l D ad cy H.size s0 s1 s2 s3 s4 s5 s6 s7 s8 s9 s10 ((n_12 + (2 : Int32))) q_58 h_58) (wX10_143 1 hts ⟨Nat.le_of_ble_eq_true rfl, Nat.le_of_ble_eq_true rfl⟩) ⟨pg_58.1, va_recv hK hw.1 (ci := 8) (q0 := 8) rfl eC_8, pg_58.2⟩ rfl rfl hl.1 rfl (lv_room (Nat.le_of_ble_eq_true rfl)) dX10_areThings_58 ⟨Nat.le_refl _, Nat.le_refl _⟩) hw.2.2 (afr_in hw.2.2) (fun H locs hw => ?_)
            refine lv_iconst (v := 0) hx hb dX10_areThings_61 (by decide) ?_
            refine lv_bipush (v := 8) hx hb dX10_areThings_62 (by decide) ?_
            obtain ⟨q_64, h_64, h⟩ := bnd_e h
            have pg_64 := preG (av := [.int q_58, .int ((0 : Int32)), .int ((8 : Int32))]) hK hw.1 hw.2.1 (NC_keep hN hw.2.2) NC_blind
            refine endI (mc := 0) (ms := 0) (va_runS (As := [.int q_58, .int ((0 : Int32)), .int ((8 : Int32))]) (rest := []) ⟨hx, hb, hml, hown, hts⟩ (m10_isWithin l D ad cy H.size s0 s1 s2 s3 s4 s5 s6 s7 s8 s9 s10 q_58 ((0 : Int32)) ((8 : Int32)) q_64 h_64) (wX10_86 0 hts ⟨Nat.le_of_ble_eq_true rfl, Nat.le_of_ble_eq_true rfl⟩) pg_64 rfl rfl hl.1 rfl (lv_room (Nat.le_of_ble_eq_true rfl)) dX10_areThings_64 ⟨Nat.le_refl _, Nat.le_refl _⟩) hw.2.2 (afr_in hw.2.2) (fun H locs hw => ?_)
            refine lv_if_eq (tgt := 74) hx hb dX10_areThings_67 (by decide) (fun c_67 => ?_) (fun c_67 => ?_)
            · have h := ite_t c_67 h
              exact hJ_74 t_2 H locs ls h hw (lv_sub hl [3, 2, 1] rfl)
            · have h := ite_f c_67 h
              refine lv_iconst (v := 1) hx hb dX10_areThings_70 (by decide) ?_
              refine lv_goto (tgt := 75) hx hb dX10_areThings_71 (by decide) ?_
              exact hJ_75 t_2 ((1 : Int32)) H locs ls h hw (lv_sub hl [3, 2, 1] rfl)
  exact hL_2 n_2 (0 : Int32) H locs ls hn_2 hw (lv_sub hl [0, 2, 1] rfl)
theorem dX10_ask_0 : decode cX10_ask 0 = .ok (.iload_n 1, 1) := by decide +kernel
theorem dX10_ask_1 : decode cX10_ask 1 = .ok (.iconst 1, 1) := by decide +kernel
theorem dX10_ask_2 : decode cX10_ask 2 = .ok (.ldc 90, 2) := by decide +kernel
theorem dX10_ask_4 : decode cX10_ask 4 = .ok (.invokestatic 86, 3) := by decide +kernel
theorem dX10_ask_7 : decode cX10_ask 7 = .ok (.ifCond .eq 21, 3) := by decide +kernel
theorem dX10_ask_10 : decode cX10_ask 10 = .ok (.iload_n 2, 1) := by decide +kernel
theorem dX10_ask_11 : decode cX10_ask 11 = .ok (.iconst 1, 1) := by decide +kernel
theorem dX10_ask_12 : decode cX10_ask 12 = .ok (.sipush 1000, 3) := by decide +kernel
theorem dX10_ask_15 : decode cX10_ask 15 = .ok (.invokestatic 86, 3) := by decide +kernel
theorem dX10_ask_18 : decode cX10_ask 18 = .ok (.ifCond .eq 10, 3) := by decide +kernel
theorem dX10_ask_21 : decode cX10_ask 21 = .ok (.iload_n 3, 1) := by decide +kernel
theorem dX10_ask_22 : decode cX10_ask 22 = .ok (.invokestatic 80, 3) := by decide +kernel
theorem dX10_ask_25 : decode cX10_ask 25 = .ok (.ifCond .ne 5, 3) := by decide +kernel
theorem dX10_ask_28 : decode cX10_ask 28 = .ok (.iconst (-1), 1) := by decide +kernel
theorem dX10_ask_29 : decode cX10_ask 29 = .ok (.ireturn, 1) := by decide +kernel
theorem dX10_ask_30 : decode cX10_ask 30 = .ok (.aload_n 0, 1) := by decide +kernel
theorem dX10_ask_31 : decode cX10_ask 31 = .ok (.getfield 65, 3) := by decide +kernel
theorem dX10_ask_34 : decode cX10_ask 34 = .ok (.iload_n 1, 1) := by decide +kernel
theorem dX10_ask_35 : decode cX10_ask 35 = .ok (.iload_n 2, 1) := by decide +kernel
theorem dX10_ask_36 : decode cX10_ask 36 = .ok (.iload_n 3, 1) := by decide +kernel
theorem dX10_ask_37 : decode cX10_ask 37 = .ok (.invokevirtual 306, 3) := by decide +kernel
theorem dX10_ask_40 : decode cX10_ask 40 = .ok (.ireturn, 1) := by decide +kernel
def f10_ask_j28 (s0_j28 : OS) : Option (Int32 × OS) := some ((-1 : Int32), s0_j28)
def f10_ask (a1 : Int32) (a2 : Int32) (a3 : Int32) (s0 : OS) : Option (Int32 × OS) := Option.bind (f10_isWithin a1 ((1 : Int32)) ((1000000000 : Int32))) fun q_4 => if q_4 = 0 then (f10_ask_j28 s0) else (Option.bind (f10_isWithin a2 ((1 : Int32)) ((1000 : Int32))) fun q_15 => if q_15 = 0 then (f10_ask_j28 s0) else (Option.bind (f10_isBits a3) fun q_22 => if q_22 = 0 then (f10_ask_j28 s0) else (Option.bind (f0_add a1 a2 a3 s0) fun q_37 => some (q_37.1, q_37.2))))
set_option maxHeartbeats 4000000 in
set_option maxRecDepth 100000 in
theorem m10_ask (l : Launch) (D : va_G) (ad : Nat → Nat) (cy : Nat → ClassId) (sz : Nat) (s0 s1 s2 s3 s4 s5 s6 s7 s8 s9 s10 : OS) (a1 : Int32) (a2 : Int32) (a3 : Int32) (r : Int32 × OS) (h : f10_ask a1 a2 a3 s0 = some r) : Met l yX10_ask (wsOf yX10_ask cX10_ask 4 (some .int)) (rmL 2) (va_Pc ([.ref (ad 10), .int a1, .int a2, .int a3] : List Value) (PreG D cy (cellsC ad cy s0 s1 s2 s3 s4 s5 s6 s7 s8 s9 s10) sz (NC ad))) (QcI D ad 67 (cellsC ad cy r.2 s1 s2 s3 s4 s5 s6 s7 s8 s9 s10) (r.1) sz) 0 0 (Afr ad 67 sz) := by
  refine metG (own := RX10) (by decide) rfl (Nat.le_of_ble_eq_true rfl) fstC ?_ sz
  intro p e s m below meth c ls C0 hw hl
  obtain ⟨hx, hb, hml, hown, hts, hr, hlk, hK, hN⟩ := C0
  have hl : lv_has ls 4 [(0, .ref (ad 10)), (1, .int a1), (2, .int a2), (3, .int a3)] := hl
  generalize hQ : MQ below (QcI D ad 67 (cellsC ad cy r.2 s1 s2 s3 s4 s5 s6 s7 s8 s9 s10) (r.1) s.heap.size) ([.ref (ad 10), .int a1, .int a2, .int a3] : List Value).toArray s 0 0 (Afr ad 67 s.heap.size) = Q
  obtain ⟨H, hH⟩ : ∃ H : Heap, H = s.heap := ⟨_, rfl⟩
  obtain ⟨locs, hlc⟩ : ∃ L : List Loc, L = [] := ⟨_, rfl⟩
  have hw : Wd D (cellsC ad cy s0 s1 s2 s3 s4 s5 s6 s7 s8 s9 s10) (Afr ad 67 s.heap.size) s.heap H locs := by rw [hH, hlc]; exact hw
  suffices h0 : W p l e (rmL 2) s m ([.ref (ad 10), .int a1, .int a2, .int a3] : List Value).toArray below meth c H locs 0 0 Q (F0 m 0 ls []) by rw [hH, hlc] at h0; exact h0
  clear hH hlc
  unfold f10_ask at h
  have hJ_28 : ∀ (s0_j28 : OS) (H : Heap) (locs : List Loc) (ls : Array Slot), f10_ask_j28 s0_j28 = some r → Wd D (cellsC ad cy s0_j28 s1 s2 s3 s4 s5 s6 s7 s8 s9 s10) (Afr ad 67 s.heap.size) s.heap H locs → lv_has ls 4 [] → W p l e (rmL 2) s m ([.ref (ad 10), .int a1, .int a2, .int a3] : List Value).toArray below meth c H locs 0 0 Q (F0 m 28 ls []) := by
    intro s0_j28 H locs ls h hw hl
    unfold f10_ask_j28 at h
    refine lv_iconst (v := (-1)) hx hb dX10_ask_28 (by decide) ?_
    have h := Option.some.inj h
    subst h
    rw [← hQ]
    exact retI hx hb hr hlk hw rfl dX10_ask_29
  refine lv_iload_n hx hb dX10_ask_0 rfl (lv_at hl 1 rfl) ?_
  refine lv_iconst (v := 1) hx hb dX10_ask_1 (by decide) ?_
  refine lv_ldc (v := 1000000000) hx hb hown (hts _ (wd_2 (w := .constant RX10 90 1000000000) (i := 174) (by decide +kernel) rfl)) dX10_ask_2 ?_
  obtain ⟨q_4, h_4, h⟩ := bnd_e h
  have pg_4 := preG (av := [.int a1, .int ((1 : Int32)), .int ((1000000000 : Int32))]) hK hw.1 hw.2.1 (NC_keep hN hw.2.2) NC_blind
  refine endI (mc := 0) (ms := 0) (va_runS (As := [.int a1, .int ((1 : Int32)), .int ((1000000000 : Int32))]) (rest := []) ⟨hx, hb, hml, hown, hts⟩ (m10_isWithin l D ad cy H.size s0 s1 s2 s3 s4 s5 s6 s7 s8 s9 s10 a1 ((1 : Int32)) ((1000000000 : Int32)) q_4 h_4) (wX10_86 0 hts ⟨Nat.le_of_ble_eq_true rfl, Nat.le_of_ble_eq_true rfl⟩) pg_4 rfl rfl hl.1 rfl (lv_room (Nat.le_of_ble_eq_true rfl)) dX10_ask_4 ⟨Nat.le_refl _, Nat.le_refl _⟩) hw.2.2 (afr_in hw.2.2) (fun H locs hw => ?_)
  refine lv_if_eq (tgt := 28) hx hb dX10_ask_7 (by decide) (fun c_7 => ?_) (fun c_7 => ?_)
  · have h := ite_t c_7 h
    exact hJ_28 s0 H locs ls h hw (lv_sub hl [] rfl)
  · have h := ite_f c_7 h
    refine lv_iload_n hx hb dX10_ask_10 rfl (lv_at hl 2 rfl) ?_
    refine lv_iconst (v := 1) hx hb dX10_ask_11 (by decide) ?_
    refine lv_sipush (v := 1000) hx hb dX10_ask_12 (by decide) ?_
    obtain ⟨q_15, h_15, h⟩ := bnd_e h
    have pg_15 := preG (av := [.int a2, .int ((1 : Int32)), .int ((1000 : Int32))]) hK hw.1 hw.2.1 (NC_keep hN hw.2.2) NC_blind
    refine endI (mc := 0) (ms := 0) (va_runS (As := [.int a2, .int ((1 : Int32)), .int ((1000 : Int32))]) (rest := []) ⟨hx, hb, hml, hown, hts⟩ (m10_isWithin l D ad cy H.size s0 s1 s2 s3 s4 s5 s6 s7 s8 s9 s10 a2 ((1 : Int32)) ((1000 : Int32)) q_15 h_15) (wX10_86 0 hts ⟨Nat.le_of_ble_eq_true rfl, Nat.le_of_ble_eq_true rfl⟩) pg_15 rfl rfl hl.1 rfl (lv_room (Nat.le_of_ble_eq_true rfl)) dX10_ask_15 ⟨Nat.le_refl _, Nat.le_refl _⟩) hw.2.2 (afr_in hw.2.2) (fun H locs hw => ?_)
    refine lv_if_eq (tgt := 28) hx hb dX10_ask_18 (by decide) (fun c_18 => ?_) (fun c_18 => ?_)
    · have h := ite_t c_18 h
      exact hJ_28 s0 H locs ls h hw (lv_sub hl [] rfl)
    · have h := ite_f c_18 h
      refine lv_iload_n hx hb dX10_ask_21 rfl (lv_at hl 3 rfl) ?_
      obtain ⟨q_22, h_22, h⟩ := bnd_e h
      have pg_22 := preG (av := [.int a3]) hK hw.1 hw.2.1 (NC_keep hN hw.2.2) NC_blind
      refine endI (mc := 0) (ms := 0) (va_runS (As := [.int a3]) (rest := []) ⟨hx, hb, hml, hown, hts⟩ (m10_isBits l D ad cy H.size s0 s1 s2 s3 s4 s5 s6 s7 s8 s9 s10 a3 q_22 h_22) (wX10_80 1 hts ⟨Nat.le_of_ble_eq_true rfl, Nat.le_of_ble_eq_true rfl⟩) pg_22 rfl rfl hl.1 rfl (lv_room (Nat.le_of_ble_eq_true rfl)) dX10_ask_22 ⟨Nat.le_refl _, Nat.le_refl _⟩) hw.2.2 (afr_in hw.2.2) (fun H locs hw => ?_)
      refine lv_if_ne (tgt := 30) hx hb dX10_ask_25 (by decide) (fun c_25 => ?_) (fun c_25 => ?_)
      · have h := ite_f c_25 h
        refine lv_aload_n hx hb dX10_ask_30 rfl (lv_at hl 0 rfl) ?_
        refine gX10_65 hx hb hts hown hK hw dX10_ask_31 ?_
        refine lv_iload_n hx hb dX10_ask_34 rfl (lv_at hl 1 rfl) ?_
        refine lv_iload_n hx hb dX10_ask_35 rfl (lv_at hl 2 rfl) ?_
        refine lv_iload_n hx hb dX10_ask_36 rfl (lv_at hl 3 rfl) ?_
        obtain ⟨q_37, h_37, h⟩ := bnd_e h
        have pg_37 := preG (av := [.ref (ad 0), .int a1, .int a2, .int a3]) hK hw.1 hw.2.1 (NC_keep hN hw.2.2) NC_blind
        refine endI (mc := 0) (ms := 0) (va_runV (As := [.int a1, .int a2, .int a3]) (rest := []) ⟨hx, hb, hml, hown, hts⟩ (m0_add l D ad cy H.size s0 s1 s2 s3 s4 s5 s6 s7 s8 s9 s10 a1 a2 a3 q_37 h_37) (wX10_306 0 hts ⟨Nat.le_of_ble_eq_true rfl, Nat.le_of_ble_eq_true rfl⟩) ⟨pg_37.1, va_recv hK hw.1 (ci := 0) (q0 := 0) rfl eC_0, pg_37.2⟩ rfl rfl hl.1 rfl (lv_room (Nat.le_of_ble_eq_true rfl)) dX10_ask_37 ⟨Nat.le_refl _, Nat.le_refl _⟩) hw.2.2 (afr_in hw.2.2) (fun H locs hw => ?_)
        have h := Option.some.inj h
        subst h
        rw [← hQ]
        exact retI hx hb hr hlk hw rfl dX10_ask_40
      · have h := ite_t c_25 h
        exact hJ_28 s0 H locs ls h hw (lv_sub hl [] rfl)
theorem dX10_asker_0 : decode cX10_asker 0 = .ok (.iload_n 1, 1) := by decide +kernel
theorem dX10_asker_1 : decode cX10_asker 1 = .ok (.iconst 0, 1) := by decide +kernel
theorem dX10_asker_2 : decode cX10_asker 2 = .ok (.bipush 9, 2) := by decide +kernel
theorem dX10_asker_4 : decode cX10_asker 4 = .ok (.invokestatic 86, 3) := by decide +kernel
theorem dX10_asker_7 : decode cX10_asker 7 = .ok (.ifCond .eq 13, 3) := by decide +kernel
theorem dX10_asker_10 : decode cX10_asker 10 = .ok (.iload_n 2, 1) := by decide +kernel
theorem dX10_asker_11 : decode cX10_asker 11 = .ok (.iconst 0, 1) := by decide +kernel
theorem dX10_asker_12 : decode cX10_asker 12 = .ok (.bipush 7, 2) := by decide +kernel
theorem dX10_asker_14 : decode cX10_asker 14 = .ok (.invokestatic 86, 3) := by decide +kernel
theorem dX10_asker_17 : decode cX10_asker 17 = .ok (.ifCond .ne 5, 3) := by decide +kernel
theorem dX10_asker_20 : decode cX10_asker 20 = .ok (.iconst (-1), 1) := by decide +kernel
theorem dX10_asker_21 : decode cX10_asker 21 = .ok (.ireturn, 1) := by decide +kernel
theorem dX10_asker_22 : decode cX10_asker 22 = .ok (.aload_n 0, 1) := by decide +kernel
theorem dX10_asker_23 : decode cX10_asker 23 = .ok (.getfield 30, 3) := by decide +kernel
theorem dX10_asker_26 : decode cX10_asker 26 = .ok (.iload_n 1, 1) := by decide +kernel
theorem dX10_asker_27 : decode cX10_asker 27 = .ok (.iload_n 2, 1) := by decide +kernel
theorem dX10_asker_28 : decode cX10_asker 28 = .ok (.invokevirtual 157, 3) := by decide +kernel
theorem dX10_asker_31 : decode cX10_asker 31 = .ok (.ireturn, 1) := by decide +kernel
def f10_asker_j20 (s2_j20 : OS) : Option (Int32 × OS) := some ((-1 : Int32), s2_j20)
def f10_asker (a1 : Int32) (a2 : Int32) (s2 : OS) : Option (Int32 × OS) := Option.bind (f10_isWithin a1 ((0 : Int32)) ((9 : Int32))) fun q_4 => if q_4 = 0 then (f10_asker_j20 s2) else (Option.bind (f10_isWithin a2 ((0 : Int32)) ((7 : Int32))) fun q_14 => if q_14 = 0 then (f10_asker_j20 s2) else (Option.bind (f2_addAsker a1 a2 s2) fun q_28 => some (q_28.1, q_28.2)))
set_option maxHeartbeats 4000000 in
set_option maxRecDepth 100000 in
theorem m10_asker (l : Launch) (D : va_G) (ad : Nat → Nat) (cy : Nat → ClassId) (sz : Nat) (s0 s1 s2 s3 s4 s5 s6 s7 s8 s9 s10 : OS) (a1 : Int32) (a2 : Int32) (r : Int32 × OS) (h : f10_asker a1 a2 s2 = some r) : Met l yX10_asker (wsOf yX10_asker cX10_asker 3 (some .int)) (rmL 1) (va_Pc ([.ref (ad 10), .int a1, .int a2] : List Value) (PreG D cy (cellsC ad cy s0 s1 s2 s3 s4 s5 s6 s7 s8 s9 s10) sz (NC ad))) (QcI D ad 67 (cellsC ad cy s0 s1 r.2 s3 s4 s5 s6 s7 s8 s9 s10) (r.1) sz) 0 0 (Afr ad 67 sz) := by
  refine metG (own := RX10) (by decide) rfl (Nat.le_of_ble_eq_true rfl) fstC ?_ sz
  intro p e s m below meth c ls C0 hw hl
  obtain ⟨hx, hb, hml, hown, hts, hr, hlk, hK, hN⟩ := C0
  have hl : lv_has ls 3 [(0, .ref (ad 10)), (1, .int a1), (2, .int a2)] := hl
  generalize hQ : MQ below (QcI D ad 67 (cellsC ad cy s0 s1 r.2 s3 s4 s5 s6 s7 s8 s9 s10) (r.1) s.heap.size) ([.ref (ad 10), .int a1, .int a2] : List Value).toArray s 0 0 (Afr ad 67 s.heap.size) = Q
  obtain ⟨H, hH⟩ : ∃ H : Heap, H = s.heap := ⟨_, rfl⟩
  obtain ⟨locs, hlc⟩ : ∃ L : List Loc, L = [] := ⟨_, rfl⟩
  have hw : Wd D (cellsC ad cy s0 s1 s2 s3 s4 s5 s6 s7 s8 s9 s10) (Afr ad 67 s.heap.size) s.heap H locs := by rw [hH, hlc]; exact hw
  suffices h0 : W p l e (rmL 1) s m ([.ref (ad 10), .int a1, .int a2] : List Value).toArray below meth c H locs 0 0 Q (F0 m 0 ls []) by rw [hH, hlc] at h0; exact h0
  clear hH hlc
  unfold f10_asker at h
  have hJ_20 : ∀ (s2_j20 : OS) (H : Heap) (locs : List Loc) (ls : Array Slot), f10_asker_j20 s2_j20 = some r → Wd D (cellsC ad cy s0 s1 s2_j20 s3 s4 s5 s6 s7 s8 s9 s10) (Afr ad 67 s.heap.size) s.heap H locs → lv_has ls 3 [] → W p l e (rmL 1) s m ([.ref (ad 10), .int a1, .int a2] : List Value).toArray below meth c H locs 0 0 Q (F0 m 20 ls []) := by
    intro s2_j20 H locs ls h hw hl
    unfold f10_asker_j20 at h
    refine lv_iconst (v := (-1)) hx hb dX10_asker_20 (by decide) ?_
    have h := Option.some.inj h
    subst h
    rw [← hQ]
    exact retI hx hb hr hlk hw rfl dX10_asker_21
  refine lv_iload_n hx hb dX10_asker_0 rfl (lv_at hl 1 rfl) ?_
  refine lv_iconst (v := 0) hx hb dX10_asker_1 (by decide) ?_
  refine lv_bipush (v := 9) hx hb dX10_asker_2 (by decide) ?_
  obtain ⟨q_4, h_4, h⟩ := bnd_e h
  have pg_4 := preG (av := [.int a1, .int ((0 : Int32)), .int ((9 : Int32))]) hK hw.1 hw.2.1 (NC_keep hN hw.2.2) NC_blind
  refine endI (mc := 0) (ms := 0) (va_runS (As := [.int a1, .int ((0 : Int32)), .int ((9 : Int32))]) (rest := []) ⟨hx, hb, hml, hown, hts⟩ (m10_isWithin l D ad cy H.size s0 s1 s2 s3 s4 s5 s6 s7 s8 s9 s10 a1 ((0 : Int32)) ((9 : Int32)) q_4 h_4) (wX10_86 0 hts ⟨Nat.le_of_ble_eq_true rfl, Nat.le_of_ble_eq_true rfl⟩) pg_4 rfl rfl hl.1 rfl (lv_room (Nat.le_of_ble_eq_true rfl)) dX10_asker_4 ⟨Nat.le_refl _, Nat.le_refl _⟩) hw.2.2 (afr_in hw.2.2) (fun H locs hw => ?_)
  refine lv_if_eq (tgt := 20) hx hb dX10_asker_7 (by decide) (fun c_7 => ?_) (fun c_7 => ?_)
  · have h := ite_t c_7 h
    exact hJ_20 s2 H locs ls h hw (lv_sub hl [] rfl)
  · have h := ite_f c_7 h
    refine lv_iload_n hx hb dX10_asker_10 rfl (lv_at hl 2 rfl) ?_
    refine lv_iconst (v := 0) hx hb dX10_asker_11 (by decide) ?_
    refine lv_bipush (v := 7) hx hb dX10_asker_12 (by decide) ?_
    obtain ⟨q_14, h_14, h⟩ := bnd_e h
    have pg_14 := preG (av := [.int a2, .int ((0 : Int32)), .int ((7 : Int32))]) hK hw.1 hw.2.1 (NC_keep hN hw.2.2) NC_blind
    refine endI (mc := 0) (ms := 0) (va_runS (As := [.int a2, .int ((0 : Int32)), .int ((7 : Int32))]) (rest := []) ⟨hx, hb, hml, hown, hts⟩ (m10_isWithin l D ad cy H.size s0 s1 s2 s3 s4 s5 s6 s7 s8 s9 s10 a2 ((0 : Int32)) ((7 : Int32)) q_14 h_14) (wX10_86 0 hts ⟨Nat.le_of_ble_eq_true rfl, Nat.le_of_ble_eq_true rfl⟩) pg_14 rfl rfl hl.1 rfl (lv_room (Nat.le_of_ble_eq_true rfl)) dX10_asker_14 ⟨Nat.le_refl _, Nat.le_refl _⟩) hw.2.2 (afr_in hw.2.2) (fun H locs hw => ?_)
    refine lv_if_ne (tgt := 22) hx hb dX10_asker_17 (by decide) (fun c_17 => ?_) (fun c_17 => ?_)
    · have h := ite_f c_17 h
      refine lv_aload_n hx hb dX10_asker_22 rfl (lv_at hl 0 rfl) ?_
      refine gX10_30 hx hb hts hown hK hw dX10_asker_23 ?_
      refine lv_iload_n hx hb dX10_asker_26 rfl (lv_at hl 1 rfl) ?_
      refine lv_iload_n hx hb dX10_asker_27 rfl (lv_at hl 2 rfl) ?_
      obtain ⟨q_28, h_28, h⟩ := bnd_e h
      have pg_28 := preG (av := [.ref (ad 2), .int a1, .int a2]) hK hw.1 hw.2.1 (NC_keep hN hw.2.2) NC_blind
      refine endI (mc := 0) (ms := 0) (va_runV (As := [.int a1, .int a2]) (rest := []) ⟨hx, hb, hml, hown, hts⟩ (m2_addAsker l D ad cy H.size s0 s1 s2 s3 s4 s5 s6 s7 s8 s9 s10 a1 a2 q_28 h_28) (wX10_157 0 hts ⟨Nat.le_of_ble_eq_true rfl, Nat.le_of_ble_eq_true rfl⟩) ⟨pg_28.1, va_recv hK hw.1 (ci := 2) (q0 := 2) rfl eC_2, pg_28.2⟩ rfl rfl hl.1 rfl (lv_room (Nat.le_of_ble_eq_true rfl)) dX10_asker_28 ⟨Nat.le_refl _, Nat.le_refl _⟩) hw.2.2 (afr_in hw.2.2) (fun H locs hw => ?_)
      have h := Option.some.inj h
      subst h
      rw [← hQ]
      exact retI hx hb hr hlk hw rfl dX10_asker_31
    · have h := ite_t c_17 h
      exact hJ_20 s2 H locs ls h hw (lv_sub hl [] rfl)
theorem dX10_back_0 : decode cX10_back 0 = .ok (.aload_n 0, 1) := by decide +kernel
theorem dX10_back_1 : decode cX10_back 1 = .ok (.getfield 30, 3) := by decide +kernel
theorem dX10_back_4 : decode cX10_back 4 = .ok (.iload_n 1, 1) := by decide +kernel
theorem dX10_back_5 : decode cX10_back 5 = .ok (.invokevirtual 244, 3) := by decide +kernel
theorem dX10_back_8 : decode cX10_back 8 = .ok (.ifCond .eq 19, 3) := by decide +kernel
theorem dX10_back_11 : decode cX10_back 11 = .ok (.iload 4, 2) := by decide +kernel
theorem dX10_back_13 : decode cX10_back 13 = .ok (.invokestatic 80, 3) := by decide +kernel
theorem dX10_back_16 : decode cX10_back 16 = .ok (.ifCond .eq 11, 3) := by decide +kernel
theorem dX10_back_19 : decode cX10_back 19 = .ok (.iload 5, 2) := by decide +kernel
theorem dX10_back_21 : decode cX10_back 21 = .ok (.invokestatic 77, 3) := by decide +kernel
theorem dX10_back_24 : decode cX10_back 24 = .ok (.ifCond .ne 5, 3) := by decide +kernel
theorem dX10_back_27 : decode cX10_back 27 = .ok (.iconst (-1), 1) := by decide +kernel
theorem dX10_back_28 : decode cX10_back 28 = .ok (.ireturn, 1) := by decide +kernel
theorem dX10_back_29 : decode cX10_back 29 = .ok (.aload_n 0, 1) := by decide +kernel
theorem dX10_back_30 : decode cX10_back 30 = .ok (.getfield 30, 3) := by decide +kernel
theorem dX10_back_33 : decode cX10_back 33 = .ok (.iload_n 1, 1) := by decide +kernel
theorem dX10_back_34 : decode cX10_back 34 = .ok (.invokevirtual 247, 3) := by decide +kernel
theorem dX10_back_37 : decode cX10_back 37 = .ok (.istore 6, 2) := by decide +kernel
theorem dX10_back_39 : decode cX10_back 39 = .ok (.aload_n 0, 1) := by decide +kernel
theorem dX10_back_40 : decode cX10_back 40 = .ok (.getfield 23, 3) := by decide +kernel
theorem dX10_back_43 : decode cX10_back 43 = .ok (.iload 6, 2) := by decide +kernel
theorem dX10_back_45 : decode cX10_back 45 = .ok (.invokevirtual 104, 3) := by decide +kernel
theorem dX10_back_48 : decode cX10_back 48 = .ok (.istore 7, 2) := by decide +kernel
theorem dX10_back_50 : decode cX10_back 50 = .ok (.iload_n 2, 1) := by decide +kernel
theorem dX10_back_51 : decode cX10_back 51 = .ok (.iconst 0, 1) := by decide +kernel
theorem dX10_back_52 : decode cX10_back 52 = .ok (.iload 7, 2) := by decide +kernel
theorem dX10_back_54 : decode cX10_back 54 = .ok (.invokestatic 86, 3) := by decide +kernel
theorem dX10_back_57 : decode cX10_back 57 = .ok (.ifCond .eq 15, 3) := by decide +kernel
theorem dX10_back_60 : decode cX10_back 60 = .ok (.iload_n 3, 1) := by decide +kernel
theorem dX10_back_61 : decode cX10_back 61 = .ok (.iconst 0, 1) := by decide +kernel
theorem dX10_back_62 : decode cX10_back 62 = .ok (.iload 7, 2) := by decide +kernel
theorem dX10_back_64 : decode cX10_back 64 = .ok (.iload_n 2, 1) := by decide +kernel
theorem dX10_back_65 : decode cX10_back 65 = .ok (.isub, 1) := by decide +kernel
theorem dX10_back_66 : decode cX10_back 66 = .ok (.invokestatic 86, 3) := by decide +kernel
theorem dX10_back_69 : decode cX10_back 69 = .ok (.ifCond .ne 5, 3) := by decide +kernel
theorem dX10_back_72 : decode cX10_back 72 = .ok (.iconst (-1), 1) := by decide +kernel
theorem dX10_back_73 : decode cX10_back 73 = .ok (.ireturn, 1) := by decide +kernel
theorem dX10_back_74 : decode cX10_back 74 = .ok (.iload 7, 2) := by decide +kernel
theorem dX10_back_76 : decode cX10_back 76 = .ok (.iload_n 2, 1) := by decide +kernel
theorem dX10_back_77 : decode cX10_back 77 = .ok (.isub, 1) := by decide +kernel
theorem dX10_back_78 : decode cX10_back 78 = .ok (.iload_n 3, 1) := by decide +kernel
theorem dX10_back_79 : decode cX10_back 79 = .ok (.isub, 1) := by decide +kernel
theorem dX10_back_80 : decode cX10_back 80 = .ok (.istore 8, 2) := by decide +kernel
theorem dX10_back_82 : decode cX10_back 82 = .ok (.aload_n 0, 1) := by decide +kernel
theorem dX10_back_83 : decode cX10_back 83 = .ok (.getfield 23, 3) := by decide +kernel
theorem dX10_back_86 : decode cX10_back 86 = .ok (.iconst 2, 1) := by decide +kernel
theorem dX10_back_87 : decode cX10_back 87 = .ok (.iload 6, 2) := by decide +kernel
theorem dX10_back_89 : decode cX10_back 89 = .ok (.iload_n 3, 1) := by decide +kernel
theorem dX10_back_90 : decode cX10_back 90 = .ok (.i2l, 1) := by decide +kernel
theorem dX10_back_91 : decode cX10_back 91 = .ok (.invokevirtual 153, 3) := by decide +kernel
theorem dX10_back_94 : decode cX10_back 94 = .ok (.aload_n 0, 1) := by decide +kernel
theorem dX10_back_95 : decode cX10_back 95 = .ok (.getfield 23, 3) := by decide +kernel
theorem dX10_back_98 : decode cX10_back 98 = .ok (.iconst 3, 1) := by decide +kernel
theorem dX10_back_99 : decode cX10_back 99 = .ok (.iload 6, 2) := by decide +kernel
theorem dX10_back_101 : decode cX10_back 101 = .ok (.iload 8, 2) := by decide +kernel
theorem dX10_back_103 : decode cX10_back 103 = .ok (.i2l, 1) := by decide +kernel
theorem dX10_back_104 : decode cX10_back 104 = .ok (.invokevirtual 153, 3) := by decide +kernel
theorem dX10_back_107 : decode cX10_back 107 = .ok (.aload_n 0, 1) := by decide +kernel
theorem dX10_back_108 : decode cX10_back 108 = .ok (.getfield 23, 3) := by decide +kernel
theorem dX10_back_111 : decode cX10_back 111 = .ok (.iload 6, 2) := by decide +kernel
theorem dX10_back_113 : decode cX10_back 113 = .ok (.iload_n 2, 1) := by decide +kernel
theorem dX10_back_114 : decode cX10_back 114 = .ok (.iload 4, 2) := by decide +kernel
theorem dX10_back_116 : decode cX10_back 116 = .ok (.iload_n 2, 1) := by decide +kernel
theorem dX10_back_117 : decode cX10_back 117 = .ok (.ifCond .ne 8, 3) := by decide +kernel
theorem dX10_back_120 : decode cX10_back 120 = .ok (.bipush 12, 2) := by decide +kernel
theorem dX10_back_122 : decode cX10_back 122 = .ok (.goto 5, 3) := by decide +kernel
theorem dX10_back_125 : decode cX10_back 125 = .ok (.iload 5, 2) := by decide +kernel
theorem dX10_back_127 : decode cX10_back 127 = .ok (.aload_n 0, 1) := by decide +kernel
theorem dX10_back_128 : decode cX10_back 128 = .ok (.getfield 69, 3) := by decide +kernel
theorem dX10_back_131 : decode cX10_back 131 = .ok (.invokevirtual 108, 3) := by decide +kernel
theorem dX10_back_134 : decode cX10_back 134 = .ok (.aload_n 0, 1) := by decide +kernel
theorem dX10_back_135 : decode cX10_back 135 = .ok (.getfield 30, 3) := by decide +kernel
theorem dX10_back_138 : decode cX10_back 138 = .ok (.iload_n 1, 1) := by decide +kernel
theorem dX10_back_139 : decode cX10_back 139 = .ok (.aload_n 0, 1) := by decide +kernel
theorem dX10_back_140 : decode cX10_back 140 = .ok (.getfield 69, 3) := by decide +kernel
theorem dX10_back_143 : decode cX10_back 143 = .ok (.iload 8, 2) := by decide +kernel
theorem dX10_back_145 : decode cX10_back 145 = .ok (.invokevirtual 250, 3) := by decide +kernel
theorem dX10_back_148 : decode cX10_back 148 = .ok (.iload 8, 2) := by decide +kernel
theorem dX10_back_150 : decode cX10_back 150 = .ok (.ireturn, 1) := by decide +kernel
def f10_back_j127 (v1_j127 : Int32) (v8_j127 : Int32) (k1_j127 : Int32) (k2_j127 : Int32) (k3_j127 : Int32) (k4_j127 : Int32) (s1_j127 : OS) (s2_j127 : OS) (s4_j127 : OS) (s10_j127 : OS) : Option (Int32 × OS × OS × OS) := Option.bind (f4_change k1_j127 k2_j127 k3_j127 k4_j127 ((s10_j127.1 0 9)) s1_j127 s4_j127) fun q_131 => Option.bind (f2_end v1_j127 ((s10_j127.1 0 9)) v8_j127 s2_j127) fun q_145 => some (v8_j127, q_131.1, q_145, q_131.2)
def f10_back_j72 (s1_j72 : OS) (s2_j72 : OS) (s4_j72 : OS) (s10_j72 : OS) : Option (Int32 × OS × OS × OS) := some ((-1 : Int32), s1_j72, s2_j72, s4_j72)
def f10_back_j27 (s1_j27 : OS) (s2_j27 : OS) (s4_j27 : OS) (s10_j27 : OS) : Option (Int32 × OS × OS × OS) := some ((-1 : Int32), s1_j27, s2_j27, s4_j27)
def f10_back (a1 : Int32) (a2 : Int32) (a3 : Int32) (a4 : Int32) (a5 : Int32) (s1 : OS) (s2 : OS) (s4 : OS) (s10 : OS) : Option (Int32 × OS × OS × OS) := Option.bind (f2_isOut a1 s2) fun q_5 => if q_5 = 0 then (f10_back_j27 s1 s2 s4 s10) else (Option.bind (f10_isBits a4) fun q_13 => if q_13 = 0 then (f10_back_j27 s1 s2 s4 s10) else (Option.bind (f10_isCabinet a5) fun q_21 => if q_21 = 0 then (f10_back_j27 s1 s2 s4 s10) else (Option.bind (f2_pieceOf a1 s2) fun q_34 => Option.bind (f4_weightOf q_34 s4) fun q_45 => Option.bind (f10_isWithin a2 ((0 : Int32)) q_45) fun q_54 => if q_54 = 0 then (f10_back_j72 s1 s2 s4 s10) else (Option.bind (f10_isWithin a3 ((0 : Int32)) ((q_45 - a2))) fun q_66 => if q_66 = 0 then (f10_back_j72 s1 s2 s4 s10) else (nm (((q_45 - a2) - a3)) fun n_80 => Option.bind (f4_charge ((2 : Int32)) q_34 ((a3).toInt64) s4) fun q_91 => Option.bind (f4_charge ((3 : Int32)) q_34 ((n_80).toInt64) q_91) fun q_104 => if a2 = 0 then (f10_back_j127 a1 n_80 q_34 a2 a4 ((12 : Int32)) s1 s2 q_104 s10) else (f10_back_j127 a1 n_80 q_34 a2 a4 a5 s1 s2 q_104 s10))))))
set_option maxHeartbeats 4000000 in
set_option maxRecDepth 100000 in
theorem m10_back (l : Launch) (D : va_G) (ad : Nat → Nat) (cy : Nat → ClassId) (sz : Nat) (s0 s1 s2 s3 s4 s5 s6 s7 s8 s9 s10 : OS) (a1 : Int32) (a2 : Int32) (a3 : Int32) (a4 : Int32) (a5 : Int32) (r : Int32 × OS × OS × OS) (h : f10_back a1 a2 a3 a4 a5 s1 s2 s4 s10 = some r) : Met l yX10_back (wsOf yX10_back cX10_back 9 (some .int)) (rmL 3) (va_Pc ([.ref (ad 10), .int a1, .int a2, .int a3, .int a4, .int a5] : List Value) (PreG D cy (cellsC ad cy s0 s1 s2 s3 s4 s5 s6 s7 s8 s9 s10) sz (NC ad))) (QcI D ad 67 (cellsC ad cy s0 r.2.1 r.2.2.1 s3 r.2.2.2 s5 s6 s7 s8 s9 s10) (r.1) sz) 0 0 (Afr ad 67 sz) := by
  refine metG (own := RX10) (by decide) rfl (Nat.le_of_ble_eq_true rfl) fstC ?_ sz
  intro p e s m below meth c ls C0 hw hl
  obtain ⟨hx, hb, hml, hown, hts, hr, hlk, hK, hN⟩ := C0
  have hl : lv_has ls 9 [(0, .ref (ad 10)), (1, .int a1), (2, .int a2), (3, .int a3), (4, .int a4), (5, .int a5)] := hl
  generalize hQ : MQ below (QcI D ad 67 (cellsC ad cy s0 r.2.1 r.2.2.1 s3 r.2.2.2 s5 s6 s7 s8 s9 s10) (r.1) s.heap.size) ([.ref (ad 10), .int a1, .int a2, .int a3, .int a4, .int a5] : List Value).toArray s 0 0 (Afr ad 67 s.heap.size) = Q
  obtain ⟨H, hH⟩ : ∃ H : Heap, H = s.heap := ⟨_, rfl⟩
  obtain ⟨locs, hlc⟩ : ∃ L : List Loc, L = [] := ⟨_, rfl⟩
  have hw : Wd D (cellsC ad cy s0 s1 s2 s3 s4 s5 s6 s7 s8 s9 s10) (Afr ad 67 s.heap.size) s.heap H locs := by rw [hH, hlc]; exact hw
  suffices h0 : W p l e (rmL 3) s m ([.ref (ad 10), .int a1, .int a2, .int a3, .int a4, .int a5] : List Value).toArray below meth c H locs 0 0 Q (F0 m 0 ls []) by rw [hH, hlc] at h0; exact h0
  clear hH hlc
  unfold f10_back at h
  have hJ_127 : ∀ (v1_j127 : Int32) (v8_j127 : Int32) (k1_j127 : Int32) (k2_j127 : Int32) (k3_j127 : Int32) (k4_j127 : Int32) (s1_j127 : OS) (s2_j127 : OS) (s4_j127 : OS) (H : Heap) (locs : List Loc) (ls : Array Slot), f10_back_j127 v1_j127 v8_j127 k1_j127 k2_j127 k3_j127 k4_j127 s1_j127 s2_j127 s4_j127 s10 = some r → Wd D (cellsC ad cy s0 s1_j127 s2_j127 s3 s4_j127 s5 s6 s7 s8 s9 s10) (Afr ad 67 s.heap.size) s.heap H locs → lv_has ls 9 [(0, .ref (ad 10)), (1, .int v1_j127), (8, .int v8_j127)] → W p l e (rmL 3) s m ([.ref (ad 10), .int a1, .int a2, .int a3, .int a4, .int a5] : List Value).toArray below meth c H locs 0 0 Q (F0 m 127 ls [.int k4_j127, .int k3_j127, .int k2_j127, .int k1_j127, .ref (ad 4)]) := by
    intro v1_j127 v8_j127 k1_j127 k2_j127 k3_j127 k4_j127 s1_j127 s2_j127 s4_j127 H locs ls h hw hl
    unfold f10_back_j127 at h
    refine lv_aload_n hx hb dX10_back_127 rfl (lv_at hl 0 rfl) ?_
    refine gX10_69 hx hb hts hown hK hw dX10_back_128 ?_
    obtain ⟨q_131, h_131, h⟩ := bnd_e h
    have pg_131 := preG (av := [.ref (ad 4), .int k1_j127, .int k2_j127, .int k3_j127, .int k4_j127, .int ((s10.1 0 9))]) hK hw.1 hw.2.1 (NC_keep hN hw.2.2) NC_blind
    refine endV (mc := 0) (ms := 0) (va_runV (As := [.int k1_j127, .int k2_j127, .int k3_j127, .int k4_j127, .int ((s10.1 0 9))]) (rest := []) ⟨hx, hb, hml, hown, hts⟩ (m4_change l D ad cy H.size s0 s1_j127 s2_j127 s3 s4_j127 s5 s6 s7 s8 s9 s10 k1_j127 k2_j127 k3_j127 k4_j127 ((s10.1 0 9)) q_131 h_131) (wX10_108 1 hts ⟨Nat.le_of_ble_eq_true rfl, Nat.le_of_ble_eq_true rfl⟩) ⟨pg_131.1, va_recv hK hw.1 (ci := 4) (q0 := 4) rfl eC_4, pg_131.2⟩ rfl rfl hl.1 rfl (lv_room (Nat.le_of_ble_eq_true rfl)) dX10_back_131 ⟨Nat.le_refl _, Nat.le_refl _⟩) hw.2.2 (afr_in hw.2.2) (fun H locs hw => ?_)
    refine lv_aload_n hx hb dX10_back_134 rfl (lv_at hl 0 rfl) ?_
    refine gX10_30 hx hb hts hown hK hw dX10_back_135 ?_
    refine lv_iload_n hx hb dX10_back_138 rfl (lv_at hl 1 rfl) ?_
    refine lv_aload_n hx hb dX10_back_139 rfl (lv_at hl 0 rfl) ?_
    refine gX10_69 hx hb hts hown hK hw dX10_back_140 ?_
    refine lv_iload hx hb dX10_back_143 (lv_at hl 2 rfl) ?_
    obtain ⟨q_145, h_145, h⟩ := bnd_e h
    have pg_145 := preG (av := [.ref (ad 2), .int v1_j127, .int ((s10.1 0 9)), .int v8_j127]) hK hw.1 hw.2.1 (NC_keep hN hw.2.2) NC_blind
    refine endV (mc := 0) (ms := 0) (va_runV (As := [.int v1_j127, .int ((s10.1 0 9)), .int v8_j127]) (rest := []) ⟨hx, hb, hml, hown, hts⟩ (m2_end l D ad cy H.size s0 q_131.1 s2_j127 s3 q_131.2 s5 s6 s7 s8 s9 s10 v1_j127 ((s10.1 0 9)) v8_j127 q_145 h_145) (wX10_250 1 hts ⟨Nat.le_of_ble_eq_true rfl, Nat.le_of_ble_eq_true rfl⟩) ⟨pg_145.1, va_recv hK hw.1 (ci := 2) (q0 := 2) rfl eC_2, pg_145.2⟩ rfl rfl hl.1 rfl (lv_room (Nat.le_of_ble_eq_true rfl)) dX10_back_145 ⟨Nat.le_refl _, Nat.le_refl _⟩) hw.2.2 (afr_in hw.2.2) (fun H locs hw => ?_)
    refine lv_iload hx hb dX10_back_148 (lv_at hl 2 rfl) ?_
    have h := Option.some.inj h
    subst h
    rw [← hQ]
    exact retI hx hb hr hlk hw rfl dX10_back_150
  have hJ_72 : ∀ (s1_j72 : OS) (s2_j72 : OS) (s4_j72 : OS) (H : Heap) (locs : List Loc) (ls : Array Slot), f10_back_j72 s1_j72 s2_j72 s4_j72 s10 = some r → Wd D (cellsC ad cy s0 s1_j72 s2_j72 s3 s4_j72 s5 s6 s7 s8 s9 s10) (Afr ad 67 s.heap.size) s.heap H locs → lv_has ls 9 [] → W p l e (rmL 3) s m ([.ref (ad 10), .int a1, .int a2, .int a3, .int a4, .int a5] : List Value).toArray below meth c H locs 0 0 Q (F0 m 72 ls []) := by
    intro s1_j72 s2_j72 s4_j72 H locs ls h hw hl
    unfold f10_back_j72 at h
    refine lv_iconst (v := (-1)) hx hb dX10_back_72 (by decide) ?_
    have h := Option.some.inj h
    subst h
    rw [← hQ]
    exact retI hx hb hr hlk hw rfl dX10_back_73
  have hJ_27 : ∀ (s1_j27 : OS) (s2_j27 : OS) (s4_j27 : OS) (H : Heap) (locs : List Loc) (ls : Array Slot), f10_back_j27 s1_j27 s2_j27 s4_j27 s10 = some r → Wd D (cellsC ad cy s0 s1_j27 s2_j27 s3 s4_j27 s5 s6 s7 s8 s9 s10) (Afr ad 67 s.heap.size) s.heap H locs → lv_has ls 9 [] → W p l e (rmL 3) s m ([.ref (ad 10), .int a1, .int a2, .int a3, .int a4, .int a5] : List Value).toArray below meth c H locs 0 0 Q (F0 m 27 ls []) := by
    intro s1_j27 s2_j27 s4_j27 H locs ls h hw hl
    unfold f10_back_j27 at h
    refine lv_iconst (v := (-1)) hx hb dX10_back_27 (by decide) ?_
    have h := Option.some.inj h
    subst h
    rw [← hQ]
    exact retI hx hb hr hlk hw rfl dX10_back_28
  refine lv_aload_n hx hb dX10_back_0 rfl (lv_at hl 0 rfl) ?_
  refine gX10_30 hx hb hts hown hK hw dX10_back_1 ?_
  refine lv_iload_n hx hb dX10_back_4 rfl (lv_at hl 1 rfl) ?_
  obtain ⟨q_5, h_5, h⟩ := bnd_e h
  have pg_5 := preG (av := [.ref (ad 2), .int a1]) hK hw.1 hw.2.1 (NC_keep hN hw.2.2) NC_blind
  refine endI (mc := 0) (ms := 0) (va_runV (As := [.int a1]) (rest := []) ⟨hx, hb, hml, hown, hts⟩ (m2_isOut l D ad cy H.size s0 s1 s2 s3 s4 s5 s6 s7 s8 s9 s10 a1 q_5 h_5) (wX10_244 1 hts ⟨Nat.le_of_ble_eq_true rfl, Nat.le_of_ble_eq_true rfl⟩) ⟨pg_5.1, va_recv hK hw.1 (ci := 2) (q0 := 2) rfl eC_2, pg_5.2⟩ rfl rfl hl.1 rfl (lv_room (Nat.le_of_ble_eq_true rfl)) dX10_back_5 ⟨Nat.le_refl _, Nat.le_refl _⟩) hw.2.2 (afr_in hw.2.2) (fun H locs hw => ?_)
  refine lv_if_eq (tgt := 27) hx hb dX10_back_8 (by decide) (fun c_8 => ?_) (fun c_8 => ?_)
  · have h := ite_t c_8 h
    exact hJ_27 s1 s2 s4 H locs ls h hw (lv_sub hl [] rfl)
  · have h := ite_f c_8 h
    refine lv_iload hx hb dX10_back_11 (lv_at hl 4 rfl) ?_
    obtain ⟨q_13, h_13, h⟩ := bnd_e h
    have pg_13 := preG (av := [.int a4]) hK hw.1 hw.2.1 (NC_keep hN hw.2.2) NC_blind
    refine endI (mc := 0) (ms := 0) (va_runS (As := [.int a4]) (rest := []) ⟨hx, hb, hml, hown, hts⟩ (m10_isBits l D ad cy H.size s0 s1 s2 s3 s4 s5 s6 s7 s8 s9 s10 a4 q_13 h_13) (wX10_80 1 hts ⟨Nat.le_of_ble_eq_true rfl, Nat.le_of_ble_eq_true rfl⟩) pg_13 rfl rfl hl.1 rfl (lv_room (Nat.le_of_ble_eq_true rfl)) dX10_back_13 ⟨Nat.le_refl _, Nat.le_refl _⟩) hw.2.2 (afr_in hw.2.2) (fun H locs hw => ?_)
    refine lv_if_eq (tgt := 27) hx hb dX10_back_16 (by decide) (fun c_16 => ?_) (fun c_16 => ?_)
    · have h := ite_t c_16 h
      exact hJ_27 s1 s2 s4 H locs ls h hw (lv_sub hl [] rfl)
    · have h := ite_f c_16 h
      refine lv_iload hx hb dX10_back_19 (lv_at hl 5 rfl) ?_
      obtain ⟨q_21, h_21, h⟩ := bnd_e h
      have pg_21 := preG (av := [.int a5]) hK hw.1 hw.2.1 (NC_keep hN hw.2.2) NC_blind
      refine endI (mc := 0) (ms := 0) (va_runS (As := [.int a5]) (rest := []) ⟨hx, hb, hml, hown, hts⟩ (m10_isCabinet l D ad cy H.size s0 s1 s2 s3 s4 s5 s6 s7 s8 s9 s10 a5 q_21 h_21) (wX10_77 1 hts ⟨Nat.le_of_ble_eq_true rfl, Nat.le_of_ble_eq_true rfl⟩) pg_21 rfl rfl hl.1 rfl (lv_room (Nat.le_of_ble_eq_true rfl)) dX10_back_21 ⟨Nat.le_refl _, Nat.le_refl _⟩) hw.2.2 (afr_in hw.2.2) (fun H locs hw => ?_)
      refine lv_if_ne (tgt := 29) hx hb dX10_back_24 (by decide) (fun c_24 => ?_) (fun c_24 => ?_)
      · have h := ite_f c_24 h
        refine lv_aload_n hx hb dX10_back_29 rfl (lv_at hl 0 rfl) ?_
        refine gX10_30 hx hb hts hown hK hw dX10_back_30 ?_
        refine lv_iload_n hx hb dX10_back_33 rfl (lv_at hl 1 rfl) ?_
        obtain ⟨q_34, h_34, h⟩ := bnd_e h
        have pg_34 := preG (av := [.ref (ad 2), .int a1]) hK hw.1 hw.2.1 (NC_keep hN hw.2.2) NC_blind
        refine endI (mc := 0) (ms := 0) (va_runV (As := [.int a1]) (rest := []) ⟨hx, hb, hml, hown, hts⟩ (m2_pieceOf l D ad cy H.size s0 s1 s2 s3 s4 s5 s6 s7 s8 s9 s10 a1 q_34 h_34) (wX10_247 1 hts ⟨Nat.le_of_ble_eq_true rfl, Nat.le_of_ble_eq_true rfl⟩) ⟨pg_34.1, va_recv hK hw.1 (ci := 2) (q0 := 2) rfl eC_2, pg_34.2⟩ rfl rfl hl.1 rfl (lv_room (Nat.le_of_ble_eq_true rfl)) dX10_back_34 ⟨Nat.le_refl _, Nat.le_refl _⟩) hw.2.2 (afr_in hw.2.2) (fun H locs hw => ?_)
        refine lv_istore (lv' := [(6, .int q_34), (0, .ref (ad 10)), (1, .int a1), (2, .int a2), (3, .int a3), (4, .int a4), (5, .int a5)]) hx hb dX10_back_37 hl (by decide) rfl (fun ls hl => ?_)
        refine lv_aload_n hx hb dX10_back_39 rfl (lv_at hl 1 rfl) ?_
        refine gX10_23 hx hb hts hown hK hw dX10_back_40 ?_
        refine lv_iload hx hb dX10_back_43 (lv_at hl 0 rfl) ?_
        obtain ⟨q_45, h_45, h⟩ := bnd_e h
        have pg_45 := preG (av := [.ref (ad 4), .int q_34]) hK hw.1 hw.2.1 (NC_keep hN hw.2.2) NC_blind
        refine endI (mc := 0) (ms := 0) (va_runV (As := [.int q_34]) (rest := []) ⟨hx, hb, hml, hown, hts⟩ (m4_weightOf l D ad cy H.size s0 s1 s2 s3 s4 s5 s6 s7 s8 s9 s10 q_34 q_45 h_45) (wX10_104 1 hts ⟨Nat.le_of_ble_eq_true rfl, Nat.le_of_ble_eq_true rfl⟩) ⟨pg_45.1, va_recv hK hw.1 (ci := 4) (q0 := 4) rfl eC_4, pg_45.2⟩ rfl rfl hl.1 rfl (lv_room (Nat.le_of_ble_eq_true rfl)) dX10_back_45 ⟨Nat.le_refl _, Nat.le_refl _⟩) hw.2.2 (afr_in hw.2.2) (fun H locs hw => ?_)
        refine lv_istore (lv' := [(7, .int q_45), (6, .int q_34), (0, .ref (ad 10)), (1, .int a1), (2, .int a2), (3, .int a3), (4, .int a4), (5, .int a5)]) hx hb dX10_back_48 hl (by decide) rfl (fun ls hl => ?_)
        refine lv_iload_n hx hb dX10_back_50 rfl (lv_at hl 4 rfl) ?_
        refine lv_iconst (v := 0) hx hb dX10_back_51 (by decide) ?_
        refine lv_iload hx hb dX10_back_52 (lv_at hl 0 rfl) ?_
        obtain ⟨q_54, h_54, h⟩ := bnd_e h
        have pg_54 := preG (av := [.int a2, .int ((0 : Int32)), .int q_45]) hK hw.1 hw.2.1 (NC_keep hN hw.2.2) NC_blind
        refine endI (mc := 0) (ms := 0) (va_runS (As := [.int a2, .int ((0 : Int32)), .int q_45]) (rest := []) ⟨hx, hb, hml, hown, hts⟩ (m10_isWithin l D ad cy H.size s0 s1 s2 s3 s4 s5 s6 s7 s8 s9 s10 a2 ((0 : Int32)) q_45 q_54 h_54) (wX10_86 0 hts ⟨Nat.le_of_ble_eq_true rfl, Nat.le_of_ble_eq_true rfl⟩) pg_54 rfl rfl hl.1 rfl (lv_room (Nat.le_of_ble_eq_true rfl)) dX10_back_54 ⟨Nat.le_refl _, Nat.le_refl _⟩) hw.2.2 (afr_in hw.2.2) (fun H locs hw => ?_)
        refine lv_if_eq (tgt := 72) hx hb dX10_back_57 (by decide) (fun c_57 => ?_) (fun c_57 => ?_)
        · have h := ite_t c_57 h
          exact hJ_72 s1 s2 s4 H locs ls h hw (lv_sub hl [] rfl)
        · have h := ite_f c_57 h
          refine lv_iload_n hx hb dX10_back_60 rfl (lv_at hl 5 rfl) ?_
          refine lv_iconst (v := 0) hx hb dX10_back_61 (by decide) ?_
          refine lv_iload hx hb dX10_back_62 (lv_at hl 0 rfl) ?_
          refine lv_iload_n hx hb dX10_back_64 rfl (lv_at hl 4 rfl) ?_
          refine lv_isub hx hb dX10_back_65 ?_
          obtain ⟨q_66, h_66, h⟩ := bnd_e h
          have pg_66 := preG (av := [.int a3, .int ((0 : Int32)), .int ((q_45 - a2))]) hK hw.1 hw.2.1 (NC_keep hN hw.2.2) NC_blind
          refine endI (mc := 0) (ms := 0) (va_runS (As := [.int a3, .int ((0 : Int32)), .int ((q_45 - a2))]) (rest := []) ⟨hx, hb, hml, hown, hts⟩ (m10_isWithin l D ad cy H.size s0 s1 s2 s3 s4 s5 s6 s7 s8 s9 s10 a3 ((0 : Int32)) ((q_45 - a2)) q_66 h_66) (wX10_86 0 hts ⟨Nat.le_of_ble_eq_true rfl, Nat.le_of_ble_eq_true rfl⟩) pg_66 rfl rfl hl.1 rfl (lv_room (Nat.le_of_ble_eq_true rfl)) dX10_back_66 ⟨Nat.le_refl _, Nat.le_refl _⟩) hw.2.2 (afr_in hw.2.2) (fun H locs hw => ?_)
          refine lv_if_ne (tgt := 74) hx hb dX10_back_69 (by decide) (fun c_69 => ?_) (fun c_69 => ?_)
          · have h := ite_f c_69 h
            refine lv_iload hx hb dX10_back_74 (lv_at hl 0 rfl) ?_
            refine lv_iload_n hx hb dX10_back_76 rfl (lv_at hl 4 rfl) ?_
            refine lv_isub hx hb dX10_back_77 ?_
            refine lv_iload_n hx hb dX10_back_78 rfl (lv_at hl 5 rfl) ?_
            refine lv_isub hx hb dX10_back_79 ?_
            obtain ⟨n_80, e_80, h⟩ := nam_e h
            refine topI e_80 ?_
            refine lv_istore (lv' := [(8, .int n_80), (7, .int q_45), (6, .int q_34), (0, .ref (ad 10)), (1, .int a1), (2, .int a2), (3, .int a3), (4, .int a4), (5, .int a5)]) hx hb dX10_back_80 hl (by decide) rfl (fun ls hl => ?_)
            refine lv_aload_n hx hb dX10_back_82 rfl (lv_at hl 3 rfl) ?_
            refine gX10_23 hx hb hts hown hK hw dX10_back_83 ?_
            refine lv_iconst (v := 2) hx hb dX10_back_86 (by decide) ?_
            refine lv_iload hx hb dX10_back_87 (lv_at hl 2 rfl) ?_
            refine lv_iload_n hx hb dX10_back_89 rfl (lv_at hl 6 rfl) ?_
            refine lv_i2l hx hb dX10_back_90 rfl ?_
            obtain ⟨q_91, h_91, h⟩ := bnd_e h
            have pg_91 := preG (av := [.ref (ad 4), .int ((2 : Int32)), .int q_34, .long ((a3).toInt64)]) hK hw.1 hw.2.1 (NC_keep hN hw.2.2) NC_blind
            refine endV (mc := 0) (ms := 0) (va_runV (As := [.int ((2 : Int32)), .int q_34, .long ((a3).toInt64)]) (rest := []) ⟨hx, hb, hml, hown, hts⟩ (m4_charge l D ad cy H.size s0 s1 s2 s3 s4 s5 s6 s7 s8 s9 s10 ((2 : Int32)) q_34 ((a3).toInt64) q_91 h_91) (wX10_153 2 hts ⟨Nat.le_of_ble_eq_true rfl, Nat.le_of_ble_eq_true rfl⟩) ⟨pg_91.1, va_recv hK hw.1 (ci := 4) (q0 := 4) rfl eC_4, pg_91.2⟩ rfl rfl hl.1 rfl (lv_room (Nat.le_of_ble_eq_true rfl)) dX10_back_91 ⟨Nat.le_refl _, Nat.le_refl _⟩) hw.2.2 (afr_in hw.2.2) (fun H locs hw => ?_)
            refine lv_aload_n hx hb dX10_back_94 rfl (lv_at hl 3 rfl) ?_
            refine gX10_23 hx hb hts hown hK hw dX10_back_95 ?_
            refine lv_iconst (v := 3) hx hb dX10_back_98 (by decide) ?_
            refine lv_iload hx hb dX10_back_99 (lv_at hl 2 rfl) ?_
            refine lv_iload hx hb dX10_back_101 (lv_at hl 0 rfl) ?_
            refine lv_i2l hx hb dX10_back_103 rfl ?_
            obtain ⟨q_104, h_104, h⟩ := bnd_e h
            have pg_104 := preG (av := [.ref (ad 4), .int ((3 : Int32)), .int q_34, .long ((n_80).toInt64)]) hK hw.1 hw.2.1 (NC_keep hN hw.2.2) NC_blind
            refine endV (mc := 0) (ms := 0) (va_runV (As := [.int ((3 : Int32)), .int q_34, .long ((n_80).toInt64)]) (rest := []) ⟨hx, hb, hml, hown, hts⟩ (m4_charge l D ad cy H.size s0 s1 s2 s3 q_91 s5 s6 s7 s8 s9 s10 ((3 : Int32)) q_34 ((n_80).toInt64) q_104 h_104) (wX10_153 2 hts ⟨Nat.le_of_ble_eq_true rfl, Nat.le_of_ble_eq_true rfl⟩) ⟨pg_104.1, va_recv hK hw.1 (ci := 4) (q0 := 4) rfl eC_4, pg_104.2⟩ rfl rfl hl.1 rfl (lv_room (Nat.le_of_ble_eq_true rfl)) dX10_back_104 ⟨Nat.le_refl _, Nat.le_refl _⟩) hw.2.2 (afr_in hw.2.2) (fun H locs hw => ?_)
            refine lv_aload_n hx hb dX10_back_107 rfl (lv_at hl 3 rfl) ?_
            refine gX10_23 hx hb hts hown hK hw dX10_back_108 ?_
            refine lv_iload hx hb dX10_back_111 (lv_at hl 2 rfl) ?_
            refine lv_iload_n hx hb dX10_back_113 rfl (lv_at hl 5 rfl) ?_
            refine lv_iload hx hb dX10_back_114 (lv_at hl 7 rfl) ?_
            refine lv_iload_n hx hb dX10_back_116 rfl (lv_at hl 5 rfl) ?_
            refine lv_if_ne (tgt := 125) hx hb dX10_back_117 (by decide) (fun c_117 => ?_) (fun c_117 => ?_)
            · have h := ite_f c_117 h
              refine lv_iload hx hb dX10_back_125 (lv_at hl 8 rfl) ?_
              exact hJ_127 a1 n_80 q_34 a2 a4 a5 s1 s2 q_104 H locs ls h hw (lv_sub hl [3, 4, 0] rfl)
            · have h := ite_t c_117 h
              refine lv_bipush (v := 12) hx hb dX10_back_120 (by decide) ?_
              refine lv_goto (tgt := 127) hx hb dX10_back_122 (by decide) ?_
              exact hJ_127 a1 n_80 q_34 a2 a4 ((12 : Int32)) s1 s2 q_104 H locs ls h hw (lv_sub hl [3, 4, 0] rfl)
          · have h := ite_t c_69 h
            exact hJ_72 s1 s2 s4 H locs ls h hw (lv_sub hl [] rfl)
      · have h := ite_t c_24 h
        exact hJ_27 s1 s2 s4 H locs ls h hw (lv_sub hl [] rfl)
theorem dX10_takeStock_0 : decode cX10_takeStock 0 = .ok (.aload_n 0, 1) := by decide +kernel
theorem dX10_takeStock_1 : decode cX10_takeStock 1 = .ok (.getfield 65, 3) := by decide +kernel
theorem dX10_takeStock_4 : decode cX10_takeStock 4 = .ok (.invokevirtual 333, 3) := by decide +kernel
theorem dX10_takeStock_7 : decode cX10_takeStock 7 = .ok (.iconst 0, 1) := by decide +kernel
theorem dX10_takeStock_8 : decode cX10_takeStock 8 = .ok (.istore_n 2, 1) := by decide +kernel
theorem dX10_takeStock_9 : decode cX10_takeStock 9 = .ok (.iload_n 2, 1) := by decide +kernel
theorem dX10_takeStock_10 : decode cX10_takeStock 10 = .ok (.aload_n 0, 1) := by decide +kernel
theorem dX10_takeStock_11 : decode cX10_takeStock 11 = .ok (.getfield 23, 3) := by decide +kernel
theorem dX10_takeStock_14 : decode cX10_takeStock 14 = .ok (.invokevirtual 146, 3) := by decide +kernel
theorem dX10_takeStock_17 : decode cX10_takeStock 17 = .ok (.if_icmp .ge 55, 3) := by decide +kernel
theorem dX10_takeStock_20 : decode cX10_takeStock 20 = .ok (.aload_n 0, 1) := by decide +kernel
theorem dX10_takeStock_21 : decode cX10_takeStock 21 = .ok (.getfield 23, 3) := by decide +kernel
theorem dX10_takeStock_24 : decode cX10_takeStock 24 = .ok (.iload_n 2, 1) := by decide +kernel
theorem dX10_takeStock_25 : decode cX10_takeStock 25 = .ok (.invokevirtual 130, 3) := by decide +kernel
theorem dX10_takeStock_28 : decode cX10_takeStock 28 = .ok (.ifCond .eq 38, 3) := by decide +kernel
theorem dX10_takeStock_31 : decode cX10_takeStock 31 = .ok (.aload_n 0, 1) := by decide +kernel
theorem dX10_takeStock_32 : decode cX10_takeStock 32 = .ok (.getfield 23, 3) := by decide +kernel
theorem dX10_takeStock_35 : decode cX10_takeStock 35 = .ok (.iload_n 2, 1) := by decide +kernel
theorem dX10_takeStock_36 : decode cX10_takeStock 36 = .ok (.invokevirtual 206, 3) := by decide +kernel
theorem dX10_takeStock_39 : decode cX10_takeStock 39 = .ok (.iload_n 1, 1) := by decide +kernel
theorem dX10_takeStock_40 : decode cX10_takeStock 40 = .ok (.if_icmp .ne 26, 3) := by decide +kernel
theorem dX10_takeStock_43 : decode cX10_takeStock 43 = .ok (.aload_n 0, 1) := by decide +kernel
theorem dX10_takeStock_44 : decode cX10_takeStock 44 = .ok (.getfield 65, 3) := by decide +kernel
theorem dX10_takeStock_47 : decode cX10_takeStock 47 = .ok (.aload_n 0, 1) := by decide +kernel
theorem dX10_takeStock_48 : decode cX10_takeStock 48 = .ok (.getfield 23, 3) := by decide +kernel
theorem dX10_takeStock_51 : decode cX10_takeStock 51 = .ok (.iload_n 2, 1) := by decide +kernel
theorem dX10_takeStock_52 : decode cX10_takeStock 52 = .ok (.invokevirtual 104, 3) := by decide +kernel
theorem dX10_takeStock_55 : decode cX10_takeStock 55 = .ok (.aload_n 0, 1) := by decide +kernel
theorem dX10_takeStock_56 : decode cX10_takeStock 56 = .ok (.getfield 23, 3) := by decide +kernel
theorem dX10_takeStock_59 : decode cX10_takeStock 59 = .ok (.iload_n 2, 1) := by decide +kernel
theorem dX10_takeStock_60 : decode cX10_takeStock 60 = .ok (.invokevirtual 219, 3) := by decide +kernel
theorem dX10_takeStock_63 : decode cX10_takeStock 63 = .ok (.invokevirtual 336, 3) := by decide +kernel
theorem dX10_takeStock_66 : decode cX10_takeStock 66 = .ok (.iinc 2 1, 3) := by decide +kernel
theorem dX10_takeStock_69 : decode cX10_takeStock 69 = .ok (.goto (-60), 3) := by decide +kernel
theorem dX10_takeStock_72 : decode cX10_takeStock 72 = .ok (.return_, 1) := by decide +kernel
noncomputable def f10_takeStock_j66 (v1_j66 : Int32) (v2_j66 : Int32) (s0_j66 : OS) (s4_j66 : OS) : Option ((Int32 × OS) ⊕ (OS)) := nm (v2_j66 + (1 : Int32)) fun n_66 => some (Sum.inl (n_66, s0_j66))
noncomputable def f10_takeStock_l9 (v1_i9 : Int32) (s4_i9 : OS) : Int32 × OS → Option ((Int32 × OS) ⊕ (OS)) := fun t_9 => Option.bind (f4_size s4_i9) fun q_14 => if q_14 ≤ t_9.1 then (Option.map Sum.inr (some t_9.2)) else (Option.bind (f4_isAtHand t_9.1 s4_i9) fun q_25 => if q_25 = 0 then (f10_takeStock_j66 v1_i9 t_9.1 t_9.2 s4_i9) else (Option.bind (f4_kindOf t_9.1 s4_i9) fun q_36 => if q_36 = v1_i9 then (Option.bind (f4_weightOf t_9.1 s4_i9) fun q_52 => Option.bind (f4_metOf t_9.1 s4_i9) fun q_60 => Option.bind (f0_addToStock q_52 q_60 t_9.2) fun q_63 => f10_takeStock_j66 v1_i9 t_9.1 q_63 s4_i9) else (f10_takeStock_j66 v1_i9 t_9.1 t_9.2 s4_i9)))
noncomputable def f10_takeStock (a1 : Int32) (s0 : OS) (s4 : OS) : Option (OS) := Option.bind (f0_emptyStock s0) fun q_4 => loop (f10_takeStock_l9 a1 s4) ((0 : Int32), q_4)
set_option maxHeartbeats 4000000 in
set_option maxRecDepth 100000 in
theorem m10_takeStock (l : Launch) (D : va_G) (ad : Nat → Nat) (cy : Nat → ClassId) (sz : Nat) (s0 s1 s2 s3 s4 s5 s6 s7 s8 s9 s10 : OS) (a1 : Int32) (r : OS) (h : f10_takeStock a1 s0 s4 = some r) : Met l yX10_takeStock (wsOf yX10_takeStock cX10_takeStock 3 none) (rmL 3) (va_Pc ([.ref (ad 10), .int a1] : List Value) (PreG D cy (cellsC ad cy s0 s1 s2 s3 s4 s5 s6 s7 s8 s9 s10) sz (NC ad))) (QcV D ad 67 (cellsC ad cy r s1 s2 s3 s4 s5 s6 s7 s8 s9 s10) sz) 0 0 (Afr ad 67 sz) := by
  refine metG (own := RX10) (by decide) rfl (Nat.le_of_ble_eq_true rfl) fstC ?_ sz
  intro p e s m below meth c ls C0 hw hl
  obtain ⟨hx, hb, hml, hown, hts, hr, hlk, hK, hN⟩ := C0
  have hl : lv_has ls 3 [(0, .ref (ad 10)), (1, .int a1)] := hl
  generalize hQ : MQ below (QcV D ad 67 (cellsC ad cy r s1 s2 s3 s4 s5 s6 s7 s8 s9 s10) s.heap.size) ([.ref (ad 10), .int a1] : List Value).toArray s 0 0 (Afr ad 67 s.heap.size) = Q
  obtain ⟨H, hH⟩ : ∃ H : Heap, H = s.heap := ⟨_, rfl⟩
  obtain ⟨locs, hlc⟩ : ∃ L : List Loc, L = [] := ⟨_, rfl⟩
  have hw : Wd D (cellsC ad cy s0 s1 s2 s3 s4 s5 s6 s7 s8 s9 s10) (Afr ad 67 s.heap.size) s.heap H locs := by rw [hH, hlc]; exact hw
  suffices h0 : W p l e (rmL 3) s m ([.ref (ad 10), .int a1] : List Value).toArray below meth c H locs 0 0 Q (F0 m 0 ls []) by rw [hH, hlc] at h0; exact h0
  clear hH hlc
  unfold f10_takeStock at h
  refine lv_aload_n hx hb dX10_takeStock_0 rfl (lv_at hl 0 rfl) ?_
  refine gX10_65 hx hb hts hown hK hw dX10_takeStock_1 ?_
  obtain ⟨q_4, h_4, h⟩ := bnd_e h
  have pg_4 := preG (av := [.ref (ad 0)]) hK hw.1 hw.2.1 (NC_keep hN hw.2.2) NC_blind
  refine endV (mc := 0) (ms := 0) (va_runV (As := []) (rest := []) ⟨hx, hb, hml, hown, hts⟩ (m0_emptyStock l D ad cy H.size s0 s1 s2 s3 s4 s5 s6 s7 s8 s9 s10 q_4 h_4) (wX10_333 0 hts ⟨Nat.le_of_ble_eq_true rfl, Nat.le_of_ble_eq_true rfl⟩) ⟨pg_4.1, va_recv hK hw.1 (ci := 0) (q0 := 0) rfl eC_0, pg_4.2⟩ rfl rfl hl.1 rfl (lv_room (Nat.le_of_ble_eq_true rfl)) dX10_takeStock_4 ⟨Nat.le_refl _, Nat.le_refl _⟩) hw.2.2 (afr_in hw.2.2) (fun H locs hw => ?_)
  refine lv_iconst (v := 0) hx hb dX10_takeStock_7 (by decide) ?_
  refine lv_istore_n (lv' := [(2, .int ((0 : Int32))), (0, .ref (ad 10)), (1, .int a1)]) hx hb dX10_takeStock_8 rfl hl (by decide) rfl (fun ls hl => ?_)
  obtain ⟨n_9, hn_9⟩ := loop_e h
  have hL_9 : ∀ (n : Nat) (t_9 : Int32 × OS) (H : Heap) (locs : List Loc) (ls : Array Slot), loopN (f10_takeStock_l9 a1 s4) n t_9 = some r → Wd D (cellsC ad cy t_9.2 s1 s2 s3 s4 s5 s6 s7 s8 s9 s10) (Afr ad 67 s.heap.size) s.heap H locs → lv_has ls 3 [(2, .int t_9.1), (1, .int a1), (0, .ref (ad 10))] → W p l e (rmL 3) s m ([.ref (ad 10), .int a1] : List Value).toArray below meth c H locs 0 0 Q (F0 m 9 ls []) := by
    intro n
    induction n with
    | zero => intro t_9 H locs ls hn; cases hn
    | succ n ih_9 =>
      intro t_9 H locs ls hn hw hl
      obtain ⟨x_9, h, hx_9⟩ := loopN_e hn
      unfold f10_takeStock_l9 at h
      have hJ_66 : ∀ (v2_j66 : Int32) (s0_j66 : OS) (H : Heap) (locs : List Loc) (ls : Array Slot), f10_takeStock_j66 a1 v2_j66 s0_j66 s4 = some x_9 → Wd D (cellsC ad cy s0_j66 s1 s2 s3 s4 s5 s6 s7 s8 s9 s10) (Afr ad 67 s.heap.size) s.heap H locs → lv_has ls 3 [(0, .ref (ad 10)), (1, .int a1), (2, .int v2_j66)] → W p l e (rmL 3) s m ([.ref (ad 10), .int a1] : List Value).toArray below meth c H locs 0 0 Q (F0 m 66 ls []) := by
        intro v2_j66 s0_j66 H locs ls h hw hl
        unfold f10_takeStock_j66 at h
        obtain ⟨n_66, e_66, h⟩ := nam_e h
        refine lv_iinc (v := n_66) (lv' := [(2, .int n_66), (0, .ref (ad 10)), (1, .int a1)]) hx hb dX10_takeStock_66 hl (k := 2) rfl (by rw [e_66]; rfl) (by decide) rfl (fun ls hl => ?_)
        refine lv_goto (tgt := 9) hx hb dX10_takeStock_69 (by decide) ?_
        exact ih_9 (n_66, s0_j66) H locs ls (nx_l hx_9 h) hw (lv_sub hl [0, 2, 1] rfl)
      refine lv_iload_n hx hb dX10_takeStock_9 rfl (lv_at hl 0 rfl) ?_
      refine lv_aload_n hx hb dX10_takeStock_10 rfl (lv_at hl 2 rfl) ?_
      refine gX10_23 hx hb hts hown hK hw dX10_takeStock_11 ?_
      obtain ⟨q_14, h_14, h⟩ := bnd_e h
      have pg_14 := preG (av := [.ref (ad 4)]) hK hw.1 hw.2.1 (NC_keep hN hw.2.2) NC_blind
      refine endI (mc := 0) (ms := 0) (va_runV (As := []) (rest := [.int t_9.1]) ⟨hx, hb, hml, hown, hts⟩ (m4_size l D ad cy H.size t_9.2 s1 s2 s3 s4 s5 s6 s7 s8 s9 s10 q_14 h_14) (wX10_146 0 hts ⟨Nat.le_of_ble_eq_true rfl, Nat.le_of_ble_eq_true rfl⟩) ⟨pg_14.1, va_recv hK hw.1 (ci := 4) (q0 := 4) rfl eC_4, pg_14.2⟩ rfl rfl hl.1 rfl (lv_room (Nat.le_of_ble_eq_true rfl)) dX10_takeStock_14 ⟨Nat.le_refl _, Nat.le_refl _⟩) hw.2.2 (afr_in hw.2.2) (fun H locs hw => ?_)
      refine lv_icmp_ge (tgt := 72) hx hb dX10_takeStock_17 (by decide) (fun c_17 => ?_) (fun c_17 => ?_)
      · have h := ite_t c_17 h
        have h := nx_m hx_9 h
        have h := Option.some.inj h
        subst h
        rw [← hQ]
        exact retV hx hb hr hlk hw dX10_takeStock_72
      · have h := ite_f c_17 h
        refine lv_aload_n hx hb dX10_takeStock_20 rfl (lv_at hl 2 rfl) ?_
        refine gX10_23 hx hb hts hown hK hw dX10_takeStock_21 ?_
        refine lv_iload_n hx hb dX10_takeStock_24 rfl (lv_at hl 0 rfl) ?_
        obtain ⟨q_25, h_25, h⟩ := bnd_e h
        have pg_25 := preG (av := [.ref (ad 4), .int t_9.1]) hK hw.1 hw.2.1 (NC_keep hN hw.2.2) NC_blind
        refine endI (mc := 0) (ms := 0) (va_runV (As := [.int t_9.1]) (rest := []) ⟨hx, hb, hml, hown, hts⟩ (m4_isAtHand l D ad cy H.size t_9.2 s1 s2 s3 s4 s5 s6 s7 s8 s9 s10 t_9.1 q_25 h_25) (wX10_130 2 hts ⟨Nat.le_of_ble_eq_true rfl, Nat.le_of_ble_eq_true rfl⟩) ⟨pg_25.1, va_recv hK hw.1 (ci := 4) (q0 := 4) rfl eC_4, pg_25.2⟩ rfl rfl hl.1 rfl (lv_room (Nat.le_of_ble_eq_true rfl)) dX10_takeStock_25 ⟨Nat.le_refl _, Nat.le_refl _⟩) hw.2.2 (afr_in hw.2.2) (fun H locs hw => ?_)
        refine lv_if_eq (tgt := 66) hx hb dX10_takeStock_28 (by decide) (fun c_28 => ?_) (fun c_28 => ?_)
        · have h := ite_t c_28 h
          exact hJ_66 t_9.1 t_9.2 H locs ls h hw (lv_sub hl [2, 1, 0] rfl)
        · have h := ite_f c_28 h
          refine lv_aload_n hx hb dX10_takeStock_31 rfl (lv_at hl 2 rfl) ?_
          refine gX10_23 hx hb hts hown hK hw dX10_takeStock_32 ?_
          refine lv_iload_n hx hb dX10_takeStock_35 rfl (lv_at hl 0 rfl) ?_
          obtain ⟨q_36, h_36, h⟩ := bnd_e h
          have pg_36 := preG (av := [.ref (ad 4), .int t_9.1]) hK hw.1 hw.2.1 (NC_keep hN hw.2.2) NC_blind
          refine endI (mc := 0) (ms := 0) (va_runV (As := [.int t_9.1]) (rest := []) ⟨hx, hb, hml, hown, hts⟩ (m4_kindOf l D ad cy H.size t_9.2 s1 s2 s3 s4 s5 s6 s7 s8 s9 s10 t_9.1 q_36 h_36) (wX10_206 1 hts ⟨Nat.le_of_ble_eq_true rfl, Nat.le_of_ble_eq_true rfl⟩) ⟨pg_36.1, va_recv hK hw.1 (ci := 4) (q0 := 4) rfl eC_4, pg_36.2⟩ rfl rfl hl.1 rfl (lv_room (Nat.le_of_ble_eq_true rfl)) dX10_takeStock_36 ⟨Nat.le_refl _, Nat.le_refl _⟩) hw.2.2 (afr_in hw.2.2) (fun H locs hw => ?_)
          refine lv_iload_n hx hb dX10_takeStock_39 rfl (lv_at hl 1 rfl) ?_
          refine lv_icmp_ne (tgt := 66) hx hb dX10_takeStock_40 (by decide) (fun c_40 => ?_) (fun c_40 => ?_)
          · have h := ite_f c_40 h
            exact hJ_66 t_9.1 t_9.2 H locs ls h hw (lv_sub hl [2, 1, 0] rfl)
          · have h := ite_t c_40 h
            refine lv_aload_n hx hb dX10_takeStock_43 rfl (lv_at hl 2 rfl) ?_
            refine gX10_65 hx hb hts hown hK hw dX10_takeStock_44 ?_
            refine lv_aload_n hx hb dX10_takeStock_47 rfl (lv_at hl 2 rfl) ?_
            refine gX10_23 hx hb hts hown hK hw dX10_takeStock_48 ?_
            refine lv_iload_n hx hb dX10_takeStock_51 rfl (lv_at hl 0 rfl) ?_
            obtain ⟨q_52, h_52, h⟩ := bnd_e h
            have pg_52 := preG (av := [.ref (ad 4), .int t_9.1]) hK hw.1 hw.2.1 (NC_keep hN hw.2.2) NC_blind
            refine endI (mc := 0) (ms := 0) (va_runV (As := [.int t_9.1]) (rest := [.ref (ad 0)]) ⟨hx, hb, hml, hown, hts⟩ (m4_weightOf l D ad cy H.size t_9.2 s1 s2 s3 s4 s5 s6 s7 s8 s9 s10 t_9.1 q_52 h_52) (wX10_104 1 hts ⟨Nat.le_of_ble_eq_true rfl, Nat.le_of_ble_eq_true rfl⟩) ⟨pg_52.1, va_recv hK hw.1 (ci := 4) (q0 := 4) rfl eC_4, pg_52.2⟩ rfl rfl hl.1 rfl (lv_room (Nat.le_of_ble_eq_true rfl)) dX10_takeStock_52 ⟨Nat.le_refl _, Nat.le_refl _⟩) hw.2.2 (afr_in hw.2.2) (fun H locs hw => ?_)
            refine lv_aload_n hx hb dX10_takeStock_55 rfl (lv_at hl 2 rfl) ?_
            refine gX10_23 hx hb hts hown hK hw dX10_takeStock_56 ?_
            refine lv_iload_n hx hb dX10_takeStock_59 rfl (lv_at hl 0 rfl) ?_
            obtain ⟨q_60, h_60, h⟩ := bnd_e h
            have pg_60 := preG (av := [.ref (ad 4), .int t_9.1]) hK hw.1 hw.2.1 (NC_keep hN hw.2.2) NC_blind
            refine endI (mc := 0) (ms := 0) (va_runV (As := [.int t_9.1]) (rest := [.int q_52, .ref (ad 0)]) ⟨hx, hb, hml, hown, hts⟩ (m4_metOf l D ad cy H.size t_9.2 s1 s2 s3 s4 s5 s6 s7 s8 s9 s10 t_9.1 q_60 h_60) (wX10_219 1 hts ⟨Nat.le_of_ble_eq_true rfl, Nat.le_of_ble_eq_true rfl⟩) ⟨pg_60.1, va_recv hK hw.1 (ci := 4) (q0 := 4) rfl eC_4, pg_60.2⟩ rfl rfl hl.1 rfl (lv_room (Nat.le_of_ble_eq_true rfl)) dX10_takeStock_60 ⟨Nat.le_refl _, Nat.le_refl _⟩) hw.2.2 (afr_in hw.2.2) (fun H locs hw => ?_)
            obtain ⟨q_63, h_63, h⟩ := bnd_e h
            have pg_63 := preG (av := [.ref (ad 0), .int q_52, .int q_60]) hK hw.1 hw.2.1 (NC_keep hN hw.2.2) NC_blind
            refine endV (mc := 0) (ms := 0) (va_runV (As := [.int q_52, .int q_60]) (rest := []) ⟨hx, hb, hml, hown, hts⟩ (m0_addToStock l D ad cy H.size t_9.2 s1 s2 s3 s4 s5 s6 s7 s8 s9 s10 q_52 q_60 q_63 h_63) (wX10_336 0 hts ⟨Nat.le_of_ble_eq_true rfl, Nat.le_of_ble_eq_true rfl⟩) ⟨pg_63.1, va_recv hK hw.1 (ci := 0) (q0 := 0) rfl eC_0, pg_63.2⟩ rfl rfl hl.1 rfl (lv_room (Nat.le_of_ble_eq_true rfl)) dX10_takeStock_63 ⟨Nat.le_refl _, Nat.le_refl _⟩) hw.2.2 (afr_in hw.2.2) (fun H locs hw => ?_)
            exact hJ_66 t_9.1 q_63 H locs ls h hw (lv_sub hl [2, 1, 0] rfl)
  exact hL_9 n_9 ((0 : Int32), q_4) H locs ls hn_9 hw (lv_sub hl [0, 2, 1] rfl)
theorem dX10_best_0 : decode cX10_best 0 = .ok (.iload_n 2, 1) := by decide +kernel
theorem dX10_best_1 : decode cX10_best 1 = .ok (.iconst (-1), 1) := by decide +kernel
theorem dX10_best_2 : decode cX10_best 2 = .ok (.if_icmp .eq 20, 3) := by decide +kernel
theorem dX10_best_5 : decode cX10_best 5 = .ok (.iload_n 2, 1) := by decide +kernel
theorem dX10_best_6 : decode cX10_best 6 = .ok (.bipush 10, 2) := by decide +kernel
theorem dX10_best_8 : decode cX10_best 8 = .ok (.if_icmp .eq 14, 3) := by decide +kernel
theorem dX10_best_11 : decode cX10_best 11 = .ok (.aload_n 0, 1) := by decide +kernel
theorem dX10_best_12 : decode cX10_best 12 = .ok (.getfield 65, 3) := by decide +kernel
theorem dX10_best_15 : decode cX10_best 15 = .ok (.iload_n 2, 1) := by decide +kernel
theorem dX10_best_16 : decode cX10_best 16 = .ok (.invokevirtual 315, 3) := by decide +kernel
theorem dX10_best_19 : decode cX10_best 19 = .ok (.ifCond .eq 7, 3) := by decide +kernel
theorem dX10_best_22 : decode cX10_best 22 = .ok (.iconst 1, 1) := by decide +kernel
theorem dX10_best_23 : decode cX10_best 23 = .ok (.goto 4, 3) := by decide +kernel
theorem dX10_best_26 : decode cX10_best 26 = .ok (.iconst 0, 1) := by decide +kernel
theorem dX10_best_27 : decode cX10_best 27 = .ok (.istore_n 3, 1) := by decide +kernel
theorem dX10_best_28 : decode cX10_best 28 = .ok (.iload_n 1, 1) := by decide +kernel
theorem dX10_best_29 : decode cX10_best 29 = .ok (.invokestatic 83, 3) := by decide +kernel
theorem dX10_best_32 : decode cX10_best 32 = .ok (.ifCond .eq 7, 3) := by decide +kernel
theorem dX10_best_35 : decode cX10_best 35 = .ok (.iload_n 3, 1) := by decide +kernel
theorem dX10_best_36 : decode cX10_best 36 = .ok (.ifCond .ne 7, 3) := by decide +kernel
theorem dX10_best_39 : decode cX10_best 39 = .ok (.ldc2_w 316, 3) := by decide +kernel
theorem dX10_best_42 : decode cX10_best 42 = .ok (.lreturn, 1) := by decide +kernel
theorem dX10_best_43 : decode cX10_best 43 = .ok (.aload_n 0, 1) := by decide +kernel
theorem dX10_best_44 : decode cX10_best 44 = .ok (.iload_n 1, 1) := by decide +kernel
theorem dX10_best_45 : decode cX10_best 45 = .ok (.invokevirtual 318, 3) := by decide +kernel
theorem dX10_best_48 : decode cX10_best 48 = .ok (.aload_n 0, 1) := by decide +kernel
theorem dX10_best_49 : decode cX10_best 49 = .ok (.getfield 65, 3) := by decide +kernel
theorem dX10_best_52 : decode cX10_best 52 = .ok (.invokevirtual 321, 3) := by decide +kernel
theorem dX10_best_55 : decode cX10_best 55 = .ok (.aload_n 0, 1) := by decide +kernel
theorem dX10_best_56 : decode cX10_best 56 = .ok (.getfield 65, 3) := by decide +kernel
theorem dX10_best_59 : decode cX10_best 59 = .ok (.iload_n 2, 1) := by decide +kernel
theorem dX10_best_60 : decode cX10_best 60 = .ok (.invokevirtual 324, 3) := by decide +kernel
theorem dX10_best_63 : decode cX10_best 63 = .ok (.lreturn, 1) := by decide +kernel
noncomputable def f10_best_j39 (s0_j39 : OS) (s4_j39 : OS) : Option (Int64 × OS) := some ((-1 : Int64), s0_j39)
noncomputable def f10_best_j27 (v1_j27 : Int32) (v2_j27 : Int32) (k0_j27 : Int32) (s0_j27 : OS) (s4_j27 : OS) : Option (Int64 × OS) := Option.bind (f10_isKind v1_j27) fun q_29 => if q_29 = 0 then (f10_best_j39 s0_j27 s4_j27) else (if k0_j27 = 0 then (f10_best_j39 s0_j27 s4_j27) else (Option.bind (f10_takeStock v1_j27 s0_j27 s4_j27) fun q_45 => Option.bind (f0_findBest q_45) fun q_52 => Option.bind (f0_tellBest v2_j27 q_52) fun q_60 => some (q_60, q_52)))
noncomputable def f10_best_j22 (v1_j22 : Int32) (v2_j22 : Int32) (s0_j22 : OS) (s4_j22 : OS) : Option (Int64 × OS) := f10_best_j27 v1_j22 v2_j22 ((1 : Int32)) s0_j22 s4_j22
noncomputable def f10_best (a1 : Int32) (a2 : Int32) (s0 : OS) (s4 : OS) : Option (Int64 × OS) := if a2 = (-1 : Int32) then (f10_best_j22 a1 a2 s0 s4) else (if a2 = (10 : Int32) then (f10_best_j22 a1 a2 s0 s4) else (Option.bind (f0_has a2 s0) fun q_16 => if q_16 = 0 then (f10_best_j27 a1 a2 ((0 : Int32)) s0 s4) else (f10_best_j22 a1 a2 s0 s4)))
set_option maxHeartbeats 4000000 in
set_option maxRecDepth 100000 in
theorem m10_best (l : Launch) (D : va_G) (ad : Nat → Nat) (cy : Nat → ClassId) (sz : Nat) (s0 s1 s2 s3 s4 s5 s6 s7 s8 s9 s10 : OS) (a1 : Int32) (a2 : Int32) (r : Int64 × OS) (h : f10_best a1 a2 s0 s4 = some r) : Met l yX10_best (wsOf yX10_best cX10_best 4 (some .long)) (rmL 18) (va_Pc ([.ref (ad 10), .int a1, .int a2] : List Value) (PreG D cy (cellsC ad cy s0 s1 s2 s3 s4 s5 s6 s7 s8 s9 s10) sz (NC ad))) (QcL D ad 67 (cellsC ad cy r.2 s1 s2 s3 s4 s5 s6 s7 s8 s9 s10) (r.1) sz) 0 0 (Afr ad 67 sz) := by
  refine metG (own := RX10) (by decide) rfl (Nat.le_of_ble_eq_true rfl) fstC ?_ sz
  intro p e s m below meth c ls C0 hw hl
  obtain ⟨hx, hb, hml, hown, hts, hr, hlk, hK, hN⟩ := C0
  have hl : lv_has ls 4 [(0, .ref (ad 10)), (1, .int a1), (2, .int a2)] := hl
  generalize hQ : MQ below (QcL D ad 67 (cellsC ad cy r.2 s1 s2 s3 s4 s5 s6 s7 s8 s9 s10) (r.1) s.heap.size) ([.ref (ad 10), .int a1, .int a2] : List Value).toArray s 0 0 (Afr ad 67 s.heap.size) = Q
  obtain ⟨H, hH⟩ : ∃ H : Heap, H = s.heap := ⟨_, rfl⟩
  obtain ⟨locs, hlc⟩ : ∃ L : List Loc, L = [] := ⟨_, rfl⟩
  have hw : Wd D (cellsC ad cy s0 s1 s2 s3 s4 s5 s6 s7 s8 s9 s10) (Afr ad 67 s.heap.size) s.heap H locs := by rw [hH, hlc]; exact hw
  suffices h0 : W p l e (rmL 18) s m ([.ref (ad 10), .int a1, .int a2] : List Value).toArray below meth c H locs 0 0 Q (F0 m 0 ls []) by rw [hH, hlc] at h0; exact h0
  clear hH hlc
  unfold f10_best at h
  have hJ_39 : ∀ (s0_j39 : OS) (H : Heap) (locs : List Loc) (ls : Array Slot), f10_best_j39 s0_j39 s4 = some r → Wd D (cellsC ad cy s0_j39 s1 s2 s3 s4 s5 s6 s7 s8 s9 s10) (Afr ad 67 s.heap.size) s.heap H locs → lv_has ls 4 [] → W p l e (rmL 18) s m ([.ref (ad 10), .int a1, .int a2] : List Value).toArray below meth c H locs 0 0 Q (F0 m 39 ls []) := by
    intro s0_j39 H locs ls h hw hl
    unfold f10_best_j39 at h
    refine lv_ldc2 (v := (-1)) hx hb hown (hts _ (wd_5 (w := .constantLong RX10 316 (-1)) (i := 144) (by decide +kernel) rfl)) dX10_best_39 ?_
    have h := Option.some.inj h
    subst h
    rw [← hQ]
    exact retL hx hb hr hlk hw dX10_best_42
  have hJ_27 : ∀ (v1_j27 : Int32) (v2_j27 : Int32) (k0_j27 : Int32) (s0_j27 : OS) (H : Heap) (locs : List Loc) (ls : Array Slot), f10_best_j27 v1_j27 v2_j27 k0_j27 s0_j27 s4 = some r → Wd D (cellsC ad cy s0_j27 s1 s2 s3 s4 s5 s6 s7 s8 s9 s10) (Afr ad 67 s.heap.size) s.heap H locs → lv_has ls 4 [(0, .ref (ad 10)), (1, .int v1_j27), (2, .int v2_j27)] → W p l e (rmL 18) s m ([.ref (ad 10), .int a1, .int a2] : List Value).toArray below meth c H locs 0 0 Q (F0 m 27 ls [.int k0_j27]) := by
    intro v1_j27 v2_j27 k0_j27 s0_j27 H locs ls h hw hl
    unfold f10_best_j27 at h
    refine lv_istore_n (lv' := [(3, .int k0_j27), (0, .ref (ad 10)), (1, .int v1_j27), (2, .int v2_j27)]) hx hb dX10_best_27 rfl hl (by decide) rfl (fun ls hl => ?_)
    refine lv_iload_n hx hb dX10_best_28 rfl (lv_at hl 2 rfl) ?_
    obtain ⟨q_29, h_29, h⟩ := bnd_e h
    have pg_29 := preG (av := [.int v1_j27]) hK hw.1 hw.2.1 (NC_keep hN hw.2.2) NC_blind
    refine endI (mc := 0) (ms := 0) (va_runS (As := [.int v1_j27]) (rest := []) ⟨hx, hb, hml, hown, hts⟩ (m10_isKind l D ad cy H.size s0_j27 s1 s2 s3 s4 s5 s6 s7 s8 s9 s10 v1_j27 q_29 h_29) (wX10_83 1 hts ⟨Nat.le_of_ble_eq_true rfl, Nat.le_of_ble_eq_true rfl⟩) pg_29 rfl rfl hl.1 rfl (lv_room (Nat.le_of_ble_eq_true rfl)) dX10_best_29 ⟨Nat.le_refl _, Nat.le_refl _⟩) hw.2.2 (afr_in hw.2.2) (fun H locs hw => ?_)
    refine lv_if_eq (tgt := 39) hx hb dX10_best_32 (by decide) (fun c_32 => ?_) (fun c_32 => ?_)
    · have h := ite_t c_32 h
      exact hJ_39 s0_j27 H locs ls h hw (lv_sub hl [] rfl)
    · have h := ite_f c_32 h
      refine lv_iload_n hx hb dX10_best_35 rfl (lv_at hl 0 rfl) ?_
      refine lv_if_ne (tgt := 43) hx hb dX10_best_36 (by decide) (fun c_36 => ?_) (fun c_36 => ?_)
      · have h := ite_f c_36 h
        refine lv_aload_n hx hb dX10_best_43 rfl (lv_at hl 1 rfl) ?_
        refine lv_iload_n hx hb dX10_best_44 rfl (lv_at hl 2 rfl) ?_
        obtain ⟨q_45, h_45, h⟩ := bnd_e h
        have pg_45 := preG (av := [.ref (ad 10), .int v1_j27]) hK hw.1 hw.2.1 (NC_keep hN hw.2.2) NC_blind
        refine endV (mc := 0) (ms := 0) (va_runV (As := [.int v1_j27]) (rest := []) ⟨hx, hb, hml, hown, hts⟩ (m10_takeStock l D ad cy H.size s0_j27 s1 s2 s3 s4 s5 s6 s7 s8 s9 s10 v1_j27 q_45 h_45) (wX10_318 3 hts ⟨Nat.le_of_ble_eq_true rfl, Nat.le_of_ble_eq_true rfl⟩) ⟨pg_45.1, va_recv hK hw.1 (ci := 10) (q0 := 10) rfl eC_10, pg_45.2⟩ rfl rfl hl.1 rfl (lv_room (Nat.le_of_ble_eq_true rfl)) dX10_best_45 ⟨Nat.le_refl _, Nat.le_refl _⟩) hw.2.2 (afr_in hw.2.2) (fun H locs hw => ?_)
        refine lv_aload_n hx hb dX10_best_48 rfl (lv_at hl 1 rfl) ?_
        refine gX10_65 hx hb hts hown hK hw dX10_best_49 ?_
        obtain ⟨q_52, h_52, h⟩ := bnd_e h
        have pg_52 := preG (av := [.ref (ad 0)]) hK hw.1 hw.2.1 (NC_keep hN hw.2.2) NC_blind
        refine endV (mc := 0) (ms := 0) (va_runV (As := []) (rest := []) ⟨hx, hb, hml, hown, hts⟩ (m0_findBest l D ad cy H.size q_45 s1 s2 s3 s4 s5 s6 s7 s8 s9 s10 q_52 h_52) (wX10_321 17 hts ⟨Nat.le_of_ble_eq_true rfl, Nat.le_of_ble_eq_true rfl⟩) ⟨pg_52.1, va_recv hK hw.1 (ci := 0) (q0 := 0) rfl eC_0, pg_52.2⟩ rfl rfl hl.1 rfl (lv_room (Nat.le_of_ble_eq_true rfl)) dX10_best_52 ⟨Nat.le_refl _, Nat.le_refl _⟩) hw.2.2 (afr_in hw.2.2) (fun H locs hw => ?_)
        refine lv_aload_n hx hb dX10_best_55 rfl (lv_at hl 1 rfl) ?_
        refine gX10_65 hx hb hts hown hK hw dX10_best_56 ?_
        refine lv_iload_n hx hb dX10_best_59 rfl (lv_at hl 3 rfl) ?_
        obtain ⟨q_60, h_60, h⟩ := bnd_e h
        have pg_60 := preG (av := [.ref (ad 0), .int v2_j27]) hK hw.1 hw.2.1 (NC_keep hN hw.2.2) NC_blind
        refine endL (mc := 0) (ms := 0) (va_runV (As := [.int v2_j27]) (rest := []) ⟨hx, hb, hml, hown, hts⟩ (m0_tellBest l D ad cy H.size q_52 s1 s2 s3 s4 s5 s6 s7 s8 s9 s10 v2_j27 q_60 h_60) (wX10_324 1 hts ⟨Nat.le_of_ble_eq_true rfl, Nat.le_of_ble_eq_true rfl⟩) ⟨pg_60.1, va_recv hK hw.1 (ci := 0) (q0 := 0) rfl eC_0, pg_60.2⟩ rfl rfl hl.1 rfl (lv_room (Nat.le_of_ble_eq_true rfl)) dX10_best_60 ⟨Nat.le_refl _, Nat.le_refl _⟩) hw.2.2 (afr_in hw.2.2) (fun H locs hw => ?_)
        have h := Option.some.inj h
        subst h
        rw [← hQ]
        exact retL hx hb hr hlk hw dX10_best_63
      · have h := ite_t c_36 h
        exact hJ_39 s0_j27 H locs ls h hw (lv_sub hl [] rfl)
  have hJ_22 : ∀ (v1_j22 : Int32) (v2_j22 : Int32) (s0_j22 : OS) (H : Heap) (locs : List Loc) (ls : Array Slot), f10_best_j22 v1_j22 v2_j22 s0_j22 s4 = some r → Wd D (cellsC ad cy s0_j22 s1 s2 s3 s4 s5 s6 s7 s8 s9 s10) (Afr ad 67 s.heap.size) s.heap H locs → lv_has ls 4 [(0, .ref (ad 10)), (1, .int v1_j22), (2, .int v2_j22)] → W p l e (rmL 18) s m ([.ref (ad 10), .int a1, .int a2] : List Value).toArray below meth c H locs 0 0 Q (F0 m 22 ls []) := by
    intro v1_j22 v2_j22 s0_j22 H locs ls h hw hl
    unfold f10_best_j22 at h
    refine lv_iconst (v := 1) hx hb dX10_best_22 (by decide) ?_
    refine lv_goto (tgt := 27) hx hb dX10_best_23 (by decide) ?_
    exact hJ_27 v1_j22 v2_j22 ((1 : Int32)) s0_j22 H locs ls h hw (lv_sub hl [0, 1, 2] rfl)
  refine lv_iload_n hx hb dX10_best_0 rfl (lv_at hl 2 rfl) ?_
  refine lv_iconst (v := (-1)) hx hb dX10_best_1 (by decide) ?_
  refine lv_icmp_eq (tgt := 22) hx hb dX10_best_2 (by decide) (fun c_2 => ?_) (fun c_2 => ?_)
  · have h := ite_t c_2 h
    exact hJ_22 a1 a2 s0 H locs ls h hw (lv_sub hl [0, 1, 2] rfl)
  · have h := ite_f c_2 h
    refine lv_iload_n hx hb dX10_best_5 rfl (lv_at hl 2 rfl) ?_
    refine lv_bipush (v := 10) hx hb dX10_best_6 (by decide) ?_
    refine lv_icmp_eq (tgt := 22) hx hb dX10_best_8 (by decide) (fun c_8 => ?_) (fun c_8 => ?_)
    · have h := ite_t c_8 h
      exact hJ_22 a1 a2 s0 H locs ls h hw (lv_sub hl [0, 1, 2] rfl)
    · have h := ite_f c_8 h
      refine lv_aload_n hx hb dX10_best_11 rfl (lv_at hl 0 rfl) ?_
      refine gX10_65 hx hb hts hown hK hw dX10_best_12 ?_
      refine lv_iload_n hx hb dX10_best_15 rfl (lv_at hl 2 rfl) ?_
      obtain ⟨q_16, h_16, h⟩ := bnd_e h
      have pg_16 := preG (av := [.ref (ad 0), .int a2]) hK hw.1 hw.2.1 (NC_keep hN hw.2.2) NC_blind
      refine endI (mc := 0) (ms := 0) (va_runV (As := [.int a2]) (rest := []) ⟨hx, hb, hml, hown, hts⟩ (m0_has l D ad cy H.size s0 s1 s2 s3 s4 s5 s6 s7 s8 s9 s10 a2 q_16 h_16) (wX10_315 0 hts ⟨Nat.le_of_ble_eq_true rfl, Nat.le_of_ble_eq_true rfl⟩) ⟨pg_16.1, va_recv hK hw.1 (ci := 0) (q0 := 0) rfl eC_0, pg_16.2⟩ rfl rfl hl.1 rfl (lv_room (Nat.le_of_ble_eq_true rfl)) dX10_best_16 ⟨Nat.le_refl _, Nat.le_refl _⟩) hw.2.2 (afr_in hw.2.2) (fun H locs hw => ?_)
      refine lv_if_eq (tgt := 26) hx hb dX10_best_19 (by decide) (fun c_19 => ?_) (fun c_19 => ?_)
      · have h := ite_t c_19 h
        refine lv_iconst (v := 0) hx hb dX10_best_26 (by decide) ?_
        exact hJ_27 a1 a2 ((0 : Int32)) s0 H locs ls h hw (lv_sub hl [0, 1, 2] rfl)
      · have h := ite_f c_19 h
        exact hJ_22 a1 a2 s0 H locs ls h hw (lv_sub hl [0, 1, 2] rfl)
theorem dX10_firstNotSo_0 : decode cX10_firstNotSo 0 = .ok (.iconst 0, 1) := by decide +kernel
theorem dX10_firstNotSo_1 : decode cX10_firstNotSo 1 = .ok (.istore_n 2, 1) := by decide +kernel
theorem dX10_firstNotSo_2 : decode cX10_firstNotSo 2 = .ok (.iconst 0, 1) := by decide +kernel
theorem dX10_firstNotSo_3 : decode cX10_firstNotSo 3 = .ok (.istore_n 3, 1) := by decide +kernel
theorem dX10_firstNotSo_4 : decode cX10_firstNotSo 4 = .ok (.iload_n 3, 1) := by decide +kernel
theorem dX10_firstNotSo_5 : decode cX10_firstNotSo 5 = .ok (.aload_n 0, 1) := by decide +kernel
theorem dX10_firstNotSo_6 : decode cX10_firstNotSo 6 = .ok (.getfield 23, 3) := by decide +kernel
theorem dX10_firstNotSo_9 : decode cX10_firstNotSo 9 = .ok (.invokevirtual 146, 3) := by decide +kernel
theorem dX10_firstNotSo_12 : decode cX10_firstNotSo 12 = .ok (.if_icmp .ge 94, 3) := by decide +kernel
theorem dX10_firstNotSo_15 : decode cX10_firstNotSo 15 = .ok (.aload_n 0, 1) := by decide +kernel
theorem dX10_firstNotSo_16 : decode cX10_firstNotSo 16 = .ok (.getfield 23, 3) := by decide +kernel
theorem dX10_firstNotSo_19 : decode cX10_firstNotSo 19 = .ok (.iload_n 3, 1) := by decide +kernel
theorem dX10_firstNotSo_20 : decode cX10_firstNotSo 20 = .ok (.invokevirtual 98, 3) := by decide +kernel
theorem dX10_firstNotSo_23 : decode cX10_firstNotSo 23 = .ok (.ifCond .eq 77, 3) := by decide +kernel
theorem dX10_firstNotSo_26 : decode cX10_firstNotSo 26 = .ok (.iload_n 2, 1) := by decide +kernel
theorem dX10_firstNotSo_27 : decode cX10_firstNotSo 27 = .ok (.iload_n 1, 1) := by decide +kernel
theorem dX10_firstNotSo_28 : decode cX10_firstNotSo 28 = .ok (.if_icmp .lt 5, 3) := by decide +kernel
theorem dX10_firstNotSo_31 : decode cX10_firstNotSo 31 = .ok (.iload_n 1, 1) := by decide +kernel
theorem dX10_firstNotSo_32 : decode cX10_firstNotSo 32 = .ok (.ireturn, 1) := by decide +kernel
theorem dX10_firstNotSo_33 : decode cX10_firstNotSo 33 = .ok (.aload_n 0, 1) := by decide +kernel
theorem dX10_firstNotSo_34 : decode cX10_firstNotSo 34 = .ok (.getfield 16, 3) := by decide +kernel
theorem dX10_firstNotSo_37 : decode cX10_firstNotSo 37 = .ok (.iload_n 2, 1) := by decide +kernel
theorem dX10_firstNotSo_38 : decode cX10_firstNotSo 38 = .ok (.invokevirtual 143, 3) := by decide +kernel
theorem dX10_firstNotSo_41 : decode cX10_firstNotSo 41 = .ok (.iload_n 3, 1) := by decide +kernel
theorem dX10_firstNotSo_42 : decode cX10_firstNotSo 42 = .ok (.if_icmp .eq 5, 3) := by decide +kernel
theorem dX10_firstNotSo_45 : decode cX10_firstNotSo 45 = .ok (.iload_n 2, 1) := by decide +kernel
theorem dX10_firstNotSo_46 : decode cX10_firstNotSo 46 = .ok (.ireturn, 1) := by decide +kernel
theorem dX10_firstNotSo_47 : decode cX10_firstNotSo 47 = .ok (.aload_n 0, 1) := by decide +kernel
theorem dX10_firstNotSo_48 : decode cX10_firstNotSo 48 = .ok (.getfield 16, 3) := by decide +kernel
theorem dX10_firstNotSo_51 : decode cX10_firstNotSo 51 = .ok (.iload_n 2, 1) := by decide +kernel
theorem dX10_firstNotSo_52 : decode cX10_firstNotSo 52 = .ok (.iconst 1, 1) := by decide +kernel
theorem dX10_firstNotSo_53 : decode cX10_firstNotSo 53 = .ok (.iadd, 1) := by decide +kernel
theorem dX10_firstNotSo_54 : decode cX10_firstNotSo 54 = .ok (.invokevirtual 143, 3) := by decide +kernel
theorem dX10_firstNotSo_57 : decode cX10_firstNotSo 57 = .ok (.aload_n 0, 1) := by decide +kernel
theorem dX10_firstNotSo_58 : decode cX10_firstNotSo 58 = .ok (.getfield 23, 3) := by decide +kernel
theorem dX10_firstNotSo_61 : decode cX10_firstNotSo 61 = .ok (.iload_n 3, 1) := by decide +kernel
theorem dX10_firstNotSo_62 : decode cX10_firstNotSo 62 = .ok (.invokevirtual 116, 3) := by decide +kernel
theorem dX10_firstNotSo_65 : decode cX10_firstNotSo 65 = .ok (.if_icmp .eq 7, 3) := by decide +kernel
theorem dX10_firstNotSo_68 : decode cX10_firstNotSo 68 = .ok (.iload_n 2, 1) := by decide +kernel
theorem dX10_firstNotSo_69 : decode cX10_firstNotSo 69 = .ok (.iconst 1, 1) := by decide +kernel
theorem dX10_firstNotSo_70 : decode cX10_firstNotSo 70 = .ok (.iadd, 1) := by decide +kernel
theorem dX10_firstNotSo_71 : decode cX10_firstNotSo 71 = .ok (.ireturn, 1) := by decide +kernel
theorem dX10_firstNotSo_72 : decode cX10_firstNotSo 72 = .ok (.aload_n 0, 1) := by decide +kernel
theorem dX10_firstNotSo_73 : decode cX10_firstNotSo 73 = .ok (.getfield 16, 3) := by decide +kernel
theorem dX10_firstNotSo_76 : decode cX10_firstNotSo 76 = .ok (.iload_n 2, 1) := by decide +kernel
theorem dX10_firstNotSo_77 : decode cX10_firstNotSo 77 = .ok (.iconst 2, 1) := by decide +kernel
theorem dX10_firstNotSo_78 : decode cX10_firstNotSo 78 = .ok (.iadd, 1) := by decide +kernel
theorem dX10_firstNotSo_79 : decode cX10_firstNotSo 79 = .ok (.invokevirtual 143, 3) := by decide +kernel
theorem dX10_firstNotSo_82 : decode cX10_firstNotSo 82 = .ok (.aload_n 0, 1) := by decide +kernel
theorem dX10_firstNotSo_83 : decode cX10_firstNotSo 83 = .ok (.getfield 23, 3) := by decide +kernel
theorem dX10_firstNotSo_86 : decode cX10_firstNotSo 86 = .ok (.iload_n 3, 1) := by decide +kernel
theorem dX10_firstNotSo_87 : decode cX10_firstNotSo 87 = .ok (.invokevirtual 104, 3) := by decide +kernel
theorem dX10_firstNotSo_90 : decode cX10_firstNotSo 90 = .ok (.if_icmp .eq 7, 3) := by decide +kernel
theorem dX10_firstNotSo_93 : decode cX10_firstNotSo 93 = .ok (.iload_n 2, 1) := by decide +kernel
theorem dX10_firstNotSo_94 : decode cX10_firstNotSo 94 = .ok (.iconst 2, 1) := by decide +kernel
theorem dX10_firstNotSo_95 : decode cX10_firstNotSo 95 = .ok (.iadd, 1) := by decide +kernel
theorem dX10_firstNotSo_96 : decode cX10_firstNotSo 96 = .ok (.ireturn, 1) := by decide +kernel
theorem dX10_firstNotSo_97 : decode cX10_firstNotSo 97 = .ok (.iinc 2 3, 3) := by decide +kernel
theorem dX10_firstNotSo_100 : decode cX10_firstNotSo 100 = .ok (.iinc 3 1, 3) := by decide +kernel
theorem dX10_firstNotSo_103 : decode cX10_firstNotSo 103 = .ok (.goto (-99), 3) := by decide +kernel
theorem dX10_firstNotSo_106 : decode cX10_firstNotSo 106 = .ok (.iload_n 2, 1) := by decide +kernel
theorem dX10_firstNotSo_107 : decode cX10_firstNotSo 107 = .ok (.iload_n 1, 1) := by decide +kernel
theorem dX10_firstNotSo_108 : decode cX10_firstNotSo 108 = .ok (.if_icmp .ge 7, 3) := by decide +kernel
theorem dX10_firstNotSo_111 : decode cX10_firstNotSo 111 = .ok (.iload_n 2, 1) := by decide +kernel
theorem dX10_firstNotSo_112 : decode cX10_firstNotSo 112 = .ok (.goto 4, 3) := by decide +kernel
theorem dX10_firstNotSo_115 : decode cX10_firstNotSo 115 = .ok (.iconst (-1), 1) := by decide +kernel
theorem dX10_firstNotSo_116 : decode cX10_firstNotSo 116 = .ok (.ireturn, 1) := by decide +kernel
noncomputable def f10_firstNotSo_j116 (k0_j116 : Int32) (s4_j116 : OS) (s8_j116 : OS) : Option (Int32) := some k0_j116
noncomputable def f10_firstNotSo_j100 (v1_j100 : Int32) (v2_j100 : Int32) (v3_j100 : Int32) (s4_j100 : OS) (s8_j100 : OS) : Option ((Int32 × Int32) ⊕ (Int32)) := nm (v3_j100 + (1 : Int32)) fun n_100 => some (Sum.inl (v2_j100, n_100))
noncomputable def f10_firstNotSo_l4 (v1_i4 : Int32) (s4_i4 : OS) (s8_i4 : OS) : Int32 × Int32 → Option ((Int32 × Int32) ⊕ (Int32)) := fun t_4 => Option.bind (f4_size s4_i4) fun q_9 => if q_9 ≤ t_4.2 then (Option.map Sum.inr (if v1_i4 ≤ t_4.1 then (f10_firstNotSo_j116 ((-1 : Int32)) s4_i4 s8_i4) else (f10_firstNotSo_j116 t_4.1 s4_i4 s8_i4))) else (Option.bind (f4_lies t_4.2 s4_i4) fun q_20 => if q_20 = 0 then (f10_firstNotSo_j100 v1_i4 t_4.1 t_4.2 s4_i4 s8_i4) else (if t_4.1 < v1_i4 then (Option.bind (f8_number t_4.1 s8_i4) fun q_38 => if q_38 = t_4.2 then (Option.bind (f8_number ((t_4.1 + (1 : Int32))) s8_i4) fun q_54 => Option.bind (f4_placeOf t_4.2 s4_i4) fun q_62 => if q_54 = q_62 then (Option.bind (f8_number ((t_4.1 + (2 : Int32))) s8_i4) fun q_79 => Option.bind (f4_weightOf t_4.2 s4_i4) fun q_87 => if q_79 = q_87 then (nm (t_4.1 + (3 : Int32)) fun n_97 => f10_firstNotSo_j100 v1_i4 n_97 t_4.2 s4_i4 s8_i4) else (Option.map Sum.inr (some ((t_4.1 + (2 : Int32)))))) else (Option.map Sum.inr (some ((t_4.1 + (1 : Int32)))))) else (Option.map Sum.inr (some t_4.1))) else (Option.map Sum.inr (some v1_i4))))
noncomputable def f10_firstNotSo (a1 : Int32) (s4 : OS) (s8 : OS) : Option (Int32) := loop (f10_firstNotSo_l4 a1 s4 s8) ((0 : Int32), (0 : Int32))
set_option maxHeartbeats 4000000 in
set_option maxRecDepth 100000 in
theorem m10_firstNotSo (l : Launch) (D : va_G) (ad : Nat → Nat) (cy : Nat → ClassId) (sz : Nat) (s0 s1 s2 s3 s4 s5 s6 s7 s8 s9 s10 : OS) (a1 : Int32) (r : Int32) (h : f10_firstNotSo a1 s4 s8 = some r) : Met l yX10_firstNotSo (wsOf yX10_firstNotSo cX10_firstNotSo 4 (some .int)) (rmL 2) (va_Pc ([.ref (ad 10), .int a1] : List Value) (PreG D cy (cellsC ad cy s0 s1 s2 s3 s4 s5 s6 s7 s8 s9 s10) sz (NC ad))) (QcI D ad 67 (cellsC ad cy s0 s1 s2 s3 s4 s5 s6 s7 s8 s9 s10) (r) sz) 0 0 (Afr ad 67 sz) := by
  refine metG (own := RX10) (by decide) rfl (Nat.le_of_ble_eq_true rfl) fstC ?_ sz
  intro p e s m below meth c ls C0 hw hl
  obtain ⟨hx, hb, hml, hown, hts, hr, hlk, hK, hN⟩ := C0
  have hl : lv_has ls 4 [(0, .ref (ad 10)), (1, .int a1)] := hl
  generalize hQ : MQ below (QcI D ad 67 (cellsC ad cy s0 s1 s2 s3 s4 s5 s6 s7 s8 s9 s10) (r) s.heap.size) ([.ref (ad 10), .int a1] : List Value).toArray s 0 0 (Afr ad 67 s.heap.size) = Q
  obtain ⟨H, hH⟩ : ∃ H : Heap, H = s.heap := ⟨_, rfl⟩
  obtain ⟨locs, hlc⟩ : ∃ L : List Loc, L = [] := ⟨_, rfl⟩
  have hw : Wd D (cellsC ad cy s0 s1 s2 s3 s4 s5 s6 s7 s8 s9 s10) (Afr ad 67 s.heap.size) s.heap H locs := by rw [hH, hlc]; exact hw
  suffices h0 : W p l e (rmL 2) s m ([.ref (ad 10), .int a1] : List Value).toArray below meth c H locs 0 0 Q (F0 m 0 ls []) by rw [hH, hlc] at h0; exact h0
  clear hH hlc
  unfold f10_firstNotSo at h
  have hJ_116 : ∀ (k0_j116 : Int32) (H : Heap) (locs : List Loc) (ls : Array Slot), f10_firstNotSo_j116 k0_j116 s4 s8 = some r → Wd D (cellsC ad cy s0 s1 s2 s3 s4 s5 s6 s7 s8 s9 s10) (Afr ad 67 s.heap.size) s.heap H locs → lv_has ls 4 [] → W p l e (rmL 2) s m ([.ref (ad 10), .int a1] : List Value).toArray below meth c H locs 0 0 Q (F0 m 116 ls [.int k0_j116]) := by
    intro k0_j116 H locs ls h hw hl
    unfold f10_firstNotSo_j116 at h
    have h := Option.some.inj h
    subst h
    rw [← hQ]
    exact retI hx hb hr hlk hw rfl dX10_firstNotSo_116
  refine lv_iconst (v := 0) hx hb dX10_firstNotSo_0 (by decide) ?_
  refine lv_istore_n (lv' := [(2, .int ((0 : Int32))), (0, .ref (ad 10)), (1, .int a1)]) hx hb dX10_firstNotSo_1 rfl hl (by decide) rfl (fun ls hl => ?_)
  refine lv_iconst (v := 0) hx hb dX10_firstNotSo_2 (by decide) ?_
  refine lv_istore_n (lv' := [(3, .int ((0 : Int32))), (2, .int ((0 : Int32))), (0, .ref (ad 10)), (1, .int a1)]) hx hb dX10_firstNotSo_3 rfl hl (by decide) rfl (fun ls hl => ?_)
  obtain ⟨n_4, hn_4⟩ := loop_e h
  have hL_4 : ∀ (n : Nat) (t_4 : Int32 × Int32) (H : Heap) (locs : List Loc) (ls : Array Slot), loopN (f10_firstNotSo_l4 a1 s4 s8) n t_4 = some r → Wd D (cellsC ad cy s0 s1 s2 s3 s4 s5 s6 s7 s8 s9 s10) (Afr ad 67 s.heap.size) s.heap H locs → lv_has ls 4 [(2, .int t_4.1), (3, .int t_4.2), (1, .int a1), (0, .ref (ad 10))] → W p l e (rmL 2) s m ([.ref (ad 10), .int a1] : List Value).toArray below meth c H locs 0 0 Q (F0 m 4 ls []) := by
    intro n
    induction n with
    | zero => intro t_4 H locs ls hn; cases hn
    | succ n ih_4 =>
      intro t_4 H locs ls hn hw hl
      obtain ⟨x_4, h, hx_4⟩ := loopN_e hn
      unfold f10_firstNotSo_l4 at h
      have hJ_100 : ∀ (v2_j100 : Int32) (v3_j100 : Int32) (H : Heap) (locs : List Loc) (ls : Array Slot), f10_firstNotSo_j100 a1 v2_j100 v3_j100 s4 s8 = some x_4 → Wd D (cellsC ad cy s0 s1 s2 s3 s4 s5 s6 s7 s8 s9 s10) (Afr ad 67 s.heap.size) s.heap H locs → lv_has ls 4 [(0, .ref (ad 10)), (1, .int a1), (2, .int v2_j100), (3, .int v3_j100)] → W p l e (rmL 2) s m ([.ref (ad 10), .int a1] : List Value).toArray below meth c H locs 0 0 Q (F0 m 100 ls []) := by
        intro v2_j100 v3_j100 H locs ls h hw hl
        unfold f10_firstNotSo_j100 at h
        obtain ⟨n_100, e_100, h⟩ := nam_e h
        refine lv_iinc (v := n_100) (lv' := [(3, .int n_100), (0, .ref (ad 10)), (1, .int a1), (2, .int v2_j100)]) hx hb dX10_firstNotSo_100 hl (k := 3) rfl (by rw [e_100]; rfl) (by decide) rfl (fun ls hl => ?_)
        refine lv_goto (tgt := 4) hx hb dX10_firstNotSo_103 (by decide) ?_
        exact ih_4 (v2_j100, n_100) H locs ls (nx_l hx_4 h) hw (lv_sub hl [3, 0, 2, 1] rfl)
      refine lv_iload_n hx hb dX10_firstNotSo_4 rfl (lv_at hl 1 rfl) ?_
      refine lv_aload_n hx hb dX10_firstNotSo_5 rfl (lv_at hl 3 rfl) ?_
      refine gX10_23 hx hb hts hown hK hw dX10_firstNotSo_6 ?_
      obtain ⟨q_9, h_9, h⟩ := bnd_e h
      have pg_9 := preG (av := [.ref (ad 4)]) hK hw.1 hw.2.1 (NC_keep hN hw.2.2) NC_blind
      refine endI (mc := 0) (ms := 0) (va_runV (As := []) (rest := [.int t_4.2]) ⟨hx, hb, hml, hown, hts⟩ (m4_size l D ad cy H.size s0 s1 s2 s3 s4 s5 s6 s7 s8 s9 s10 q_9 h_9) (wX10_146 0 hts ⟨Nat.le_of_ble_eq_true rfl, Nat.le_of_ble_eq_true rfl⟩) ⟨pg_9.1, va_recv hK hw.1 (ci := 4) (q0 := 4) rfl eC_4, pg_9.2⟩ rfl rfl hl.1 rfl (lv_room (Nat.le_of_ble_eq_true rfl)) dX10_firstNotSo_9 ⟨Nat.le_refl _, Nat.le_refl _⟩) hw.2.2 (afr_in hw.2.2) (fun H locs hw => ?_)
      refine lv_icmp_ge (tgt := 106) hx hb dX10_firstNotSo_12 (by decide) (fun c_12 => ?_) (fun c_12 => ?_)
      · have h := ite_t c_12 h
        have h := nx_m hx_4 h
        refine lv_iload_n hx hb dX10_firstNotSo_106 rfl (lv_at hl 0 rfl) ?_
        refine lv_iload_n hx hb dX10_firstNotSo_107 rfl (lv_at hl 2 rfl) ?_
        refine lv_icmp_ge (tgt := 115) hx hb dX10_firstNotSo_108 (by decide) (fun c_108 => ?_) (fun c_108 => ?_)
        · have h := ite_t c_108 h
          refine lv_iconst (v := (-1)) hx hb dX10_firstNotSo_115 (by decide) ?_
          exact hJ_116 ((-1 : Int32)) H locs ls h hw (lv_sub hl [] rfl)
        · have h := ite_f c_108 h
          refine lv_iload_n hx hb dX10_firstNotSo_111 rfl (lv_at hl 0 rfl) ?_
          refine lv_goto (tgt := 116) hx hb dX10_firstNotSo_112 (by decide) ?_
          exact hJ_116 t_4.1 H locs ls h hw (lv_sub hl [] rfl)
      · have h := ite_f c_12 h
        refine lv_aload_n hx hb dX10_firstNotSo_15 rfl (lv_at hl 3 rfl) ?_
        refine gX10_23 hx hb hts hown hK hw dX10_firstNotSo_16 ?_
        refine lv_iload_n hx hb dX10_firstNotSo_19 rfl (lv_at hl 1 rfl) ?_
        obtain ⟨q_20, h_20, h⟩ := bnd_e h
        have pg_20 := preG (av := [.ref (ad 4), .int t_4.2]) hK hw.1 hw.2.1 (NC_keep hN hw.2.2) NC_blind
        refine endI (mc := 0) (ms := 0) (va_runV (As := [.int t_4.2]) (rest := []) ⟨hx, hb, hml, hown, hts⟩ (m4_lies l D ad cy H.size s0 s1 s2 s3 s4 s5 s6 s7 s8 s9 s10 t_4.2 q_20 h_20) (wX10_98 1 hts ⟨Nat.le_of_ble_eq_true rfl, Nat.le_of_ble_eq_true rfl⟩) ⟨pg_20.1, va_recv hK hw.1 (ci := 4) (q0 := 4) rfl eC_4, pg_20.2⟩ rfl rfl hl.1 rfl (lv_room (Nat.le_of_ble_eq_true rfl)) dX10_firstNotSo_20 ⟨Nat.le_refl _, Nat.le_refl _⟩) hw.2.2 (afr_in hw.2.2) (fun H locs hw => ?_)
        refine lv_if_eq (tgt := 100) hx hb dX10_firstNotSo_23 (by decide) (fun c_23 => ?_) (fun c_23 => ?_)
        · have h := ite_t c_23 h
          exact hJ_100 t_4.1 t_4.2 H locs ls h hw (lv_sub hl [3, 2, 0, 1] rfl)
        · have h := ite_f c_23 h
          refine lv_iload_n hx hb dX10_firstNotSo_26 rfl (lv_at hl 0 rfl) ?_
          refine lv_iload_n hx hb dX10_firstNotSo_27 rfl (lv_at hl 2 rfl) ?_
          refine lv_icmp_lt (tgt := 33) hx hb dX10_firstNotSo_28 (by decide) (fun c_28 => ?_) (fun c_28 => ?_)
          · have h := ite_t c_28 h
            refine lv_aload_n hx hb dX10_firstNotSo_33 rfl (lv_at hl 3 rfl) ?_
            refine gX10_16 hx hb hts hown hK hw dX10_firstNotSo_34 ?_
            refine lv_iload_n hx hb dX10_firstNotSo_37 rfl (lv_at hl 0 rfl) ?_
            obtain ⟨q_38, h_38, h⟩ := bnd_e h
            have pg_38 := preG (av := [.ref (ad 8), .int t_4.1]) hK hw.1 hw.2.1 (NC_keep hN hw.2.2) NC_blind
            refine endI (mc := 0) (ms := 0) (va_runV (As := [.int t_4.1]) (rest := []) ⟨hx, hb, hml, hown, hts⟩ (m8_number l D ad cy H.size s0 s1 s2 s3 s4 s5 s6 s7 s8 s9 s10 t_4.1 q_38 h_38) (wX10_143 1 hts ⟨Nat.le_of_ble_eq_true rfl, Nat.le_of_ble_eq_true rfl⟩) ⟨pg_38.1, va_recv hK hw.1 (ci := 8) (q0 := 8) rfl eC_8, pg_38.2⟩ rfl rfl hl.1 rfl (lv_room (Nat.le_of_ble_eq_true rfl)) dX10_firstNotSo_38 ⟨Nat.le_refl _, Nat.le_refl _⟩) hw.2.2 (afr_in hw.2.2) (fun H locs hw => ?_)
            refine lv_iload_n hx hb dX10_firstNotSo_41 rfl (lv_at hl 1 rfl) ?_
            refine lv_icmp_eq (tgt := 47) hx hb dX10_firstNotSo_42 (by decide) (fun c_42 => ?_) (fun c_42 => ?_)
            · have h := ite_t c_42 h
              refine lv_aload_n hx hb dX10_firstNotSo_47 rfl (lv_at hl 3 rfl) ?_
              refine gX10_16 hx hb hts hown hK hw dX10_firstNotSo_48 ?_
              refine lv_iload_n hx hb dX10_firstNotSo_51 rfl (lv_at hl 0 rfl) ?_
              refine lv_iconst (v := 1) hx hb dX10_firstNotSo_52 (by decide) ?_
              refine lv_iadd hx hb dX10_firstNotSo_53 ?_
              obtain ⟨q_54, h_54, h⟩ := bnd_e h
              have pg_54 := preG (av := [.ref (ad 8), .int ((t_4.1 + (1 : Int32)))]) hK hw.1 hw.2.1 (NC_keep hN hw.2.2) NC_blind
              refine endI (mc := 0) (ms := 0) (va_runV (As := [.int ((t_4.1 + (1 : Int32)))]) (rest := []) ⟨hx, hb, hml, hown, hts⟩ (m8_number l D ad cy H.size s0 s1 s2 s3 s4 s5 s6 s7 s8 s9 s10 ((t_4.1 + (1 : Int32))) q_54 h_54) (wX10_143 1 hts ⟨Nat.le_of_ble_eq_true rfl, Nat.le_of_ble_eq_true rfl⟩) ⟨pg_54.1, va_recv hK hw.1 (ci := 8) (q0 := 8) rfl eC_8, pg_54.2⟩ rfl rfl hl.1 rfl (lv_room (Nat.le_of_ble_eq_true rfl)) dX10_firstNotSo_54 ⟨Nat.le_refl _, Nat.le_refl _⟩) hw.2.2 (afr_in hw.2.2) (fun H locs hw => ?_)
              refine lv_aload_n hx hb dX10_firstNotSo_57 rfl (lv_at hl 3 rfl) ?_
              refine gX10_23 hx hb hts hown hK hw dX10_firstNotSo_58 ?_
              refine lv_iload_n hx hb dX10_firstNotSo_61 rfl (lv_at hl 1 rfl) ?_
              obtain ⟨q_62, h_62, h⟩ := bnd_e h
              have pg_62 := preG (av := [.ref (ad 4), .int t_4.2]) hK hw.1 hw.2.1 (NC_keep hN hw.2.2) NC_blind
              refine endI (mc := 0) (ms := 0) (va_runV (As := [.int t_4.2]) (rest := [.int q_54]) ⟨hx, hb, hml, hown, hts⟩ (m4_placeOf l D ad cy H.size s0 s1 s2 s3 s4 s5 s6 s7 s8 s9 s10 t_4.2 q_62 h_62) (wX10_116 1 hts ⟨Nat.le_of_ble_eq_true rfl, Nat.le_of_ble_eq_true rfl⟩) ⟨pg_62.1, va_recv hK hw.1 (ci := 4) (q0 := 4) rfl eC_4, pg_62.2⟩ rfl rfl hl.1 rfl (lv_room (Nat.le_of_ble_eq_true rfl)) dX10_firstNotSo_62 ⟨Nat.le_refl _, Nat.le_refl _⟩) hw.2.2 (afr_in hw.2.2) (fun H locs hw => ?_)
              refine lv_icmp_eq (tgt := 72) hx hb dX10_firstNotSo_65 (by decide) (fun c_65 => ?_) (fun c_65 => ?_)
              · have h := ite_t c_65 h
                refine lv_aload_n hx hb dX10_firstNotSo_72 rfl (lv_at hl 3 rfl) ?_
                refine gX10_16 hx hb hts hown hK hw dX10_firstNotSo_73 ?_
                refine lv_iload_n hx hb dX10_firstNotSo_76 rfl (lv_at hl 0 rfl) ?_
                refine lv_iconst (v := 2) hx hb dX10_firstNotSo_77 (by decide) ?_
                refine lv_iadd hx hb dX10_firstNotSo_78 ?_
                obtain ⟨q_79, h_79, h⟩ := bnd_e h
                have pg_79 := preG (av := [.ref (ad 8), .int ((t_4.1 + (2 : Int32)))]) hK hw.1 hw.2.1 (NC_keep hN hw.2.2) NC_blind
                refine endI (mc := 0) (ms := 0) (va_runV (As := [.int ((t_4.1 + (2 : Int32)))]) (rest := []) ⟨hx, hb, hml, hown, hts⟩ (m8_number l D ad cy H.size s0 s1 s2 s3 s4 s5 s6 s7 s8 s9 s10 ((t_4.1 + (2 : Int32))) q_79 h_79) (wX10_143 1 hts ⟨Nat.le_of_ble_eq_true rfl, Nat.le_of_ble_eq_true rfl⟩) ⟨pg_79.1, va_recv hK hw.1 (ci := 8) (q0 := 8) rfl eC_8, pg_79.2⟩ rfl rfl hl.1 rfl (lv_room (Nat.le_of_ble_eq_true rfl)) dX10_firstNotSo_79 ⟨Nat.le_refl _, Nat.le_refl _⟩) hw.2.2 (afr_in hw.2.2) (fun H locs hw => ?_)
                refine lv_aload_n hx hb dX10_firstNotSo_82 rfl (lv_at hl 3 rfl) ?_
                refine gX10_23 hx hb hts hown hK hw dX10_firstNotSo_83 ?_
                refine lv_iload_n hx hb dX10_firstNotSo_86 rfl (lv_at hl 1 rfl) ?_
                obtain ⟨q_87, h_87, h⟩ := bnd_e h
                have pg_87 := preG (av := [.ref (ad 4), .int t_4.2]) hK hw.1 hw.2.1 (NC_keep hN hw.2.2) NC_blind
                refine endI (mc := 0) (ms := 0) (va_runV (As := [.int t_4.2]) (rest := [.int q_79]) ⟨hx, hb, hml, hown, hts⟩ (m4_weightOf l D ad cy H.size s0 s1 s2 s3 s4 s5 s6 s7 s8 s9 s10 t_4.2 q_87 h_87) (wX10_104 1 hts ⟨Nat.le_of_ble_eq_true rfl, Nat.le_of_ble_eq_true rfl⟩) ⟨pg_87.1, va_recv hK hw.1 (ci := 4) (q0 := 4) rfl eC_4, pg_87.2⟩ rfl rfl hl.1 rfl (lv_room (Nat.le_of_ble_eq_true rfl)) dX10_firstNotSo_87 ⟨Nat.le_refl _, Nat.le_refl _⟩) hw.2.2 (afr_in hw.2.2) (fun H locs hw => ?_)
                refine lv_icmp_eq (tgt := 97) hx hb dX10_firstNotSo_90 (by decide) (fun c_90 => ?_) (fun c_90 => ?_)
                · have h := ite_t c_90 h
                  obtain ⟨n_97, e_97, h⟩ := nam_e h
                  refine lv_iinc (v := n_97) (lv' := [(2, .int n_97), (3, .int t_4.2), (1, .int a1), (0, .ref (ad 10))]) hx hb dX10_firstNotSo_97 hl (k := 0) rfl (by rw [e_97]; rfl) (by decide) rfl (fun ls hl => ?_)
                  exact hJ_100 n_97 t_4.2 H locs ls h hw (lv_sub hl [3, 2, 0, 1] rfl)
                · have h := ite_f c_90 h
                  have h := nx_m hx_4 h
                  refine lv_iload_n hx hb dX10_firstNotSo_93 rfl (lv_at hl 0 rfl) ?_
                  refine lv_iconst (v := 2) hx hb dX10_firstNotSo_94 (by decide) ?_
                  refine lv_iadd hx hb dX10_firstNotSo_95 ?_
                  have h := Option.some.inj h
                  subst h
                  rw [← hQ]
                  exact retI hx hb hr hlk hw rfl dX10_firstNotSo_96
              · have h := ite_f c_65 h
                have h := nx_m hx_4 h
                refine lv_iload_n hx hb dX10_firstNotSo_68 rfl (lv_at hl 0 rfl) ?_
                refine lv_iconst (v := 1) hx hb dX10_firstNotSo_69 (by decide) ?_
                refine lv_iadd hx hb dX10_firstNotSo_70 ?_
                have h := Option.some.inj h
                subst h
                rw [← hQ]
                exact retI hx hb hr hlk hw rfl dX10_firstNotSo_71
            · have h := ite_f c_42 h
              have h := nx_m hx_4 h
              refine lv_iload_n hx hb dX10_firstNotSo_45 rfl (lv_at hl 0 rfl) ?_
              have h := Option.some.inj h
              subst h
              rw [← hQ]
              exact retI hx hb hr hlk hw rfl dX10_firstNotSo_46
          · have h := ite_f c_28 h
            have h := nx_m hx_4 h
            refine lv_iload_n hx hb dX10_firstNotSo_31 rfl (lv_at hl 2 rfl) ?_
            have h := Option.some.inj h
            subst h
            rw [← hQ]
            exact retI hx hb hr hlk hw rfl dX10_firstNotSo_32
  exact hL_4 n_4 ((0 : Int32), (0 : Int32)) H locs ls hn_4 hw (lv_sub hl [1, 0, 3, 2] rfl)
theorem dX10_check_0 : decode cX10_check 0 = .ok (.iload_n 1, 1) := by decide +kernel
theorem dX10_check_1 : decode cX10_check 1 = .ok (.iconst 0, 1) := by decide +kernel
theorem dX10_check_2 : decode cX10_check 2 = .ok (.sipush 400, 3) := by decide +kernel
theorem dX10_check_5 : decode cX10_check 5 = .ok (.invokestatic 86, 3) := by decide +kernel
theorem dX10_check_8 : decode cX10_check 8 = .ok (.ifCond .eq 16, 3) := by decide +kernel
theorem dX10_check_11 : decode cX10_check 11 = .ok (.aload_n 0, 1) := by decide +kernel
theorem dX10_check_12 : decode cX10_check 12 = .ok (.getfield 16, 3) := by decide +kernel
theorem dX10_check_15 : decode cX10_check 15 = .ok (.iconst 3, 1) := by decide +kernel
theorem dX10_check_16 : decode cX10_check 16 = .ok (.iload_n 1, 1) := by decide +kernel
theorem dX10_check_17 : decode cX10_check 17 = .ok (.imul, 1) := by decide +kernel
theorem dX10_check_18 : decode cX10_check 18 = .ok (.invokevirtual 133, 3) := by decide +kernel
theorem dX10_check_21 : decode cX10_check 21 = .ok (.ifCond .ne 6, 3) := by decide +kernel
theorem dX10_check_24 : decode cX10_check 24 = .ok (.bipush (-2), 2) := by decide +kernel
theorem dX10_check_26 : decode cX10_check 26 = .ok (.ireturn, 1) := by decide +kernel
theorem dX10_check_27 : decode cX10_check 27 = .ok (.aload_n 0, 1) := by decide +kernel
theorem dX10_check_28 : decode cX10_check 28 = .ok (.iconst 3, 1) := by decide +kernel
theorem dX10_check_29 : decode cX10_check 29 = .ok (.iload_n 1, 1) := by decide +kernel
theorem dX10_check_30 : decode cX10_check 30 = .ok (.imul, 1) := by decide +kernel
theorem dX10_check_31 : decode cX10_check 31 = .ok (.invokevirtual 342, 3) := by decide +kernel
theorem dX10_check_34 : decode cX10_check 34 = .ok (.istore_n 2, 1) := by decide +kernel
theorem dX10_check_35 : decode cX10_check 35 = .ok (.aload_n 0, 1) := by decide +kernel
theorem dX10_check_36 : decode cX10_check 36 = .ok (.getfield 16, 3) := by decide +kernel
theorem dX10_check_39 : decode cX10_check 39 = .ok (.invokevirtual 140, 3) := by decide +kernel
theorem dX10_check_42 : decode cX10_check 42 = .ok (.iload_n 2, 1) := by decide +kernel
theorem dX10_check_43 : decode cX10_check 43 = .ok (.ireturn, 1) := by decide +kernel
noncomputable def f10_check_j24 (s8_j24 : OS) (s4_j24 : OS) : Option (Int32 × OS) := some ((-2 : Int32), s8_j24)
noncomputable def f10_check (a1 : Int32) (s4 : OS) (s8 : OS) : Option (Int32 × OS) := Option.bind (f10_isWithin a1 ((0 : Int32)) ((400 : Int32))) fun q_5 => if q_5 = 0 then (f10_check_j24 s8 s4) else (Option.bind (f8_hasNumbers (((3 : Int32) * a1)) s8) fun q_18 => if q_18 = 0 then (f10_check_j24 s8 s4) else (Option.bind (f10_firstNotSo (((3 : Int32) * a1)) s4 s8) fun q_31 => Option.bind (f8_wipe s8) fun q_39 => some (q_31, q_39)))
set_option maxHeartbeats 4000000 in
set_option maxRecDepth 100000 in
theorem m10_check (l : Launch) (D : va_G) (ad : Nat → Nat) (cy : Nat → ClassId) (sz : Nat) (s0 s1 s2 s3 s4 s5 s6 s7 s8 s9 s10 : OS) (a1 : Int32) (r : Int32 × OS) (h : f10_check a1 s4 s8 = some r) : Met l yX10_check (wsOf yX10_check cX10_check 3 (some .int)) (rmL 3) (va_Pc ([.ref (ad 10), .int a1] : List Value) (PreG D cy (cellsC ad cy s0 s1 s2 s3 s4 s5 s6 s7 s8 s9 s10) sz (NC ad))) (QcI D ad 67 (cellsC ad cy s0 s1 s2 s3 s4 s5 s6 s7 r.2 s9 s10) (r.1) sz) 0 0 (Afr ad 67 sz) := by
  refine metG (own := RX10) (by decide) rfl (Nat.le_of_ble_eq_true rfl) fstC ?_ sz
  intro p e s m below meth c ls C0 hw hl
  obtain ⟨hx, hb, hml, hown, hts, hr, hlk, hK, hN⟩ := C0
  have hl : lv_has ls 3 [(0, .ref (ad 10)), (1, .int a1)] := hl
  generalize hQ : MQ below (QcI D ad 67 (cellsC ad cy s0 s1 s2 s3 s4 s5 s6 s7 r.2 s9 s10) (r.1) s.heap.size) ([.ref (ad 10), .int a1] : List Value).toArray s 0 0 (Afr ad 67 s.heap.size) = Q
  obtain ⟨H, hH⟩ : ∃ H : Heap, H = s.heap := ⟨_, rfl⟩
  obtain ⟨locs, hlc⟩ : ∃ L : List Loc, L = [] := ⟨_, rfl⟩
  have hw : Wd D (cellsC ad cy s0 s1 s2 s3 s4 s5 s6 s7 s8 s9 s10) (Afr ad 67 s.heap.size) s.heap H locs := by rw [hH, hlc]; exact hw
  suffices h0 : W p l e (rmL 3) s m ([.ref (ad 10), .int a1] : List Value).toArray below meth c H locs 0 0 Q (F0 m 0 ls []) by rw [hH, hlc] at h0; exact h0
  clear hH hlc
  unfold f10_check at h
  have hJ_24 : ∀ (s8_j24 : OS) (H : Heap) (locs : List Loc) (ls : Array Slot), f10_check_j24 s8_j24 s4 = some r → Wd D (cellsC ad cy s0 s1 s2 s3 s4 s5 s6 s7 s8_j24 s9 s10) (Afr ad 67 s.heap.size) s.heap H locs → lv_has ls 3 [] → W p l e (rmL 3) s m ([.ref (ad 10), .int a1] : List Value).toArray below meth c H locs 0 0 Q (F0 m 24 ls []) := by
    intro s8_j24 H locs ls h hw hl
    unfold f10_check_j24 at h
    refine lv_bipush (v := (-2)) hx hb dX10_check_24 (by decide) ?_
    have h := Option.some.inj h
    subst h
    rw [← hQ]
    exact retI hx hb hr hlk hw rfl dX10_check_26
  refine lv_iload_n hx hb dX10_check_0 rfl (lv_at hl 1 rfl) ?_
  refine lv_iconst (v := 0) hx hb dX10_check_1 (by decide) ?_
  refine lv_sipush (v := 400) hx hb dX10_check_2 (by decide) ?_
  obtain ⟨q_5, h_5, h⟩ := bnd_e h
  have pg_5 := preG (av := [.int a1, .int ((0 : Int32)), .int ((400 : Int32))]) hK hw.1 hw.2.1 (NC_keep hN hw.2.2) NC_blind
  refine endI (mc := 0) (ms := 0) (va_runS (As := [.int a1, .int ((0 : Int32)), .int ((400 : Int32))]) (rest := []) ⟨hx, hb, hml, hown, hts⟩ (m10_isWithin l D ad cy H.size s0 s1 s2 s3 s4 s5 s6 s7 s8 s9 s10 a1 ((0 : Int32)) ((400 : Int32)) q_5 h_5) (wX10_86 0 hts ⟨Nat.le_of_ble_eq_true rfl, Nat.le_of_ble_eq_true rfl⟩) pg_5 rfl rfl hl.1 rfl (lv_room (Nat.le_of_ble_eq_true rfl)) dX10_check_5 ⟨Nat.le_refl _, Nat.le_refl _⟩) hw.2.2 (afr_in hw.2.2) (fun H locs hw => ?_)
  refine lv_if_eq (tgt := 24) hx hb dX10_check_8 (by decide) (fun c_8 => ?_) (fun c_8 => ?_)
  · have h := ite_t c_8 h
    exact hJ_24 s8 H locs ls h hw (lv_sub hl [] rfl)
  · have h := ite_f c_8 h
    refine lv_aload_n hx hb dX10_check_11 rfl (lv_at hl 0 rfl) ?_
    refine gX10_16 hx hb hts hown hK hw dX10_check_12 ?_
    refine lv_iconst (v := 3) hx hb dX10_check_15 (by decide) ?_
    refine lv_iload_n hx hb dX10_check_16 rfl (lv_at hl 1 rfl) ?_
    refine lv_imul hx hb dX10_check_17 ?_
    obtain ⟨q_18, h_18, h⟩ := bnd_e h
    have pg_18 := preG (av := [.ref (ad 8), .int (((3 : Int32) * a1))]) hK hw.1 hw.2.1 (NC_keep hN hw.2.2) NC_blind
    refine endI (mc := 0) (ms := 0) (va_runV (As := [.int (((3 : Int32) * a1))]) (rest := []) ⟨hx, hb, hml, hown, hts⟩ (m8_hasNumbers l D ad cy H.size s0 s1 s2 s3 s4 s5 s6 s7 s8 s9 s10 (((3 : Int32) * a1)) q_18 h_18) (wX10_133 0 hts ⟨Nat.le_of_ble_eq_true rfl, Nat.le_of_ble_eq_true rfl⟩) ⟨pg_18.1, va_recv hK hw.1 (ci := 8) (q0 := 8) rfl eC_8, pg_18.2⟩ rfl rfl hl.1 rfl (lv_room (Nat.le_of_ble_eq_true rfl)) dX10_check_18 ⟨Nat.le_refl _, Nat.le_refl _⟩) hw.2.2 (afr_in hw.2.2) (fun H locs hw => ?_)
    refine lv_if_ne (tgt := 27) hx hb dX10_check_21 (by decide) (fun c_21 => ?_) (fun c_21 => ?_)
    · have h := ite_f c_21 h
      refine lv_aload_n hx hb dX10_check_27 rfl (lv_at hl 0 rfl) ?_
      refine lv_iconst (v := 3) hx hb dX10_check_28 (by decide) ?_
      refine lv_iload_n hx hb dX10_check_29 rfl (lv_at hl 1 rfl) ?_
      refine lv_imul hx hb dX10_check_30 ?_
      obtain ⟨q_31, h_31, h⟩ := bnd_e h
      have pg_31 := preG (av := [.ref (ad 10), .int (((3 : Int32) * a1))]) hK hw.1 hw.2.1 (NC_keep hN hw.2.2) NC_blind
      refine endI (mc := 0) (ms := 0) (va_runV (As := [.int (((3 : Int32) * a1))]) (rest := []) ⟨hx, hb, hml, hown, hts⟩ (m10_firstNotSo l D ad cy H.size s0 s1 s2 s3 s4 s5 s6 s7 s8 s9 s10 (((3 : Int32) * a1)) q_31 h_31) (wX10_342 2 hts ⟨Nat.le_of_ble_eq_true rfl, Nat.le_of_ble_eq_true rfl⟩) ⟨pg_31.1, va_recv hK hw.1 (ci := 10) (q0 := 10) rfl eC_10, pg_31.2⟩ rfl rfl hl.1 rfl (lv_room (Nat.le_of_ble_eq_true rfl)) dX10_check_31 ⟨Nat.le_refl _, Nat.le_refl _⟩) hw.2.2 (afr_in hw.2.2) (fun H locs hw => ?_)
      refine lv_istore_n (lv' := [(2, .int q_31), (0, .ref (ad 10)), (1, .int a1)]) hx hb dX10_check_34 rfl hl (by decide) rfl (fun ls hl => ?_)
      refine lv_aload_n hx hb dX10_check_35 rfl (lv_at hl 1 rfl) ?_
      refine gX10_16 hx hb hts hown hK hw dX10_check_36 ?_
      obtain ⟨q_39, h_39, h⟩ := bnd_e h
      have pg_39 := preG (av := [.ref (ad 8)]) hK hw.1 hw.2.1 (NC_keep hN hw.2.2) NC_blind
      refine endV (mc := 0) (ms := 0) (va_runV (As := []) (rest := []) ⟨hx, hb, hml, hown, hts⟩ (m8_wipe l D ad cy H.size s0 s1 s2 s3 s4 s5 s6 s7 s8 s9 s10 q_39 h_39) (wX10_140 0 hts ⟨Nat.le_of_ble_eq_true rfl, Nat.le_of_ble_eq_true rfl⟩) ⟨pg_39.1, va_recv hK hw.1 (ci := 8) (q0 := 8) rfl eC_8, pg_39.2⟩ rfl rfl hl.1 rfl (lv_room (Nat.le_of_ble_eq_true rfl)) dX10_check_39 ⟨Nat.le_refl _, Nat.le_refl _⟩) hw.2.2 (afr_in hw.2.2) (fun H locs hw => ?_)
      refine lv_iload_n hx hb dX10_check_42 rfl (lv_at hl 0 rfl) ?_
      have h := Option.some.inj h
      subst h
      rw [← hQ]
      exact retI hx hb hr hlk hw rfl dX10_check_43
    · have h := ite_t c_21 h
      exact hJ_24 s8 H locs ls h hw (lv_sub hl [] rfl)
theorem dX10_clear_0 : decode cX10_clear 0 = .ok (.aload_n 0, 1) := by decide +kernel
theorem dX10_clear_1 : decode cX10_clear 1 = .ok (.getfield 65, 3) := by decide +kernel
theorem dX10_clear_4 : decode cX10_clear 4 = .ok (.invokevirtual 308, 3) := by decide +kernel
theorem dX10_clear_7 : decode cX10_clear 7 = .ok (.ireturn, 1) := by decide +kernel
def f10_clear (s0 : OS) : Option (Int32 × OS) := Option.bind (f0_putAway s0) fun q_4 => some (q_4.1, q_4.2)
set_option maxHeartbeats 4000000 in
set_option maxRecDepth 100000 in
theorem m10_clear (l : Launch) (D : va_G) (ad : Nat → Nat) (cy : Nat → ClassId) (sz : Nat) (s0 s1 s2 s3 s4 s5 s6 s7 s8 s9 s10 : OS) (r : Int32 × OS) (h : f10_clear s0 = some r) : Met l yX10_clear (wsOf yX10_clear cX10_clear 1 (some .int)) (rmL 1) (va_Pc ([.ref (ad 10)] : List Value) (PreG D cy (cellsC ad cy s0 s1 s2 s3 s4 s5 s6 s7 s8 s9 s10) sz (NC ad))) (QcI D ad 67 (cellsC ad cy r.2 s1 s2 s3 s4 s5 s6 s7 s8 s9 s10) (r.1) sz) 0 0 (Afr ad 67 sz) := by
  refine metG (own := RX10) (by decide) rfl (Nat.le_of_ble_eq_true rfl) fstC ?_ sz
  intro p e s m below meth c ls C0 hw hl
  obtain ⟨hx, hb, hml, hown, hts, hr, hlk, hK, hN⟩ := C0
  have hl : lv_has ls 1 [(0, .ref (ad 10))] := hl
  generalize hQ : MQ below (QcI D ad 67 (cellsC ad cy r.2 s1 s2 s3 s4 s5 s6 s7 s8 s9 s10) (r.1) s.heap.size) ([.ref (ad 10)] : List Value).toArray s 0 0 (Afr ad 67 s.heap.size) = Q
  obtain ⟨H, hH⟩ : ∃ H : Heap, H = s.heap := ⟨_, rfl⟩
  obtain ⟨locs, hlc⟩ : ∃ L : List Loc, L = [] := ⟨_, rfl⟩
  have hw : Wd D (cellsC ad cy s0 s1 s2 s3 s4 s5 s6 s7 s8 s9 s10) (Afr ad 67 s.heap.size) s.heap H locs := by rw [hH, hlc]; exact hw
  suffices h0 : W p l e (rmL 1) s m ([.ref (ad 10)] : List Value).toArray below meth c H locs 0 0 Q (F0 m 0 ls []) by rw [hH, hlc] at h0; exact h0
  clear hH hlc
  unfold f10_clear at h
  refine lv_aload_n hx hb dX10_clear_0 rfl (lv_at hl 0 rfl) ?_
  refine gX10_65 hx hb hts hown hK hw dX10_clear_1 ?_
  obtain ⟨q_4, h_4, h⟩ := bnd_e h
  have pg_4 := preG (av := [.ref (ad 0)]) hK hw.1 hw.2.1 (NC_keep hN hw.2.2) NC_blind
  refine endI (mc := 0) (ms := 0) (va_runV (As := []) (rest := []) ⟨hx, hb, hml, hown, hts⟩ (m0_putAway l D ad cy H.size s0 s1 s2 s3 s4 s5 s6 s7 s8 s9 s10 q_4 h_4) (wX10_308 0 hts ⟨Nat.le_of_ble_eq_true rfl, Nat.le_of_ble_eq_true rfl⟩) ⟨pg_4.1, va_recv hK hw.1 (ci := 0) (q0 := 0) rfl eC_0, pg_4.2⟩ rfl rfl hl.1 rfl (lv_room (Nat.le_of_ble_eq_true rfl)) dX10_clear_4 ⟨Nat.le_refl _, Nat.le_refl _⟩) hw.2.2 (afr_in hw.2.2) (fun H locs hw => ?_)
  have h := Option.some.inj h
  subst h
  rw [← hQ]
  exact retI hx hb hr hlk hw rfl dX10_clear_7
theorem dX10_gasOf_0 : decode cX10_gasOf 0 = .ok (.iload_n 1, 1) := by decide +kernel
theorem dX10_gasOf_1 : decode cX10_gasOf 1 = .ok (.invokestatic 77, 3) := by decide +kernel
theorem dX10_gasOf_4 : decode cX10_gasOf 4 = .ok (.ifCond .eq 12, 3) := by decide +kernel
theorem dX10_gasOf_7 : decode cX10_gasOf 7 = .ok (.aload_n 0, 1) := by decide +kernel
theorem dX10_gasOf_8 : decode cX10_gasOf 8 = .ok (.getfield 9, 3) := by decide +kernel
theorem dX10_gasOf_11 : decode cX10_gasOf 11 = .ok (.iload_n 1, 1) := by decide +kernel
theorem dX10_gasOf_12 : decode cX10_gasOf 12 = .ok (.iaload, 1) := by decide +kernel
theorem dX10_gasOf_13 : decode cX10_gasOf 13 = .ok (.goto 4, 3) := by decide +kernel
theorem dX10_gasOf_16 : decode cX10_gasOf 16 = .ok (.iconst (-1), 1) := by decide +kernel
theorem dX10_gasOf_17 : decode cX10_gasOf 17 = .ok (.ireturn, 1) := by decide +kernel
def f10_gasOf_j17 (k0_j17 : Int32) (s10_j17 : OS) : Option (Int32) := some k0_j17
def f10_gasOf (a1 : Int32) (s10 : OS) : Option (Int32) := Option.bind (f10_isCabinet a1) fun q_1 => if q_1 = 0 then (f10_gasOf_j17 ((-1 : Int32)) s10) else (chk (inb a1 10) (nm (s10.1 1 a1.toNatClampNeg) fun y_12 => f10_gasOf_j17 y_12 s10))
set_option maxHeartbeats 4000000 in
set_option maxRecDepth 100000 in
theorem m10_gasOf (l : Launch) (D : va_G) (ad : Nat → Nat) (cy : Nat → ClassId) (sz : Nat) (s0 s1 s2 s3 s4 s5 s6 s7 s8 s9 s10 : OS) (a1 : Int32) (r : Int32) (h : f10_gasOf a1 s10 = some r) : Met l yX10_gasOf (wsOf yX10_gasOf cX10_gasOf 2 (some .int)) (rmL 2) (va_Pc ([.ref (ad 10), .int a1] : List Value) (PreG D cy (cellsC ad cy s0 s1 s2 s3 s4 s5 s6 s7 s8 s9 s10) sz (NC ad))) (QcI D ad 67 (cellsC ad cy s0 s1 s2 s3 s4 s5 s6 s7 s8 s9 s10) (r) sz) 0 0 (Afr ad 67 sz) := by
  refine metG (own := RX10) (by decide) rfl (Nat.le_of_ble_eq_true rfl) fstC ?_ sz
  intro p e s m below meth c ls C0 hw hl
  obtain ⟨hx, hb, hml, hown, hts, hr, hlk, hK, hN⟩ := C0
  have hl : lv_has ls 2 [(0, .ref (ad 10)), (1, .int a1)] := hl
  generalize hQ : MQ below (QcI D ad 67 (cellsC ad cy s0 s1 s2 s3 s4 s5 s6 s7 s8 s9 s10) (r) s.heap.size) ([.ref (ad 10), .int a1] : List Value).toArray s 0 0 (Afr ad 67 s.heap.size) = Q
  obtain ⟨H, hH⟩ : ∃ H : Heap, H = s.heap := ⟨_, rfl⟩
  obtain ⟨locs, hlc⟩ : ∃ L : List Loc, L = [] := ⟨_, rfl⟩
  have hw : Wd D (cellsC ad cy s0 s1 s2 s3 s4 s5 s6 s7 s8 s9 s10) (Afr ad 67 s.heap.size) s.heap H locs := by rw [hH, hlc]; exact hw
  suffices h0 : W p l e (rmL 2) s m ([.ref (ad 10), .int a1] : List Value).toArray below meth c H locs 0 0 Q (F0 m 0 ls []) by rw [hH, hlc] at h0; exact h0
  clear hH hlc
  unfold f10_gasOf at h
  have hJ_17 : ∀ (k0_j17 : Int32) (H : Heap) (locs : List Loc) (ls : Array Slot), f10_gasOf_j17 k0_j17 s10 = some r → Wd D (cellsC ad cy s0 s1 s2 s3 s4 s5 s6 s7 s8 s9 s10) (Afr ad 67 s.heap.size) s.heap H locs → lv_has ls 2 [] → W p l e (rmL 2) s m ([.ref (ad 10), .int a1] : List Value).toArray below meth c H locs 0 0 Q (F0 m 17 ls [.int k0_j17]) := by
    intro k0_j17 H locs ls h hw hl
    unfold f10_gasOf_j17 at h
    have h := Option.some.inj h
    subst h
    rw [← hQ]
    exact retI hx hb hr hlk hw rfl dX10_gasOf_17
  refine lv_iload_n hx hb dX10_gasOf_0 rfl (lv_at hl 1 rfl) ?_
  obtain ⟨q_1, h_1, h⟩ := bnd_e h
  have pg_1 := preG (av := [.int a1]) hK hw.1 hw.2.1 (NC_keep hN hw.2.2) NC_blind
  refine endI (mc := 0) (ms := 0) (va_runS (As := [.int a1]) (rest := []) ⟨hx, hb, hml, hown, hts⟩ (m10_isCabinet l D ad cy H.size s0 s1 s2 s3 s4 s5 s6 s7 s8 s9 s10 a1 q_1 h_1) (wX10_77 1 hts ⟨Nat.le_of_ble_eq_true rfl, Nat.le_of_ble_eq_true rfl⟩) pg_1 rfl rfl hl.1 rfl (lv_room (Nat.le_of_ble_eq_true rfl)) dX10_gasOf_1 ⟨Nat.le_refl _, Nat.le_refl _⟩) hw.2.2 (afr_in hw.2.2) (fun H locs hw => ?_)
  refine lv_if_eq (tgt := 16) hx hb dX10_gasOf_4 (by decide) (fun c_4 => ?_) (fun c_4 => ?_)
  · have h := ite_t c_4 h
    refine lv_iconst (v := (-1)) hx hb dX10_gasOf_16 (by decide) ?_
    exact hJ_17 ((-1 : Int32)) H locs ls h hw (lv_sub hl [] rfl)
  · have h := ite_f c_4 h
    refine lv_aload_n hx hb dX10_gasOf_7 rfl (lv_at hl 0 rfl) ?_
    refine gX10_9 hx hb hts hown hK hw dX10_gasOf_8 ?_
    refine lv_iload_n hx hb dX10_gasOf_11 rfl (lv_at hl 1 rfl) ?_
    obtain ⟨hi_12, h⟩ := chk_e h
    obtain ⟨y_12, e_12, h⟩ := nam_e h
    refine lC66 hx hb hK hw hi_12 e_12 dX10_gasOf_12 ?_
    refine lv_goto (tgt := 17) hx hb dX10_gasOf_13 (by decide) ?_
    exact hJ_17 y_12 H locs ls h hw (lv_sub hl [] rfl)
theorem dX10_count_0 : decode cX10_count 0 = .ok (.iload_n 1, 1) := by decide +kernel
theorem dX10_count_1 : decode cX10_count 1 = .ok (.bipush 20, 2) := by decide +kernel
theorem dX10_count_3 : decode cX10_count 3 = .ok (.bipush 39, 2) := by decide +kernel
theorem dX10_count_5 : decode cX10_count 5 = .ok (.invokestatic 86, 3) := by decide +kernel
theorem dX10_count_8 : decode cX10_count 8 = .ok (.ifCond .eq 15, 3) := by decide +kernel
theorem dX10_count_11 : decode cX10_count 11 = .ok (.aload_n 0, 1) := by decide +kernel
theorem dX10_count_12 : decode cX10_count 12 = .ok (.getfield 37, 3) := by decide +kernel
theorem dX10_count_15 : decode cX10_count 15 = .ok (.iload_n 1, 1) := by decide +kernel
theorem dX10_count_16 : decode cX10_count 16 = .ok (.bipush 20, 2) := by decide +kernel
theorem dX10_count_18 : decode cX10_count 18 = .ok (.isub, 1) := by decide +kernel
theorem dX10_count_19 : decode cX10_count 19 = .ok (.invokevirtual 345, 3) := by decide +kernel
theorem dX10_count_22 : decode cX10_count 22 = .ok (.ireturn, 1) := by decide +kernel
theorem dX10_count_23 : decode cX10_count 23 = .ok (.iload_n 1, 1) := by decide +kernel
theorem dX10_count_24 : decode cX10_count 24 = .ok (.bipush 40, 2) := by decide +kernel
theorem dX10_count_26 : decode cX10_count 26 = .ok (.bipush 49, 2) := by decide +kernel
theorem dX10_count_28 : decode cX10_count 28 = .ok (.invokestatic 86, 3) := by decide +kernel
theorem dX10_count_31 : decode cX10_count 31 = .ok (.ifCond .eq 12, 3) := by decide +kernel
theorem dX10_count_34 : decode cX10_count 34 = .ok (.aload_n 0, 1) := by decide +kernel
theorem dX10_count_35 : decode cX10_count 35 = .ok (.iload_n 1, 1) := by decide +kernel
theorem dX10_count_36 : decode cX10_count 36 = .ok (.bipush 40, 2) := by decide +kernel
theorem dX10_count_38 : decode cX10_count 38 = .ok (.isub, 1) := by decide +kernel
theorem dX10_count_39 : decode cX10_count 39 = .ok (.invokevirtual 119, 3) := by decide +kernel
theorem dX10_count_42 : decode cX10_count 42 = .ok (.ireturn, 1) := by decide +kernel
theorem dX10_count_43 : decode cX10_count 43 = .ok (.iload_n 1, 1) := by decide +kernel
theorem dX10_count_44 : decode cX10_count 44 = .ok (.tableswitch 133 0 9 #[56, 61, 69, 77, 85, 93, 101, 109, 117, 125], 56) := by decide +kernel
theorem dX10_count_100 : decode cX10_count 100 = .ok (.aload_n 0, 1) := by decide +kernel
theorem dX10_count_101 : decode cX10_count 101 = .ok (.getfield 69, 3) := by decide +kernel
theorem dX10_count_104 : decode cX10_count 104 = .ok (.ireturn, 1) := by decide +kernel
theorem dX10_count_105 : decode cX10_count 105 = .ok (.aload_n 0, 1) := by decide +kernel
theorem dX10_count_106 : decode cX10_count 106 = .ok (.getfield 23, 3) := by decide +kernel
theorem dX10_count_109 : decode cX10_count 109 = .ok (.invokevirtual 146, 3) := by decide +kernel
theorem dX10_count_112 : decode cX10_count 112 = .ok (.ireturn, 1) := by decide +kernel
theorem dX10_count_113 : decode cX10_count 113 = .ok (.aload_n 0, 1) := by decide +kernel
theorem dX10_count_114 : decode cX10_count 114 = .ok (.getfield 30, 3) := by decide +kernel
theorem dX10_count_117 : decode cX10_count 117 = .ok (.invokevirtual 348, 3) := by decide +kernel
theorem dX10_count_120 : decode cX10_count 120 = .ok (.ireturn, 1) := by decide +kernel
theorem dX10_count_121 : decode cX10_count 121 = .ok (.aload_n 0, 1) := by decide +kernel
theorem dX10_count_122 : decode cX10_count 122 = .ok (.getfield 37, 3) := by decide +kernel
theorem dX10_count_125 : decode cX10_count 125 = .ok (.invokevirtual 351, 3) := by decide +kernel
theorem dX10_count_128 : decode cX10_count 128 = .ok (.ireturn, 1) := by decide +kernel
theorem dX10_count_129 : decode cX10_count 129 = .ok (.aload_n 0, 1) := by decide +kernel
theorem dX10_count_130 : decode cX10_count 130 = .ok (.getfield 30, 3) := by decide +kernel
theorem dX10_count_133 : decode cX10_count 133 = .ok (.invokevirtual 352, 3) := by decide +kernel
theorem dX10_count_136 : decode cX10_count 136 = .ok (.ireturn, 1) := by decide +kernel
theorem dX10_count_137 : decode cX10_count 137 = .ok (.aload_n 0, 1) := by decide +kernel
theorem dX10_count_138 : decode cX10_count 138 = .ok (.getfield 44, 3) := by decide +kernel
theorem dX10_count_141 : decode cX10_count 141 = .ok (.invokevirtual 355, 3) := by decide +kernel
theorem dX10_count_144 : decode cX10_count 144 = .ok (.ireturn, 1) := by decide +kernel
theorem dX10_count_145 : decode cX10_count 145 = .ok (.aload_n 0, 1) := by decide +kernel
theorem dX10_count_146 : decode cX10_count 146 = .ok (.getfield 58, 3) := by decide +kernel
theorem dX10_count_149 : decode cX10_count 149 = .ok (.invokevirtual 356, 3) := by decide +kernel
theorem dX10_count_152 : decode cX10_count 152 = .ok (.ireturn, 1) := by decide +kernel
theorem dX10_count_153 : decode cX10_count 153 = .ok (.aload_n 0, 1) := by decide +kernel
theorem dX10_count_154 : decode cX10_count 154 = .ok (.getfield 58, 3) := by decide +kernel
theorem dX10_count_157 : decode cX10_count 157 = .ok (.invokevirtual 359, 3) := by decide +kernel
theorem dX10_count_160 : decode cX10_count 160 = .ok (.ireturn, 1) := by decide +kernel
theorem dX10_count_161 : decode cX10_count 161 = .ok (.aload_n 0, 1) := by decide +kernel
theorem dX10_count_162 : decode cX10_count 162 = .ok (.getfield 65, 3) := by decide +kernel
theorem dX10_count_165 : decode cX10_count 165 = .ok (.invokevirtual 362, 3) := by decide +kernel
theorem dX10_count_168 : decode cX10_count 168 = .ok (.ireturn, 1) := by decide +kernel
theorem dX10_count_169 : decode cX10_count 169 = .ok (.aload_n 0, 1) := by decide +kernel
theorem dX10_count_170 : decode cX10_count 170 = .ok (.getfield 16, 3) := by decide +kernel
theorem dX10_count_173 : decode cX10_count 173 = .ok (.invokevirtual 126, 3) := by decide +kernel
theorem dX10_count_176 : decode cX10_count 176 = .ok (.ireturn, 1) := by decide +kernel
theorem dX10_count_177 : decode cX10_count 177 = .ok (.iconst (-1), 1) := by decide +kernel
theorem dX10_count_178 : decode cX10_count 178 = .ok (.ireturn, 1) := by decide +kernel
def f10_count (a1 : Int32) (s0 : OS) (s2 : OS) (s4 : OS) (s5 : OS) (s7 : OS) (s8 : OS) (s9 : OS) (s10 : OS) : Option (Int32) := Option.bind (f10_isWithin a1 ((20 : Int32)) ((39 : Int32))) fun q_5 => if q_5 = 0 then (Option.bind (f10_isWithin a1 ((40 : Int32)) ((49 : Int32))) fun q_28 => if q_28 = 0 then (if a1 = 0 then (some ((s10.1 0 9))) else if a1 = 1 then (Option.bind (f4_size s4) fun q_109 => some q_109) else if a1 = 2 then (Option.bind (f2_askerCount s2) fun q_117 => some q_117) else if a1 = 3 then (Option.bind (f5_size s5) fun q_125 => some q_125) else if a1 = 4 then (Option.bind (f2_loanCount s2) fun q_133 => some q_133) else if a1 = 5 then (Option.bind (f7_size s7) fun q_141 => some q_141) else if a1 = 6 then (Option.bind (f9_giftCount s9) fun q_149 => some q_149) else if a1 = 7 then (Option.bind (f9_sightCount s9) fun q_157 => some q_157) else if a1 = 8 then (Option.bind (f0_size s0) fun q_165 => some q_165) else if a1 = 9 then (Option.bind (f8_length s8) fun q_173 => some q_173) else (some ((-1 : Int32)))) else (Option.bind (f10_gasOf ((a1 - (40 : Int32))) s10) fun q_39 => some q_39)) else (Option.bind (f5_clausesOf ((a1 - (20 : Int32))) s5) fun q_19 => some q_19)
set_option maxHeartbeats 4000000 in
set_option maxRecDepth 100000 in
theorem m10_count (l : Launch) (D : va_G) (ad : Nat → Nat) (cy : Nat → ClassId) (sz : Nat) (s0 s1 s2 s3 s4 s5 s6 s7 s8 s9 s10 : OS) (a1 : Int32) (r : Int32) (h : f10_count a1 s0 s2 s4 s5 s7 s8 s9 s10 = some r) : Met l yX10_count (wsOf yX10_count cX10_count 2 (some .int)) (rmL 3) (va_Pc ([.ref (ad 10), .int a1] : List Value) (PreG D cy (cellsC ad cy s0 s1 s2 s3 s4 s5 s6 s7 s8 s9 s10) sz (NC ad))) (QcI D ad 67 (cellsC ad cy s0 s1 s2 s3 s4 s5 s6 s7 s8 s9 s10) (r) sz) 0 0 (Afr ad 67 sz) := by
  refine metG (own := RX10) (by decide) rfl (Nat.le_of_ble_eq_true rfl) fstC ?_ sz
  intro p e s m below meth c ls C0 hw hl
  obtain ⟨hx, hb, hml, hown, hts, hr, hlk, hK, hN⟩ := C0
  have hl : lv_has ls 2 [(0, .ref (ad 10)), (1, .int a1)] := hl
  generalize hQ : MQ below (QcI D ad 67 (cellsC ad cy s0 s1 s2 s3 s4 s5 s6 s7 s8 s9 s10) (r) s.heap.size) ([.ref (ad 10), .int a1] : List Value).toArray s 0 0 (Afr ad 67 s.heap.size) = Q
  obtain ⟨H, hH⟩ : ∃ H : Heap, H = s.heap := ⟨_, rfl⟩
  obtain ⟨locs, hlc⟩ : ∃ L : List Loc, L = [] := ⟨_, rfl⟩
  have hw : Wd D (cellsC ad cy s0 s1 s2 s3 s4 s5 s6 s7 s8 s9 s10) (Afr ad 67 s.heap.size) s.heap H locs := by rw [hH, hlc]; exact hw
  suffices h0 : W p l e (rmL 3) s m ([.ref (ad 10), .int a1] : List Value).toArray below meth c H locs 0 0 Q (F0 m 0 ls []) by rw [hH, hlc] at h0; exact h0
  clear hH hlc
  unfold f10_count at h
  refine lv_iload_n hx hb dX10_count_0 rfl (lv_at hl 1 rfl) ?_
  refine lv_bipush (v := 20) hx hb dX10_count_1 (by decide) ?_
  refine lv_bipush (v := 39) hx hb dX10_count_3 (by decide) ?_
  obtain ⟨q_5, h_5, h⟩ := bnd_e h
  have pg_5 := preG (av := [.int a1, .int ((20 : Int32)), .int ((39 : Int32))]) hK hw.1 hw.2.1 (NC_keep hN hw.2.2) NC_blind
  refine endI (mc := 0) (ms := 0) (va_runS (As := [.int a1, .int ((20 : Int32)), .int ((39 : Int32))]) (rest := []) ⟨hx, hb, hml, hown, hts⟩ (m10_isWithin l D ad cy H.size s0 s1 s2 s3 s4 s5 s6 s7 s8 s9 s10 a1 ((20 : Int32)) ((39 : Int32)) q_5 h_5) (wX10_86 0 hts ⟨Nat.le_of_ble_eq_true rfl, Nat.le_of_ble_eq_true rfl⟩) pg_5 rfl rfl hl.1 rfl (lv_room (Nat.le_of_ble_eq_true rfl)) dX10_count_5 ⟨Nat.le_refl _, Nat.le_refl _⟩) hw.2.2 (afr_in hw.2.2) (fun H locs hw => ?_)
  refine lv_if_eq (tgt := 23) hx hb dX10_count_8 (by decide) (fun c_8 => ?_) (fun c_8 => ?_)
  · have h := ite_t c_8 h
    refine lv_iload_n hx hb dX10_count_23 rfl (lv_at hl 1 rfl) ?_
    refine lv_bipush (v := 40) hx hb dX10_count_24 (by decide) ?_
    refine lv_bipush (v := 49) hx hb dX10_count_26 (by decide) ?_
    obtain ⟨q_28, h_28, h⟩ := bnd_e h
    have pg_28 := preG (av := [.int a1, .int ((40 : Int32)), .int ((49 : Int32))]) hK hw.1 hw.2.1 (NC_keep hN hw.2.2) NC_blind
    refine endI (mc := 0) (ms := 0) (va_runS (As := [.int a1, .int ((40 : Int32)), .int ((49 : Int32))]) (rest := []) ⟨hx, hb, hml, hown, hts⟩ (m10_isWithin l D ad cy H.size s0 s1 s2 s3 s4 s5 s6 s7 s8 s9 s10 a1 ((40 : Int32)) ((49 : Int32)) q_28 h_28) (wX10_86 0 hts ⟨Nat.le_of_ble_eq_true rfl, Nat.le_of_ble_eq_true rfl⟩) pg_28 rfl rfl hl.1 rfl (lv_room (Nat.le_of_ble_eq_true rfl)) dX10_count_28 ⟨Nat.le_refl _, Nat.le_refl _⟩) hw.2.2 (afr_in hw.2.2) (fun H locs hw => ?_)
    refine lv_if_eq (tgt := 43) hx hb dX10_count_31 (by decide) (fun c_31 => ?_) (fun c_31 => ?_)
    · have h := ite_t c_31 h
      refine lv_iload_n hx hb dX10_count_43 rfl (lv_at hl 1 rfl) ?_
      have q_44 : ∀ tgt : Nat, W p l e (rmL 3) s m ([.ref (ad 10), .int a1] : List Value).toArray below meth c H locs 0 0 Q (F0 m tgt ls []) → W p l e (rmL 3) s m ([.ref (ad 10), .int a1] : List Value).toArray below meth c H locs 0 0 Q (F0 m tgt ls []) := fun _ z => z
      by_cases c_44_0 : a1 = 0
      · have h := ite_t c_44_0 h
        refine lv_tableIn (off := 56) (tgt := 100) hx hb dX10_count_44 (by rw [c_44_0]; decide) (by rw [c_44_0]; decide) (by rw [c_44_0]; rfl) (by decide) ?_
        refine lv_aload_n hx hb dX10_count_100 rfl (lv_at hl 0 rfl) ?_
        refine gX10_69 hx hb hts hown hK hw dX10_count_101 ?_
        have h := Option.some.inj h
        subst h
        rw [← hQ]
        exact retI hx hb hr hlk hw rfl dX10_count_104
      have h := ite_f c_44_0 h
      by_cases c_44_1 : a1 = 1
      · have h := ite_t c_44_1 h
        refine lv_tableIn (off := 61) (tgt := 105) hx hb dX10_count_44 (by rw [c_44_1]; decide) (by rw [c_44_1]; decide) (by rw [c_44_1]; rfl) (by decide) ?_
        refine lv_aload_n hx hb dX10_count_105 rfl (lv_at hl 0 rfl) ?_
        refine gX10_23 hx hb hts hown hK hw dX10_count_106 ?_
        obtain ⟨q_109, h_109, h⟩ := bnd_e h
        have pg_109 := preG (av := [.ref (ad 4)]) hK hw.1 hw.2.1 (NC_keep hN hw.2.2) NC_blind
        refine endI (mc := 0) (ms := 0) (va_runV (As := []) (rest := []) ⟨hx, hb, hml, hown, hts⟩ (m4_size l D ad cy H.size s0 s1 s2 s3 s4 s5 s6 s7 s8 s9 s10 q_109 h_109) (wX10_146 0 hts ⟨Nat.le_of_ble_eq_true rfl, Nat.le_of_ble_eq_true rfl⟩) ⟨pg_109.1, va_recv hK hw.1 (ci := 4) (q0 := 4) rfl eC_4, pg_109.2⟩ rfl rfl hl.1 rfl (lv_room (Nat.le_of_ble_eq_true rfl)) dX10_count_109 ⟨Nat.le_refl _, Nat.le_refl _⟩) hw.2.2 (afr_in hw.2.2) (fun H locs hw => ?_)
        have h := Option.some.inj h
        subst h
        rw [← hQ]
        exact retI hx hb hr hlk hw rfl dX10_count_112
      have h := ite_f c_44_1 h
      by_cases c_44_2 : a1 = 2
      · have h := ite_t c_44_2 h
        refine lv_tableIn (off := 69) (tgt := 113) hx hb dX10_count_44 (by rw [c_44_2]; decide) (by rw [c_44_2]; decide) (by rw [c_44_2]; rfl) (by decide) ?_
        refine lv_aload_n hx hb dX10_count_113 rfl (lv_at hl 0 rfl) ?_
        refine gX10_30 hx hb hts hown hK hw dX10_count_114 ?_
        obtain ⟨q_117, h_117, h⟩ := bnd_e h
        have pg_117 := preG (av := [.ref (ad 2)]) hK hw.1 hw.2.1 (NC_keep hN hw.2.2) NC_blind
        refine endI (mc := 0) (ms := 0) (va_runV (As := []) (rest := []) ⟨hx, hb, hml, hown, hts⟩ (m2_askerCount l D ad cy H.size s0 s1 s2 s3 s4 s5 s6 s7 s8 s9 s10 q_117 h_117) (wX10_348 0 hts ⟨Nat.le_of_ble_eq_true rfl, Nat.le_of_ble_eq_true rfl⟩) ⟨pg_117.1, va_recv hK hw.1 (ci := 2) (q0 := 2) rfl eC_2, pg_117.2⟩ rfl rfl hl.1 rfl (lv_room (Nat.le_of_ble_eq_true rfl)) dX10_count_117 ⟨Nat.le_refl _, Nat.le_refl _⟩) hw.2.2 (afr_in hw.2.2) (fun H locs hw => ?_)
        have h := Option.some.inj h
        subst h
        rw [← hQ]
        exact retI hx hb hr hlk hw rfl dX10_count_120
      have h := ite_f c_44_2 h
      by_cases c_44_3 : a1 = 3
      · have h := ite_t c_44_3 h
        refine lv_tableIn (off := 77) (tgt := 121) hx hb dX10_count_44 (by rw [c_44_3]; decide) (by rw [c_44_3]; decide) (by rw [c_44_3]; rfl) (by decide) ?_
        refine lv_aload_n hx hb dX10_count_121 rfl (lv_at hl 0 rfl) ?_
        refine gX10_37 hx hb hts hown hK hw dX10_count_122 ?_
        obtain ⟨q_125, h_125, h⟩ := bnd_e h
        have pg_125 := preG (av := [.ref (ad 5)]) hK hw.1 hw.2.1 (NC_keep hN hw.2.2) NC_blind
        refine endI (mc := 0) (ms := 0) (va_runV (As := []) (rest := []) ⟨hx, hb, hml, hown, hts⟩ (m5_size l D ad cy H.size s0 s1 s2 s3 s4 s5 s6 s7 s8 s9 s10 q_125 h_125) (wX10_351 0 hts ⟨Nat.le_of_ble_eq_true rfl, Nat.le_of_ble_eq_true rfl⟩) ⟨pg_125.1, va_recv hK hw.1 (ci := 5) (q0 := 5) rfl eC_5, pg_125.2⟩ rfl rfl hl.1 rfl (lv_room (Nat.le_of_ble_eq_true rfl)) dX10_count_125 ⟨Nat.le_refl _, Nat.le_refl _⟩) hw.2.2 (afr_in hw.2.2) (fun H locs hw => ?_)
        have h := Option.some.inj h
        subst h
        rw [← hQ]
        exact retI hx hb hr hlk hw rfl dX10_count_128
      have h := ite_f c_44_3 h
      by_cases c_44_4 : a1 = 4
      · have h := ite_t c_44_4 h
        refine lv_tableIn (off := 85) (tgt := 129) hx hb dX10_count_44 (by rw [c_44_4]; decide) (by rw [c_44_4]; decide) (by rw [c_44_4]; rfl) (by decide) ?_
        refine lv_aload_n hx hb dX10_count_129 rfl (lv_at hl 0 rfl) ?_
        refine gX10_30 hx hb hts hown hK hw dX10_count_130 ?_
        obtain ⟨q_133, h_133, h⟩ := bnd_e h
        have pg_133 := preG (av := [.ref (ad 2)]) hK hw.1 hw.2.1 (NC_keep hN hw.2.2) NC_blind
        refine endI (mc := 0) (ms := 0) (va_runV (As := []) (rest := []) ⟨hx, hb, hml, hown, hts⟩ (m2_loanCount l D ad cy H.size s0 s1 s2 s3 s4 s5 s6 s7 s8 s9 s10 q_133 h_133) (wX10_352 0 hts ⟨Nat.le_of_ble_eq_true rfl, Nat.le_of_ble_eq_true rfl⟩) ⟨pg_133.1, va_recv hK hw.1 (ci := 2) (q0 := 2) rfl eC_2, pg_133.2⟩ rfl rfl hl.1 rfl (lv_room (Nat.le_of_ble_eq_true rfl)) dX10_count_133 ⟨Nat.le_refl _, Nat.le_refl _⟩) hw.2.2 (afr_in hw.2.2) (fun H locs hw => ?_)
        have h := Option.some.inj h
        subst h
        rw [← hQ]
        exact retI hx hb hr hlk hw rfl dX10_count_136
      have h := ite_f c_44_4 h
      by_cases c_44_5 : a1 = 5
      · have h := ite_t c_44_5 h
        refine lv_tableIn (off := 93) (tgt := 137) hx hb dX10_count_44 (by rw [c_44_5]; decide) (by rw [c_44_5]; decide) (by rw [c_44_5]; rfl) (by decide) ?_
        refine lv_aload_n hx hb dX10_count_137 rfl (lv_at hl 0 rfl) ?_
        refine gX10_44 hx hb hts hown hK hw dX10_count_138 ?_
        obtain ⟨q_141, h_141, h⟩ := bnd_e h
        have pg_141 := preG (av := [.ref (ad 7)]) hK hw.1 hw.2.1 (NC_keep hN hw.2.2) NC_blind
        refine endI (mc := 0) (ms := 0) (va_runV (As := []) (rest := []) ⟨hx, hb, hml, hown, hts⟩ (m7_size l D ad cy H.size s0 s1 s2 s3 s4 s5 s6 s7 s8 s9 s10 q_141 h_141) (wX10_355 0 hts ⟨Nat.le_of_ble_eq_true rfl, Nat.le_of_ble_eq_true rfl⟩) ⟨pg_141.1, va_recv hK hw.1 (ci := 7) (q0 := 7) rfl eC_7, pg_141.2⟩ rfl rfl hl.1 rfl (lv_room (Nat.le_of_ble_eq_true rfl)) dX10_count_141 ⟨Nat.le_refl _, Nat.le_refl _⟩) hw.2.2 (afr_in hw.2.2) (fun H locs hw => ?_)
        have h := Option.some.inj h
        subst h
        rw [← hQ]
        exact retI hx hb hr hlk hw rfl dX10_count_144
      have h := ite_f c_44_5 h
      by_cases c_44_6 : a1 = 6
      · have h := ite_t c_44_6 h
        refine lv_tableIn (off := 101) (tgt := 145) hx hb dX10_count_44 (by rw [c_44_6]; decide) (by rw [c_44_6]; decide) (by rw [c_44_6]; rfl) (by decide) ?_
        refine lv_aload_n hx hb dX10_count_145 rfl (lv_at hl 0 rfl) ?_
        refine gX10_58 hx hb hts hown hK hw dX10_count_146 ?_
        obtain ⟨q_149, h_149, h⟩ := bnd_e h
        have pg_149 := preG (av := [.ref (ad 9)]) hK hw.1 hw.2.1 (NC_keep hN hw.2.2) NC_blind
        refine endI (mc := 0) (ms := 0) (va_runV (As := []) (rest := []) ⟨hx, hb, hml, hown, hts⟩ (m9_giftCount l D ad cy H.size s0 s1 s2 s3 s4 s5 s6 s7 s8 s9 s10 q_149 h_149) (wX10_356 0 hts ⟨Nat.le_of_ble_eq_true rfl, Nat.le_of_ble_eq_true rfl⟩) ⟨pg_149.1, va_recv hK hw.1 (ci := 9) (q0 := 9) rfl eC_9, pg_149.2⟩ rfl rfl hl.1 rfl (lv_room (Nat.le_of_ble_eq_true rfl)) dX10_count_149 ⟨Nat.le_refl _, Nat.le_refl _⟩) hw.2.2 (afr_in hw.2.2) (fun H locs hw => ?_)
        have h := Option.some.inj h
        subst h
        rw [← hQ]
        exact retI hx hb hr hlk hw rfl dX10_count_152
      have h := ite_f c_44_6 h
      by_cases c_44_7 : a1 = 7
      · have h := ite_t c_44_7 h
        refine lv_tableIn (off := 109) (tgt := 153) hx hb dX10_count_44 (by rw [c_44_7]; decide) (by rw [c_44_7]; decide) (by rw [c_44_7]; rfl) (by decide) ?_
        refine lv_aload_n hx hb dX10_count_153 rfl (lv_at hl 0 rfl) ?_
        refine gX10_58 hx hb hts hown hK hw dX10_count_154 ?_
        obtain ⟨q_157, h_157, h⟩ := bnd_e h
        have pg_157 := preG (av := [.ref (ad 9)]) hK hw.1 hw.2.1 (NC_keep hN hw.2.2) NC_blind
        refine endI (mc := 0) (ms := 0) (va_runV (As := []) (rest := []) ⟨hx, hb, hml, hown, hts⟩ (m9_sightCount l D ad cy H.size s0 s1 s2 s3 s4 s5 s6 s7 s8 s9 s10 q_157 h_157) (wX10_359 0 hts ⟨Nat.le_of_ble_eq_true rfl, Nat.le_of_ble_eq_true rfl⟩) ⟨pg_157.1, va_recv hK hw.1 (ci := 9) (q0 := 9) rfl eC_9, pg_157.2⟩ rfl rfl hl.1 rfl (lv_room (Nat.le_of_ble_eq_true rfl)) dX10_count_157 ⟨Nat.le_refl _, Nat.le_refl _⟩) hw.2.2 (afr_in hw.2.2) (fun H locs hw => ?_)
        have h := Option.some.inj h
        subst h
        rw [← hQ]
        exact retI hx hb hr hlk hw rfl dX10_count_160
      have h := ite_f c_44_7 h
      by_cases c_44_8 : a1 = 8
      · have h := ite_t c_44_8 h
        refine lv_tableIn (off := 117) (tgt := 161) hx hb dX10_count_44 (by rw [c_44_8]; decide) (by rw [c_44_8]; decide) (by rw [c_44_8]; rfl) (by decide) ?_
        refine lv_aload_n hx hb dX10_count_161 rfl (lv_at hl 0 rfl) ?_
        refine gX10_65 hx hb hts hown hK hw dX10_count_162 ?_
        obtain ⟨q_165, h_165, h⟩ := bnd_e h
        have pg_165 := preG (av := [.ref (ad 0)]) hK hw.1 hw.2.1 (NC_keep hN hw.2.2) NC_blind
        refine endI (mc := 0) (ms := 0) (va_runV (As := []) (rest := []) ⟨hx, hb, hml, hown, hts⟩ (m0_size l D ad cy H.size s0 s1 s2 s3 s4 s5 s6 s7 s8 s9 s10 q_165 h_165) (wX10_362 0 hts ⟨Nat.le_of_ble_eq_true rfl, Nat.le_of_ble_eq_true rfl⟩) ⟨pg_165.1, va_recv hK hw.1 (ci := 0) (q0 := 0) rfl eC_0, pg_165.2⟩ rfl rfl hl.1 rfl (lv_room (Nat.le_of_ble_eq_true rfl)) dX10_count_165 ⟨Nat.le_refl _, Nat.le_refl _⟩) hw.2.2 (afr_in hw.2.2) (fun H locs hw => ?_)
        have h := Option.some.inj h
        subst h
        rw [← hQ]
        exact retI hx hb hr hlk hw rfl dX10_count_168
      have h := ite_f c_44_8 h
      by_cases c_44_9 : a1 = 9
      · have h := ite_t c_44_9 h
        refine lv_tableIn (off := 125) (tgt := 169) hx hb dX10_count_44 (by rw [c_44_9]; decide) (by rw [c_44_9]; decide) (by rw [c_44_9]; rfl) (by decide) ?_
        refine lv_aload_n hx hb dX10_count_169 rfl (lv_at hl 0 rfl) ?_
        refine gX10_16 hx hb hts hown hK hw dX10_count_170 ?_
        obtain ⟨q_173, h_173, h⟩ := bnd_e h
        have pg_173 := preG (av := [.ref (ad 8)]) hK hw.1 hw.2.1 (NC_keep hN hw.2.2) NC_blind
        refine endI (mc := 0) (ms := 0) (va_runV (As := []) (rest := []) ⟨hx, hb, hml, hown, hts⟩ (m8_length l D ad cy H.size s0 s1 s2 s3 s4 s5 s6 s7 s8 s9 s10 q_173 h_173) (wX10_126 0 hts ⟨Nat.le_of_ble_eq_true rfl, Nat.le_of_ble_eq_true rfl⟩) ⟨pg_173.1, va_recv hK hw.1 (ci := 8) (q0 := 8) rfl eC_8, pg_173.2⟩ rfl rfl hl.1 rfl (lv_room (Nat.le_of_ble_eq_true rfl)) dX10_count_173 ⟨Nat.le_refl _, Nat.le_refl _⟩) hw.2.2 (afr_in hw.2.2) (fun H locs hw => ?_)
        have h := Option.some.inj h
        subst h
        rw [← hQ]
        exact retI hx hb hr hlk hw rfl dX10_count_176
      have h := ite_f c_44_9 h
      refine lv_tableOut (tgt := 177) hx hb dX10_count_44 (by have := lv_neT c_44_0 (a := 0) rfl; have := lv_neT c_44_1 (a := 1) rfl; have := lv_neT c_44_2 (a := 2) rfl; have := lv_neT c_44_3 (a := 3) rfl; have := lv_neT c_44_4 (a := 4) rfl; have := lv_neT c_44_5 (a := 5) rfl; have := lv_neT c_44_6 (a := 6) rfl; have := lv_neT c_44_7 (a := 7) rfl; have := lv_neT c_44_8 (a := 8) rfl; have := lv_neT c_44_9 (a := 9) rfl; omega) (by decide) ?_
      refine lv_iconst (v := (-1)) hx hb dX10_count_177 (by decide) ?_
      have h := Option.some.inj h
      subst h
      rw [← hQ]
      exact retI hx hb hr hlk hw rfl dX10_count_178
    · have h := ite_f c_31 h
      refine lv_aload_n hx hb dX10_count_34 rfl (lv_at hl 0 rfl) ?_
      refine lv_iload_n hx hb dX10_count_35 rfl (lv_at hl 1 rfl) ?_
      refine lv_bipush (v := 40) hx hb dX10_count_36 (by decide) ?_
      refine lv_isub hx hb dX10_count_38 ?_
      obtain ⟨q_39, h_39, h⟩ := bnd_e h
      have pg_39 := preG (av := [.ref (ad 10), .int ((a1 - (40 : Int32)))]) hK hw.1 hw.2.1 (NC_keep hN hw.2.2) NC_blind
      refine endI (mc := 0) (ms := 0) (va_runV (As := [.int ((a1 - (40 : Int32)))]) (rest := []) ⟨hx, hb, hml, hown, hts⟩ (m10_gasOf l D ad cy H.size s0 s1 s2 s3 s4 s5 s6 s7 s8 s9 s10 ((a1 - (40 : Int32))) q_39 h_39) (wX10_119 2 hts ⟨Nat.le_of_ble_eq_true rfl, Nat.le_of_ble_eq_true rfl⟩) ⟨pg_39.1, va_recv hK hw.1 (ci := 10) (q0 := 10) rfl eC_10, pg_39.2⟩ rfl rfl hl.1 rfl (lv_room (Nat.le_of_ble_eq_true rfl)) dX10_count_39 ⟨Nat.le_refl _, Nat.le_refl _⟩) hw.2.2 (afr_in hw.2.2) (fun H locs hw => ?_)
      have h := Option.some.inj h
      subst h
      rw [← hQ]
      exact retI hx hb hr hlk hw rfl dX10_count_42
  · have h := ite_f c_8 h
    refine lv_aload_n hx hb dX10_count_11 rfl (lv_at hl 0 rfl) ?_
    refine gX10_37 hx hb hts hown hK hw dX10_count_12 ?_
    refine lv_iload_n hx hb dX10_count_15 rfl (lv_at hl 1 rfl) ?_
    refine lv_bipush (v := 20) hx hb dX10_count_16 (by decide) ?_
    refine lv_isub hx hb dX10_count_18 ?_
    obtain ⟨q_19, h_19, h⟩ := bnd_e h
    have pg_19 := preG (av := [.ref (ad 5), .int ((a1 - (20 : Int32)))]) hK hw.1 hw.2.1 (NC_keep hN hw.2.2) NC_blind
    refine endI (mc := 0) (ms := 0) (va_runV (As := [.int ((a1 - (20 : Int32)))]) (rest := []) ⟨hx, hb, hml, hown, hts⟩ (m5_clausesOf l D ad cy H.size s0 s1 s2 s3 s4 s5 s6 s7 s8 s9 s10 ((a1 - (20 : Int32))) q_19 h_19) (wX10_345 1 hts ⟨Nat.le_of_ble_eq_true rfl, Nat.le_of_ble_eq_true rfl⟩) ⟨pg_19.1, va_recv hK hw.1 (ci := 5) (q0 := 5) rfl eC_5, pg_19.2⟩ rfl rfl hl.1 rfl (lv_room (Nat.le_of_ble_eq_true rfl)) dX10_count_19 ⟨Nat.le_refl _, Nat.le_refl _⟩) hw.2.2 (afr_in hw.2.2) (fun H locs hw => ?_)
    have h := Option.some.inj h
    subst h
    rw [← hQ]
    exact retI hx hb hr hlk hw rfl dX10_count_22
theorem dX10_cutByTape_0 : decode cX10_cutByTape 0 = .ok (.lconst 0, 1) := by decide +kernel
theorem dX10_cutByTape_1 : decode cX10_cutByTape 1 = .ok (.lstore 4, 2) := by decide +kernel
theorem dX10_cutByTape_3 : decode cX10_cutByTape 3 = .ok (.iconst 0, 1) := by decide +kernel
theorem dX10_cutByTape_4 : decode cX10_cutByTape 4 = .ok (.istore 6, 2) := by decide +kernel
theorem dX10_cutByTape_6 : decode cX10_cutByTape 6 = .ok (.iload 6, 2) := by decide +kernel
theorem dX10_cutByTape_8 : decode cX10_cutByTape 8 = .ok (.iload_n 3, 1) := by decide +kernel
theorem dX10_cutByTape_9 : decode cX10_cutByTape 9 = .ok (.if_icmp .ge 37, 3) := by decide +kernel
theorem dX10_cutByTape_12 : decode cX10_cutByTape 12 = .ok (.aload_n 0, 1) := by decide +kernel
theorem dX10_cutByTape_13 : decode cX10_cutByTape 13 = .ok (.getfield 16, 3) := by decide +kernel
theorem dX10_cutByTape_16 : decode cX10_cutByTape 16 = .ok (.iload 6, 2) := by decide +kernel
theorem dX10_cutByTape_18 : decode cX10_cutByTape 18 = .ok (.invokevirtual 143, 3) := by decide +kernel
theorem dX10_cutByTape_21 : decode cX10_cutByTape 21 = .ok (.istore 7, 2) := by decide +kernel
theorem dX10_cutByTape_23 : decode cX10_cutByTape 23 = .ok (.iload 7, 2) := by decide +kernel
theorem dX10_cutByTape_25 : decode cX10_cutByTape 25 = .ok (.iconst 1, 1) := by decide +kernel
theorem dX10_cutByTape_26 : decode cX10_cutByTape 26 = .ok (.if_icmp .ge 6, 3) := by decide +kernel
theorem dX10_cutByTape_29 : decode cX10_cutByTape 29 = .ok (.bipush (-2), 2) := by decide +kernel
theorem dX10_cutByTape_31 : decode cX10_cutByTape 31 = .ok (.ireturn, 1) := by decide +kernel
theorem dX10_cutByTape_32 : decode cX10_cutByTape 32 = .ok (.lload 4, 2) := by decide +kernel
theorem dX10_cutByTape_34 : decode cX10_cutByTape 34 = .ok (.iload 7, 2) := by decide +kernel
theorem dX10_cutByTape_36 : decode cX10_cutByTape 36 = .ok (.i2l, 1) := by decide +kernel
theorem dX10_cutByTape_37 : decode cX10_cutByTape 37 = .ok (.ladd, 1) := by decide +kernel
theorem dX10_cutByTape_38 : decode cX10_cutByTape 38 = .ok (.lstore 4, 2) := by decide +kernel
theorem dX10_cutByTape_40 : decode cX10_cutByTape 40 = .ok (.iinc 6 1, 3) := by decide +kernel
theorem dX10_cutByTape_43 : decode cX10_cutByTape 43 = .ok (.goto (-37), 3) := by decide +kernel
theorem dX10_cutByTape_46 : decode cX10_cutByTape 46 = .ok (.lload 4, 2) := by decide +kernel
theorem dX10_cutByTape_48 : decode cX10_cutByTape 48 = .ok (.aload_n 0, 1) := by decide +kernel
theorem dX10_cutByTape_49 : decode cX10_cutByTape 49 = .ok (.getfield 23, 3) := by decide +kernel
theorem dX10_cutByTape_52 : decode cX10_cutByTape 52 = .ok (.iload_n 1, 1) := by decide +kernel
theorem dX10_cutByTape_53 : decode cX10_cutByTape 53 = .ok (.invokevirtual 104, 3) := by decide +kernel
theorem dX10_cutByTape_56 : decode cX10_cutByTape 56 = .ok (.i2l, 1) := by decide +kernel
theorem dX10_cutByTape_57 : decode cX10_cutByTape 57 = .ok (.lcmp, 1) := by decide +kernel
theorem dX10_cutByTape_58 : decode cX10_cutByTape 58 = .ok (.ifCond .le 6, 3) := by decide +kernel
theorem dX10_cutByTape_61 : decode cX10_cutByTape 61 = .ok (.bipush (-2), 2) := by decide +kernel
theorem dX10_cutByTape_63 : decode cX10_cutByTape 63 = .ok (.ireturn, 1) := by decide +kernel
theorem dX10_cutByTape_64 : decode cX10_cutByTape 64 = .ok (.aload_n 0, 1) := by decide +kernel
theorem dX10_cutByTape_65 : decode cX10_cutByTape 65 = .ok (.getfield 23, 3) := by decide +kernel
theorem dX10_cutByTape_68 : decode cX10_cutByTape 68 = .ok (.iload_n 3, 1) := by decide +kernel
theorem dX10_cutByTape_69 : decode cX10_cutByTape 69 = .ok (.invokevirtual 91, 3) := by decide +kernel
theorem dX10_cutByTape_72 : decode cX10_cutByTape 72 = .ok (.ifCond .ne 6, 3) := by decide +kernel
theorem dX10_cutByTape_75 : decode cX10_cutByTape 75 = .ok (.bipush (-3), 2) := by decide +kernel
theorem dX10_cutByTape_77 : decode cX10_cutByTape 77 = .ok (.ireturn, 1) := by decide +kernel
theorem dX10_cutByTape_78 : decode cX10_cutByTape 78 = .ok (.aload_n 0, 1) := by decide +kernel
theorem dX10_cutByTape_79 : decode cX10_cutByTape 79 = .ok (.getfield 23, 3) := by decide +kernel
theorem dX10_cutByTape_82 : decode cX10_cutByTape 82 = .ok (.invokevirtual 146, 3) := by decide +kernel
theorem dX10_cutByTape_85 : decode cX10_cutByTape 85 = .ok (.istore 6, 2) := by decide +kernel
theorem dX10_cutByTape_87 : decode cX10_cutByTape 87 = .ok (.iconst 0, 1) := by decide +kernel
theorem dX10_cutByTape_88 : decode cX10_cutByTape 88 = .ok (.istore 7, 2) := by decide +kernel
theorem dX10_cutByTape_90 : decode cX10_cutByTape 90 = .ok (.iload 7, 2) := by decide +kernel
theorem dX10_cutByTape_92 : decode cX10_cutByTape 92 = .ok (.iload_n 3, 1) := by decide +kernel
theorem dX10_cutByTape_93 : decode cX10_cutByTape 93 = .ok (.if_icmp .ge 33, 3) := by decide +kernel
theorem dX10_cutByTape_96 : decode cX10_cutByTape 96 = .ok (.aload_n 0, 1) := by decide +kernel
theorem dX10_cutByTape_97 : decode cX10_cutByTape 97 = .ok (.getfield 23, 3) := by decide +kernel
theorem dX10_cutByTape_100 : decode cX10_cutByTape 100 = .ok (.iload_n 1, 1) := by decide +kernel
theorem dX10_cutByTape_101 : decode cX10_cutByTape 101 = .ok (.aload_n 0, 1) := by decide +kernel
theorem dX10_cutByTape_102 : decode cX10_cutByTape 102 = .ok (.getfield 16, 3) := by decide +kernel
theorem dX10_cutByTape_105 : decode cX10_cutByTape 105 = .ok (.iload 7, 2) := by decide +kernel
theorem dX10_cutByTape_107 : decode cX10_cutByTape 107 = .ok (.invokevirtual 143, 3) := by decide +kernel
theorem dX10_cutByTape_110 : decode cX10_cutByTape 110 = .ok (.iconst 1, 1) := by decide +kernel
theorem dX10_cutByTape_111 : decode cX10_cutByTape 111 = .ok (.iload_n 2, 1) := by decide +kernel
theorem dX10_cutByTape_112 : decode cX10_cutByTape 112 = .ok (.ishl, 1) := by decide +kernel
theorem dX10_cutByTape_113 : decode cX10_cutByTape 113 = .ok (.aload_n 0, 1) := by decide +kernel
theorem dX10_cutByTape_114 : decode cX10_cutByTape 114 = .ok (.getfield 69, 3) := by decide +kernel
theorem dX10_cutByTape_117 : decode cX10_cutByTape 117 = .ok (.invokevirtual 149, 3) := by decide +kernel
theorem dX10_cutByTape_120 : decode cX10_cutByTape 120 = .ok (.iinc 7 1, 3) := by decide +kernel
theorem dX10_cutByTape_123 : decode cX10_cutByTape 123 = .ok (.goto (-33), 3) := by decide +kernel
theorem dX10_cutByTape_126 : decode cX10_cutByTape 126 = .ok (.aload_n 0, 1) := by decide +kernel
theorem dX10_cutByTape_127 : decode cX10_cutByTape 127 = .ok (.getfield 23, 3) := by decide +kernel
theorem dX10_cutByTape_130 : decode cX10_cutByTape 130 = .ok (.iconst 1, 1) := by decide +kernel
theorem dX10_cutByTape_131 : decode cX10_cutByTape 131 = .ok (.iload_n 1, 1) := by decide +kernel
theorem dX10_cutByTape_132 : decode cX10_cutByTape 132 = .ok (.aload_n 0, 1) := by decide +kernel
theorem dX10_cutByTape_133 : decode cX10_cutByTape 133 = .ok (.getfield 23, 3) := by decide +kernel
theorem dX10_cutByTape_136 : decode cX10_cutByTape 136 = .ok (.iload_n 1, 1) := by decide +kernel
theorem dX10_cutByTape_137 : decode cX10_cutByTape 137 = .ok (.invokevirtual 104, 3) := by decide +kernel
theorem dX10_cutByTape_140 : decode cX10_cutByTape 140 = .ok (.i2l, 1) := by decide +kernel
theorem dX10_cutByTape_141 : decode cX10_cutByTape 141 = .ok (.lload 4, 2) := by decide +kernel
theorem dX10_cutByTape_143 : decode cX10_cutByTape 143 = .ok (.lsub, 1) := by decide +kernel
theorem dX10_cutByTape_144 : decode cX10_cutByTape 144 = .ok (.invokevirtual 153, 3) := by decide +kernel
theorem dX10_cutByTape_147 : decode cX10_cutByTape 147 = .ok (.aload_n 0, 1) := by decide +kernel
theorem dX10_cutByTape_148 : decode cX10_cutByTape 148 = .ok (.getfield 23, 3) := by decide +kernel
theorem dX10_cutByTape_151 : decode cX10_cutByTape 151 = .ok (.iload_n 1, 1) := by decide +kernel
theorem dX10_cutByTape_152 : decode cX10_cutByTape 152 = .ok (.iconst 0, 1) := by decide +kernel
theorem dX10_cutByTape_153 : decode cX10_cutByTape 153 = .ok (.iconst 0, 1) := by decide +kernel
theorem dX10_cutByTape_154 : decode cX10_cutByTape 154 = .ok (.bipush 12, 2) := by decide +kernel
theorem dX10_cutByTape_156 : decode cX10_cutByTape 156 = .ok (.aload_n 0, 1) := by decide +kernel
theorem dX10_cutByTape_157 : decode cX10_cutByTape 157 = .ok (.getfield 69, 3) := by decide +kernel
theorem dX10_cutByTape_160 : decode cX10_cutByTape 160 = .ok (.invokevirtual 108, 3) := by decide +kernel
theorem dX10_cutByTape_163 : decode cX10_cutByTape 163 = .ok (.iload 6, 2) := by decide +kernel
theorem dX10_cutByTape_165 : decode cX10_cutByTape 165 = .ok (.ireturn, 1) := by decide +kernel
noncomputable def f10_cutByTape_l90 (v1_i90 : Int32) (v2_i90 : Int32) (v3_i90 : Int32) (v4_i90 : Int64) (v6_i90 : Int32) (s8_i90 : OS) (s10_i90 : OS) : Int32 × OS × OS → Option ((Int32 × OS × OS) ⊕ (Int32 × OS × OS)) := fun t_90 => if v3_i90 ≤ t_90.1 then (Option.map Sum.inr (Option.bind (f4_weightOf v1_i90 t_90.2.2) fun q_137 => Option.bind (f4_charge ((1 : Int32)) v1_i90 (((q_137).toInt64 - v4_i90)) t_90.2.2) fun q_144 => Option.bind (f4_change v1_i90 ((0 : Int32)) ((0 : Int32)) ((12 : Int32)) ((s10_i90.1 0 9)) t_90.2.1 q_144) fun q_160 => some (v6_i90, q_160.1, q_160.2))) else (Option.bind (f8_number t_90.1 s8_i90) fun q_107 => Option.bind (f4_addPart v1_i90 q_107 (((1 : Int32) <<< (v2_i90 &&& 31))) ((s10_i90.1 0 9)) t_90.2.1 t_90.2.2) fun q_117 => nm (t_90.1 + (1 : Int32)) fun n_120 => some (Sum.inl (n_120, q_117.1, q_117.2)))
noncomputable def f10_cutByTape_l6 (v1_i6 : Int32) (v2_i6 : Int32) (v3_i6 : Int32) (s1_i6 : OS) (s4_i6 : OS) (s8_i6 : OS) (s10_i6 : OS) : Int64 × Int32 → Option ((Int64 × Int32) ⊕ (Int32 × OS × OS)) := fun t_6 => if v3_i6 ≤ t_6.2 then (Option.map Sum.inr (Option.bind (f4_weightOf v1_i6 s4_i6) fun q_53 => if (lg_cmp t_6.1 ((q_53).toInt64)) ≤ 0 then (Option.bind (f4_hasRoomFor v3_i6 s4_i6) fun q_69 => if q_69 = 0 then (some ((-3 : Int32), s1_i6, s4_i6)) else (Option.bind (f4_size s4_i6) fun q_82 => loop (f10_cutByTape_l90 v1_i6 v2_i6 v3_i6 t_6.1 q_82 s8_i6 s10_i6) ((0 : Int32), s1_i6, s4_i6))) else (some ((-2 : Int32), s1_i6, s4_i6)))) else (Option.bind (f8_number t_6.2 s8_i6) fun q_18 => if (1 : Int32) ≤ q_18 then (nm ((t_6.1 + (q_18).toInt64)) fun n_38 => nm (t_6.2 + (1 : Int32)) fun n_40 => some (Sum.inl (n_38, n_40))) else (Option.map Sum.inr (some ((-2 : Int32), s1_i6, s4_i6))))
noncomputable def f10_cutByTape (a1 : Int32) (a2 : Int32) (a3 : Int32) (s1 : OS) (s4 : OS) (s8 : OS) (s10 : OS) : Option (Int32 × OS × OS) := loop (f10_cutByTape_l6 a1 a2 a3 s1 s4 s8 s10) ((0 : Int64), (0 : Int32))
set_option maxHeartbeats 4000000 in
set_option maxRecDepth 100000 in
theorem m10_cutByTape (l : Launch) (D : va_G) (ad : Nat → Nat) (cy : Nat → ClassId) (sz : Nat) (s0 s1 s2 s3 s4 s5 s6 s7 s8 s9 s10 : OS) (a1 : Int32) (a2 : Int32) (a3 : Int32) (r : Int32 × OS × OS) (h : f10_cutByTape a1 a2 a3 s1 s4 s8 s10 = some r) : Met l yX10_cutByTape (wsOf yX10_cutByTape cX10_cutByTape 8 (some .int)) (rmL 3) (va_Pc ([.ref (ad 10), .int a1, .int a2, .int a3] : List Value) (PreG D cy (cellsC ad cy s0 s1 s2 s3 s4 s5 s6 s7 s8 s9 s10) sz (NC ad))) (QcI D ad 67 (cellsC ad cy s0 r.2.1 s2 s3 r.2.2 s5 s6 s7 s8 s9 s10) (r.1) sz) 0 0 (Afr ad 67 sz) := by
  refine metG (own := RX10) (by decide) rfl (Nat.le_of_ble_eq_true rfl) fstC ?_ sz
  intro p e s m below meth c ls C0 hw hl
  obtain ⟨hx, hb, hml, hown, hts, hr, hlk, hK, hN⟩ := C0
  have hl : lv_has ls 8 [(0, .ref (ad 10)), (1, .int a1), (2, .int a2), (3, .int a3)] := hl
  generalize hQ : MQ below (QcI D ad 67 (cellsC ad cy s0 r.2.1 s2 s3 r.2.2 s5 s6 s7 s8 s9 s10) (r.1) s.heap.size) ([.ref (ad 10), .int a1, .int a2, .int a3] : List Value).toArray s 0 0 (Afr ad 67 s.heap.size) = Q
  obtain ⟨H, hH⟩ : ∃ H : Heap, H = s.heap := ⟨_, rfl⟩
  obtain ⟨locs, hlc⟩ : ∃ L : List Loc, L = [] := ⟨_, rfl⟩
  have hw : Wd D (cellsC ad cy s0 s1 s2 s3 s4 s5 s6 s7 s8 s9 s10) (Afr ad 67 s.heap.size) s.heap H locs := by rw [hH, hlc]; exact hw
  suffices h0 : W p l e (rmL 3) s m ([.ref (ad 10), .int a1, .int a2, .int a3] : List Value).toArray below meth c H locs 0 0 Q (F0 m 0 ls []) by rw [hH, hlc] at h0; exact h0
  clear hH hlc
  unfold f10_cutByTape at h
  refine lv_lconst (v := 0) hx hb dX10_cutByTape_0 (by decide) ?_
  refine lv_lstore (lv' := [(4, .long ((0 : Int64))), (0, .ref (ad 10)), (1, .int a1), (2, .int a2), (3, .int a3)]) hx hb dX10_cutByTape_1 hl (by decide) rfl (fun ls hl => ?_)
  refine lv_iconst (v := 0) hx hb dX10_cutByTape_3 (by decide) ?_
  refine lv_istore (lv' := [(6, .int ((0 : Int32))), (4, .long ((0 : Int64))), (0, .ref (ad 10)), (1, .int a1), (2, .int a2), (3, .int a3)]) hx hb dX10_cutByTape_4 hl (by decide) rfl (fun ls hl => ?_)
  obtain ⟨n_6, hn_6⟩ := loop_e h
  have hL_6 : ∀ (n : Nat) (t_6 : Int64 × Int32) (H : Heap) (locs : List Loc) (ls : Array Slot), loopN (f10_cutByTape_l6 a1 a2 a3 s1 s4 s8 s10) n t_6 = some r → Wd D (cellsC ad cy s0 s1 s2 s3 s4 s5 s6 s7 s8 s9 s10) (Afr ad 67 s.heap.size) s.heap H locs → lv_has ls 8 [(4, .long t_6.1), (6, .int t_6.2), (1, .int a1), (2, .int a2), (3, .int a3), (0, .ref (ad 10))] → W p l e (rmL 3) s m ([.ref (ad 10), .int a1, .int a2, .int a3] : List Value).toArray below meth c H locs 0 0 Q (F0 m 6 ls []) := by
    intro n
    induction n with
    | zero => intro t_6 H locs ls hn; cases hn
    | succ n ih_6 =>
      intro t_6 H locs ls hn hw hl
      obtain ⟨x_6, h, hx_6⟩ := loopN_e hn
      unfold f10_cutByTape_l6 at h
      refine lv_iload hx hb dX10_cutByTape_6 (lv_at hl 1 rfl) ?_
      refine lv_iload_n hx hb dX10_cutByTape_8 rfl (lv_at hl 4 rfl) ?_
      refine lv_icmp_ge (tgt := 46) hx hb dX10_cutByTape_9 (by decide) (fun c_9 => ?_) (fun c_9 => ?_)
      · have h := ite_t c_9 h
        have h := nx_m hx_6 h
        refine lv_lload hx hb dX10_cutByTape_46 (lv_at hl 0 rfl) ?_
        refine lv_aload_n hx hb dX10_cutByTape_48 rfl (lv_at hl 5 rfl) ?_
        refine gX10_23 hx hb hts hown hK hw dX10_cutByTape_49 ?_
        refine lv_iload_n hx hb dX10_cutByTape_52 rfl (lv_at hl 2 rfl) ?_
        obtain ⟨q_53, h_53, h⟩ := bnd_e h
        have pg_53 := preG (av := [.ref (ad 4), .int a1]) hK hw.1 hw.2.1 (NC_keep hN hw.2.2) NC_blind
        refine endI (mc := 0) (ms := 0) (va_runV (As := [.int a1]) (rest := [.long t_6.1]) ⟨hx, hb, hml, hown, hts⟩ (m4_weightOf l D ad cy H.size s0 s1 s2 s3 s4 s5 s6 s7 s8 s9 s10 a1 q_53 h_53) (wX10_104 1 hts ⟨Nat.le_of_ble_eq_true rfl, Nat.le_of_ble_eq_true rfl⟩) ⟨pg_53.1, va_recv hK hw.1 (ci := 4) (q0 := 4) rfl eC_4, pg_53.2⟩ rfl rfl hl.1 rfl (lv_room (Nat.le_of_ble_eq_true rfl)) dX10_cutByTape_53 ⟨Nat.le_refl _, Nat.le_refl _⟩) hw.2.2 (afr_in hw.2.2) (fun H locs hw => ?_)
        refine lv_i2l hx hb dX10_cutByTape_56 rfl ?_
        refine W.lcmp hx hb dX10_cutByTape_57 ?_
        refine lv_if_le (tgt := 64) hx hb dX10_cutByTape_58 (by decide) (fun c_58 => ?_) (fun c_58 => ?_)
        · have h := ite_t c_58 h
          refine lv_aload_n hx hb dX10_cutByTape_64 rfl (lv_at hl 5 rfl) ?_
          refine gX10_23 hx hb hts hown hK hw dX10_cutByTape_65 ?_
          refine lv_iload_n hx hb dX10_cutByTape_68 rfl (lv_at hl 4 rfl) ?_
          obtain ⟨q_69, h_69, h⟩ := bnd_e h
          have pg_69 := preG (av := [.ref (ad 4), .int a3]) hK hw.1 hw.2.1 (NC_keep hN hw.2.2) NC_blind
          refine endI (mc := 0) (ms := 0) (va_runV (As := [.int a3]) (rest := []) ⟨hx, hb, hml, hown, hts⟩ (m4_hasRoomFor l D ad cy H.size s0 s1 s2 s3 s4 s5 s6 s7 s8 s9 s10 a3 q_69 h_69) (wX10_91 0 hts ⟨Nat.le_of_ble_eq_true rfl, Nat.le_of_ble_eq_true rfl⟩) ⟨pg_69.1, va_recv hK hw.1 (ci := 4) (q0 := 4) rfl eC_4, pg_69.2⟩ rfl rfl hl.1 rfl (lv_room (Nat.le_of_ble_eq_true rfl)) dX10_cutByTape_69 ⟨Nat.le_refl _, Nat.le_refl _⟩) hw.2.2 (afr_in hw.2.2) (fun H locs hw => ?_)
          refine lv_if_ne (tgt := 78) hx hb dX10_cutByTape_72 (by decide) (fun c_72 => ?_) (fun c_72 => ?_)
          · have h := ite_f c_72 h
            refine lv_aload_n hx hb dX10_cutByTape_78 rfl (lv_at hl 5 rfl) ?_
            refine gX10_23 hx hb hts hown hK hw dX10_cutByTape_79 ?_
            obtain ⟨q_82, h_82, h⟩ := bnd_e h
            have pg_82 := preG (av := [.ref (ad 4)]) hK hw.1 hw.2.1 (NC_keep hN hw.2.2) NC_blind
            refine endI (mc := 0) (ms := 0) (va_runV (As := []) (rest := []) ⟨hx, hb, hml, hown, hts⟩ (m4_size l D ad cy H.size s0 s1 s2 s3 s4 s5 s6 s7 s8 s9 s10 q_82 h_82) (wX10_146 0 hts ⟨Nat.le_of_ble_eq_true rfl, Nat.le_of_ble_eq_true rfl⟩) ⟨pg_82.1, va_recv hK hw.1 (ci := 4) (q0 := 4) rfl eC_4, pg_82.2⟩ rfl rfl hl.1 rfl (lv_room (Nat.le_of_ble_eq_true rfl)) dX10_cutByTape_82 ⟨Nat.le_refl _, Nat.le_refl _⟩) hw.2.2 (afr_in hw.2.2) (fun H locs hw => ?_)
            refine lv_istore (lv' := [(6, .int q_82), (4, .long t_6.1), (1, .int a1), (2, .int a2), (3, .int a3), (0, .ref (ad 10))]) hx hb dX10_cutByTape_85 hl (by decide) rfl (fun ls hl => ?_)
            refine lv_iconst (v := 0) hx hb dX10_cutByTape_87 (by decide) ?_
            refine lv_istore (lv' := [(7, .int ((0 : Int32))), (6, .int q_82), (4, .long t_6.1), (1, .int a1), (2, .int a2), (3, .int a3), (0, .ref (ad 10))]) hx hb dX10_cutByTape_88 hl (by decide) rfl (fun ls hl => ?_)
            obtain ⟨n_90, hn_90⟩ := loop_e h
            have hL_90 : ∀ (n : Nat) (t_90 : Int32 × OS × OS) (H : Heap) (locs : List Loc) (ls : Array Slot), loopN (f10_cutByTape_l90 a1 a2 a3 t_6.1 q_82 s8 s10) n t_90 = some r → Wd D (cellsC ad cy s0 t_90.2.1 s2 s3 t_90.2.2 s5 s6 s7 s8 s9 s10) (Afr ad 67 s.heap.size) s.heap H locs → lv_has ls 8 [(7, .int t_90.1), (1, .int a1), (2, .int a2), (3, .int a3), (4, .long t_6.1), (6, .int q_82), (0, .ref (ad 10))] → W p l e (rmL 3) s m ([.ref (ad 10), .int a1, .int a2, .int a3] : List Value).toArray below meth c H locs 0 0 Q (F0 m 90 ls []) := by
              intro n
              induction n with
              | zero => intro t_90 H locs ls hn; cases hn
              | succ n ih_90 =>
                intro t_90 H locs ls hn hw hl
                obtain ⟨x_90, h, hx_90⟩ := loopN_e hn
                unfold f10_cutByTape_l90 at h
                refine lv_iload hx hb dX10_cutByTape_90 (lv_at hl 0 rfl) ?_
                refine lv_iload_n hx hb dX10_cutByTape_92 rfl (lv_at hl 3 rfl) ?_
                refine lv_icmp_ge (tgt := 126) hx hb dX10_cutByTape_93 (by decide) (fun c_93 => ?_) (fun c_93 => ?_)
                · have h := ite_t c_93 h
                  have h := nx_m hx_90 h
                  refine lv_aload_n hx hb dX10_cutByTape_126 rfl (lv_at hl 6 rfl) ?_
                  refine gX10_23 hx hb hts hown hK hw dX10_cutByTape_127 ?_
                  refine lv_iconst (v := 1) hx hb dX10_cutByTape_130 (by decide) ?_
                  refine lv_iload_n hx hb dX10_cutByTape_131 rfl (lv_at hl 1 rfl) ?_
                  refine lv_aload_n hx hb dX10_cutByTape_132 rfl (lv_at hl 6 rfl) ?_
                  refine gX10_23 hx hb hts hown hK hw dX10_cutByTape_133 ?_
                  refine lv_iload_n hx hb dX10_cutByTape_136 rfl (lv_at hl 1 rfl) ?_
                  obtain ⟨q_137, h_137, h⟩ := bnd_e h
                  have pg_137 := preG (av := [.ref (ad 4), .int a1]) hK hw.1 hw.2.1 (NC_keep hN hw.2.2) NC_blind
                  refine endI (mc := 0) (ms := 0) (va_runV (As := [.int a1]) (rest := [.int a1, .int ((1 : Int32)), .ref (ad 4)]) ⟨hx, hb, hml, hown, hts⟩ (m4_weightOf l D ad cy H.size s0 t_90.2.1 s2 s3 t_90.2.2 s5 s6 s7 s8 s9 s10 a1 q_137 h_137) (wX10_104 1 hts ⟨Nat.le_of_ble_eq_true rfl, Nat.le_of_ble_eq_true rfl⟩) ⟨pg_137.1, va_recv hK hw.1 (ci := 4) (q0 := 4) rfl eC_4, pg_137.2⟩ rfl rfl hl.1 rfl (lv_room (Nat.le_of_ble_eq_true rfl)) dX10_cutByTape_137 ⟨Nat.le_refl _, Nat.le_refl _⟩) hw.2.2 (afr_in hw.2.2) (fun H locs hw => ?_)
                  refine lv_i2l hx hb dX10_cutByTape_140 rfl ?_
                  refine lv_lload hx hb dX10_cutByTape_141 (lv_at hl 4 rfl) ?_
                  refine lv_lsub hx hb dX10_cutByTape_143 ?_
                  obtain ⟨q_144, h_144, h⟩ := bnd_e h
                  have pg_144 := preG (av := [.ref (ad 4), .int ((1 : Int32)), .int a1, .long (((q_137).toInt64 - t_6.1))]) hK hw.1 hw.2.1 (NC_keep hN hw.2.2) NC_blind
                  refine endV (mc := 0) (ms := 0) (va_runV (As := [.int ((1 : Int32)), .int a1, .long (((q_137).toInt64 - t_6.1))]) (rest := []) ⟨hx, hb, hml, hown, hts⟩ (m4_charge l D ad cy H.size s0 t_90.2.1 s2 s3 t_90.2.2 s5 s6 s7 s8 s9 s10 ((1 : Int32)) a1 (((q_137).toInt64 - t_6.1)) q_144 h_144) (wX10_153 2 hts ⟨Nat.le_of_ble_eq_true rfl, Nat.le_of_ble_eq_true rfl⟩) ⟨pg_144.1, va_recv hK hw.1 (ci := 4) (q0 := 4) rfl eC_4, pg_144.2⟩ rfl rfl hl.1 rfl (lv_room (Nat.le_of_ble_eq_true rfl)) dX10_cutByTape_144 ⟨Nat.le_refl _, Nat.le_refl _⟩) hw.2.2 (afr_in hw.2.2) (fun H locs hw => ?_)
                  refine lv_aload_n hx hb dX10_cutByTape_147 rfl (lv_at hl 6 rfl) ?_
                  refine gX10_23 hx hb hts hown hK hw dX10_cutByTape_148 ?_
                  refine lv_iload_n hx hb dX10_cutByTape_151 rfl (lv_at hl 1 rfl) ?_
                  refine lv_iconst (v := 0) hx hb dX10_cutByTape_152 (by decide) ?_
                  refine lv_iconst (v := 0) hx hb dX10_cutByTape_153 (by decide) ?_
                  refine lv_bipush (v := 12) hx hb dX10_cutByTape_154 (by decide) ?_
                  refine lv_aload_n hx hb dX10_cutByTape_156 rfl (lv_at hl 6 rfl) ?_
                  refine gX10_69 hx hb hts hown hK hw dX10_cutByTape_157 ?_
                  obtain ⟨q_160, h_160, h⟩ := bnd_e h
                  have pg_160 := preG (av := [.ref (ad 4), .int a1, .int ((0 : Int32)), .int ((0 : Int32)), .int ((12 : Int32)), .int ((s10.1 0 9))]) hK hw.1 hw.2.1 (NC_keep hN hw.2.2) NC_blind
                  refine endV (mc := 0) (ms := 0) (va_runV (As := [.int a1, .int ((0 : Int32)), .int ((0 : Int32)), .int ((12 : Int32)), .int ((s10.1 0 9))]) (rest := []) ⟨hx, hb, hml, hown, hts⟩ (m4_change l D ad cy H.size s0 t_90.2.1 s2 s3 q_144 s5 s6 s7 s8 s9 s10 a1 ((0 : Int32)) ((0 : Int32)) ((12 : Int32)) ((s10.1 0 9)) q_160 h_160) (wX10_108 1 hts ⟨Nat.le_of_ble_eq_true rfl, Nat.le_of_ble_eq_true rfl⟩) ⟨pg_160.1, va_recv hK hw.1 (ci := 4) (q0 := 4) rfl eC_4, pg_160.2⟩ rfl rfl hl.1 rfl (lv_room (Nat.le_of_ble_eq_true rfl)) dX10_cutByTape_160 ⟨Nat.le_refl _, Nat.le_refl _⟩) hw.2.2 (afr_in hw.2.2) (fun H locs hw => ?_)
                  refine lv_iload hx hb dX10_cutByTape_163 (lv_at hl 5 rfl) ?_
                  have h := Option.some.inj h
                  subst h
                  rw [← hQ]
                  exact retI hx hb hr hlk hw rfl dX10_cutByTape_165
                · have h := ite_f c_93 h
                  refine lv_aload_n hx hb dX10_cutByTape_96 rfl (lv_at hl 6 rfl) ?_
                  refine gX10_23 hx hb hts hown hK hw dX10_cutByTape_97 ?_
                  refine lv_iload_n hx hb dX10_cutByTape_100 rfl (lv_at hl 1 rfl) ?_
                  refine lv_aload_n hx hb dX10_cutByTape_101 rfl (lv_at hl 6 rfl) ?_
                  refine gX10_16 hx hb hts hown hK hw dX10_cutByTape_102 ?_
                  refine lv_iload hx hb dX10_cutByTape_105 (lv_at hl 0 rfl) ?_
                  obtain ⟨q_107, h_107, h⟩ := bnd_e h
                  have pg_107 := preG (av := [.ref (ad 8), .int t_90.1]) hK hw.1 hw.2.1 (NC_keep hN hw.2.2) NC_blind
                  refine endI (mc := 0) (ms := 0) (va_runV (As := [.int t_90.1]) (rest := [.int a1, .ref (ad 4)]) ⟨hx, hb, hml, hown, hts⟩ (m8_number l D ad cy H.size s0 t_90.2.1 s2 s3 t_90.2.2 s5 s6 s7 s8 s9 s10 t_90.1 q_107 h_107) (wX10_143 1 hts ⟨Nat.le_of_ble_eq_true rfl, Nat.le_of_ble_eq_true rfl⟩) ⟨pg_107.1, va_recv hK hw.1 (ci := 8) (q0 := 8) rfl eC_8, pg_107.2⟩ rfl rfl hl.1 rfl (lv_room (Nat.le_of_ble_eq_true rfl)) dX10_cutByTape_107 ⟨Nat.le_refl _, Nat.le_refl _⟩) hw.2.2 (afr_in hw.2.2) (fun H locs hw => ?_)
                  refine lv_iconst (v := 1) hx hb dX10_cutByTape_110 (by decide) ?_
                  refine lv_iload_n hx hb dX10_cutByTape_111 rfl (lv_at hl 2 rfl) ?_
                  refine lv_ishl hx hb dX10_cutByTape_112 ?_
                  refine lv_aload_n hx hb dX10_cutByTape_113 rfl (lv_at hl 6 rfl) ?_
                  refine gX10_69 hx hb hts hown hK hw dX10_cutByTape_114 ?_
                  obtain ⟨q_117, h_117, h⟩ := bnd_e h
                  have pg_117 := preG (av := [.ref (ad 4), .int a1, .int q_107, .int (((1 : Int32) <<< (a2 &&& 31))), .int ((s10.1 0 9))]) hK hw.1 hw.2.1 (NC_keep hN hw.2.2) NC_blind
                  refine endV (mc := 0) (ms := 0) (va_runV (As := [.int a1, .int q_107, .int (((1 : Int32) <<< (a2 &&& 31))), .int ((s10.1 0 9))]) (rest := []) ⟨hx, hb, hml, hown, hts⟩ (m4_addPart l D ad cy H.size s0 t_90.2.1 s2 s3 t_90.2.2 s5 s6 s7 s8 s9 s10 a1 q_107 (((1 : Int32) <<< (a2 &&& 31))) ((s10.1 0 9)) q_117 h_117) (wX10_149 2 hts ⟨Nat.le_of_ble_eq_true rfl, Nat.le_of_ble_eq_true rfl⟩) ⟨pg_117.1, va_recv hK hw.1 (ci := 4) (q0 := 4) rfl eC_4, pg_117.2⟩ rfl rfl hl.1 rfl (lv_room (Nat.le_of_ble_eq_true rfl)) dX10_cutByTape_117 ⟨Nat.le_refl _, Nat.le_refl _⟩) hw.2.2 (afr_in hw.2.2) (fun H locs hw => ?_)
                  obtain ⟨n_120, e_120, h⟩ := nam_e h
                  refine lv_iinc (v := n_120) (lv' := [(7, .int n_120), (1, .int a1), (2, .int a2), (3, .int a3), (4, .long t_6.1), (6, .int q_82), (0, .ref (ad 10))]) hx hb dX10_cutByTape_120 hl (k := 0) rfl (by rw [e_120]; rfl) (by decide) rfl (fun ls hl => ?_)
                  refine lv_goto (tgt := 90) hx hb dX10_cutByTape_123 (by decide) ?_
                  exact ih_90 (n_120, q_117.1, q_117.2) H locs ls (nx_l hx_90 h) hw (lv_sub hl [0, 1, 2, 3, 4, 5, 6] rfl)
            exact hL_90 n_90 ((0 : Int32), s1, s4) H locs ls hn_90 hw (lv_sub hl [0, 3, 4, 5, 2, 1, 6] rfl)
          · have h := ite_t c_72 h
            refine lv_bipush (v := (-3)) hx hb dX10_cutByTape_75 (by decide) ?_
            have h := Option.some.inj h
            subst h
            rw [← hQ]
            exact retI hx hb hr hlk hw rfl dX10_cutByTape_77
        · have h := ite_f c_58 h
          refine lv_bipush (v := (-2)) hx hb dX10_cutByTape_61 (by decide) ?_
          have h := Option.some.inj h
          subst h
          rw [← hQ]
          exact retI hx hb hr hlk hw rfl dX10_cutByTape_63
      · have h := ite_f c_9 h
        refine lv_aload_n hx hb dX10_cutByTape_12 rfl (lv_at hl 5 rfl) ?_
        refine gX10_16 hx hb hts hown hK hw dX10_cutByTape_13 ?_
        refine lv_iload hx hb dX10_cutByTape_16 (lv_at hl 1 rfl) ?_
        obtain ⟨q_18, h_18, h⟩ := bnd_e h
        have pg_18 := preG (av := [.ref (ad 8), .int t_6.2]) hK hw.1 hw.2.1 (NC_keep hN hw.2.2) NC_blind
        refine endI (mc := 0) (ms := 0) (va_runV (As := [.int t_6.2]) (rest := []) ⟨hx, hb, hml, hown, hts⟩ (m8_number l D ad cy H.size s0 s1 s2 s3 s4 s5 s6 s7 s8 s9 s10 t_6.2 q_18 h_18) (wX10_143 1 hts ⟨Nat.le_of_ble_eq_true rfl, Nat.le_of_ble_eq_true rfl⟩) ⟨pg_18.1, va_recv hK hw.1 (ci := 8) (q0 := 8) rfl eC_8, pg_18.2⟩ rfl rfl hl.1 rfl (lv_room (Nat.le_of_ble_eq_true rfl)) dX10_cutByTape_18 ⟨Nat.le_refl _, Nat.le_refl _⟩) hw.2.2 (afr_in hw.2.2) (fun H locs hw => ?_)
        refine lv_istore (lv' := [(7, .int q_18), (4, .long t_6.1), (6, .int t_6.2), (1, .int a1), (2, .int a2), (3, .int a3), (0, .ref (ad 10))]) hx hb dX10_cutByTape_21 hl (by decide) rfl (fun ls hl => ?_)
        refine lv_iload hx hb dX10_cutByTape_23 (lv_at hl 0 rfl) ?_
        refine lv_iconst (v := 1) hx hb dX10_cutByTape_25 (by decide) ?_
        refine lv_icmp_ge (tgt := 32) hx hb dX10_cutByTape_26 (by decide) (fun c_26 => ?_) (fun c_26 => ?_)
        · have h := ite_t c_26 h
          refine lv_lload hx hb dX10_cutByTape_32 (lv_at hl 1 rfl) ?_
          refine lv_iload hx hb dX10_cutByTape_34 (lv_at hl 0 rfl) ?_
          refine lv_i2l hx hb dX10_cutByTape_36 rfl ?_
          refine lv_ladd hx hb dX10_cutByTape_37 ?_
          obtain ⟨n_38, e_38, h⟩ := nam_e h
          refine topL e_38 ?_
          refine lv_lstore (lv' := [(4, .long n_38), (7, .int q_18), (6, .int t_6.2), (1, .int a1), (2, .int a2), (3, .int a3), (0, .ref (ad 10))]) hx hb dX10_cutByTape_38 hl (by decide) rfl (fun ls hl => ?_)
          obtain ⟨n_40, e_40, h⟩ := nam_e h
          refine lv_iinc (v := n_40) (lv' := [(6, .int n_40), (4, .long n_38), (7, .int q_18), (1, .int a1), (2, .int a2), (3, .int a3), (0, .ref (ad 10))]) hx hb dX10_cutByTape_40 hl (k := 2) rfl (by rw [e_40]; rfl) (by decide) rfl (fun ls hl => ?_)
          refine lv_goto (tgt := 6) hx hb dX10_cutByTape_43 (by decide) ?_
          exact ih_6 (n_38, n_40) H locs ls (nx_l hx_6 h) hw (lv_sub hl [1, 0, 3, 4, 5, 6] rfl)
        · have h := ite_f c_26 h
          have h := nx_m hx_6 h
          refine lv_bipush (v := (-2)) hx hb dX10_cutByTape_29 (by decide) ?_
          have h := Option.some.inj h
          subst h
          rw [← hQ]
          exact retI hx hb hr hlk hw rfl dX10_cutByTape_31
  exact hL_6 n_6 ((0 : Int64), (0 : Int32)) H locs ls hn_6 hw (lv_sub hl [1, 0, 3, 4, 5, 2] rfl)
theorem dX10_cut_0 : decode cX10_cut 0 = .ok (.iload_n 2, 1) := by decide +kernel
theorem dX10_cut_1 : decode cX10_cut 1 = .ok (.iconst 0, 1) := by decide +kernel
theorem dX10_cut_2 : decode cX10_cut 2 = .ok (.bipush 15, 2) := by decide +kernel
theorem dX10_cut_4 : decode cX10_cut 4 = .ok (.invokestatic 86, 3) := by decide +kernel
theorem dX10_cut_7 : decode cX10_cut 7 = .ok (.ifCond .eq 13, 3) := by decide +kernel
theorem dX10_cut_10 : decode cX10_cut 10 = .ok (.iload_n 3, 1) := by decide +kernel
theorem dX10_cut_11 : decode cX10_cut 11 = .ok (.iconst 2, 1) := by decide +kernel
theorem dX10_cut_12 : decode cX10_cut 12 = .ok (.bipush 6, 2) := by decide +kernel
theorem dX10_cut_14 : decode cX10_cut 14 = .ok (.invokestatic 86, 3) := by decide +kernel
theorem dX10_cut_17 : decode cX10_cut 17 = .ok (.ifCond .ne 5, 3) := by decide +kernel
theorem dX10_cut_20 : decode cX10_cut 20 = .ok (.iconst (-1), 1) := by decide +kernel
theorem dX10_cut_21 : decode cX10_cut 21 = .ok (.ireturn, 1) := by decide +kernel
theorem dX10_cut_22 : decode cX10_cut 22 = .ok (.aload_n 0, 1) := by decide +kernel
theorem dX10_cut_23 : decode cX10_cut 23 = .ok (.getfield 23, 3) := by decide +kernel
theorem dX10_cut_26 : decode cX10_cut 26 = .ok (.iload_n 1, 1) := by decide +kernel
theorem dX10_cut_27 : decode cX10_cut 27 = .ok (.invokevirtual 130, 3) := by decide +kernel
theorem dX10_cut_30 : decode cX10_cut 30 = .ok (.ifCond .eq 14, 3) := by decide +kernel
theorem dX10_cut_33 : decode cX10_cut 33 = .ok (.aload_n 0, 1) := by decide +kernel
theorem dX10_cut_34 : decode cX10_cut 34 = .ok (.getfield 16, 3) := by decide +kernel
theorem dX10_cut_37 : decode cX10_cut 37 = .ok (.iload_n 3, 1) := by decide +kernel
theorem dX10_cut_38 : decode cX10_cut 38 = .ok (.invokevirtual 133, 3) := by decide +kernel
theorem dX10_cut_41 : decode cX10_cut 41 = .ok (.ifCond .ne 5, 3) := by decide +kernel
theorem dX10_cut_44 : decode cX10_cut 44 = .ok (.iconst (-1), 1) := by decide +kernel
theorem dX10_cut_45 : decode cX10_cut 45 = .ok (.ireturn, 1) := by decide +kernel
theorem dX10_cut_46 : decode cX10_cut 46 = .ok (.aload_n 0, 1) := by decide +kernel
theorem dX10_cut_47 : decode cX10_cut 47 = .ok (.iload_n 1, 1) := by decide +kernel
theorem dX10_cut_48 : decode cX10_cut 48 = .ok (.iload_n 2, 1) := by decide +kernel
theorem dX10_cut_49 : decode cX10_cut 49 = .ok (.iload_n 3, 1) := by decide +kernel
theorem dX10_cut_50 : decode cX10_cut 50 = .ok (.invokevirtual 136, 3) := by decide +kernel
theorem dX10_cut_53 : decode cX10_cut 53 = .ok (.istore 4, 2) := by decide +kernel
theorem dX10_cut_55 : decode cX10_cut 55 = .ok (.aload_n 0, 1) := by decide +kernel
theorem dX10_cut_56 : decode cX10_cut 56 = .ok (.getfield 16, 3) := by decide +kernel
theorem dX10_cut_59 : decode cX10_cut 59 = .ok (.invokevirtual 140, 3) := by decide +kernel
theorem dX10_cut_62 : decode cX10_cut 62 = .ok (.iload 4, 2) := by decide +kernel
theorem dX10_cut_64 : decode cX10_cut 64 = .ok (.ireturn, 1) := by decide +kernel
noncomputable def f10_cut_j44 (s1_j44 : OS) (s4_j44 : OS) (s8_j44 : OS) (s10_j44 : OS) : Option (Int32 × OS × OS × OS) := some ((-1 : Int32), s1_j44, s4_j44, s8_j44)
noncomputable def f10_cut_j20 (s1_j20 : OS) (s4_j20 : OS) (s8_j20 : OS) (s10_j20 : OS) : Option (Int32 × OS × OS × OS) := some ((-1 : Int32), s1_j20, s4_j20, s8_j20)
noncomputable def f10_cut (a1 : Int32) (a2 : Int32) (a3 : Int32) (s1 : OS) (s4 : OS) (s8 : OS) (s10 : OS) : Option (Int32 × OS × OS × OS) := Option.bind (f10_isWithin a2 ((0 : Int32)) ((15 : Int32))) fun q_4 => if q_4 = 0 then (f10_cut_j20 s1 s4 s8 s10) else (Option.bind (f10_isWithin a3 ((2 : Int32)) ((6 : Int32))) fun q_14 => if q_14 = 0 then (f10_cut_j20 s1 s4 s8 s10) else (Option.bind (f4_isAtHand a1 s4) fun q_27 => if q_27 = 0 then (f10_cut_j44 s1 s4 s8 s10) else (Option.bind (f8_hasNumbers a3 s8) fun q_38 => if q_38 = 0 then (f10_cut_j44 s1 s4 s8 s10) else (Option.bind (f10_cutByTape a1 a2 a3 s1 s4 s8 s10) fun q_50 => Option.bind (f8_wipe s8) fun q_59 => some (q_50.1, q_50.2.1, q_50.2.2, q_59)))))
set_option maxHeartbeats 4000000 in
set_option maxRecDepth 100000 in
theorem m10_cut (l : Launch) (D : va_G) (ad : Nat → Nat) (cy : Nat → ClassId) (sz : Nat) (s0 s1 s2 s3 s4 s5 s6 s7 s8 s9 s10 : OS) (a1 : Int32) (a2 : Int32) (a3 : Int32) (r : Int32 × OS × OS × OS) (h : f10_cut a1 a2 a3 s1 s4 s8 s10 = some r) : Met l yX10_cut (wsOf yX10_cut cX10_cut 5 (some .int)) (rmL 4) (va_Pc ([.ref (ad 10), .int a1, .int a2, .int a3] : List Value) (PreG D cy (cellsC ad cy s0 s1 s2 s3 s4 s5 s6 s7 s8 s9 s10) sz (NC ad))) (QcI D ad 67 (cellsC ad cy s0 r.2.1 s2 s3 r.2.2.1 s5 s6 s7 r.2.2.2 s9 s10) (r.1) sz) 0 0 (Afr ad 67 sz) := by
  refine metG (own := RX10) (by decide) rfl (Nat.le_of_ble_eq_true rfl) fstC ?_ sz
  intro p e s m below meth c ls C0 hw hl
  obtain ⟨hx, hb, hml, hown, hts, hr, hlk, hK, hN⟩ := C0
  have hl : lv_has ls 5 [(0, .ref (ad 10)), (1, .int a1), (2, .int a2), (3, .int a3)] := hl
  generalize hQ : MQ below (QcI D ad 67 (cellsC ad cy s0 r.2.1 s2 s3 r.2.2.1 s5 s6 s7 r.2.2.2 s9 s10) (r.1) s.heap.size) ([.ref (ad 10), .int a1, .int a2, .int a3] : List Value).toArray s 0 0 (Afr ad 67 s.heap.size) = Q
  obtain ⟨H, hH⟩ : ∃ H : Heap, H = s.heap := ⟨_, rfl⟩
  obtain ⟨locs, hlc⟩ : ∃ L : List Loc, L = [] := ⟨_, rfl⟩
  have hw : Wd D (cellsC ad cy s0 s1 s2 s3 s4 s5 s6 s7 s8 s9 s10) (Afr ad 67 s.heap.size) s.heap H locs := by rw [hH, hlc]; exact hw
  suffices h0 : W p l e (rmL 4) s m ([.ref (ad 10), .int a1, .int a2, .int a3] : List Value).toArray below meth c H locs 0 0 Q (F0 m 0 ls []) by rw [hH, hlc] at h0; exact h0
  clear hH hlc
  unfold f10_cut at h
  have hJ_44 : ∀ (s1_j44 : OS) (s4_j44 : OS) (s8_j44 : OS) (H : Heap) (locs : List Loc) (ls : Array Slot), f10_cut_j44 s1_j44 s4_j44 s8_j44 s10 = some r → Wd D (cellsC ad cy s0 s1_j44 s2 s3 s4_j44 s5 s6 s7 s8_j44 s9 s10) (Afr ad 67 s.heap.size) s.heap H locs → lv_has ls 5 [] → W p l e (rmL 4) s m ([.ref (ad 10), .int a1, .int a2, .int a3] : List Value).toArray below meth c H locs 0 0 Q (F0 m 44 ls []) := by
    intro s1_j44 s4_j44 s8_j44 H locs ls h hw hl
    unfold f10_cut_j44 at h
    refine lv_iconst (v := (-1)) hx hb dX10_cut_44 (by decide) ?_
    have h := Option.some.inj h
    subst h
    rw [← hQ]
    exact retI hx hb hr hlk hw rfl dX10_cut_45
  have hJ_20 : ∀ (s1_j20 : OS) (s4_j20 : OS) (s8_j20 : OS) (H : Heap) (locs : List Loc) (ls : Array Slot), f10_cut_j20 s1_j20 s4_j20 s8_j20 s10 = some r → Wd D (cellsC ad cy s0 s1_j20 s2 s3 s4_j20 s5 s6 s7 s8_j20 s9 s10) (Afr ad 67 s.heap.size) s.heap H locs → lv_has ls 5 [] → W p l e (rmL 4) s m ([.ref (ad 10), .int a1, .int a2, .int a3] : List Value).toArray below meth c H locs 0 0 Q (F0 m 20 ls []) := by
    intro s1_j20 s4_j20 s8_j20 H locs ls h hw hl
    unfold f10_cut_j20 at h
    refine lv_iconst (v := (-1)) hx hb dX10_cut_20 (by decide) ?_
    have h := Option.some.inj h
    subst h
    rw [← hQ]
    exact retI hx hb hr hlk hw rfl dX10_cut_21
  refine lv_iload_n hx hb dX10_cut_0 rfl (lv_at hl 2 rfl) ?_
  refine lv_iconst (v := 0) hx hb dX10_cut_1 (by decide) ?_
  refine lv_bipush (v := 15) hx hb dX10_cut_2 (by decide) ?_
  obtain ⟨q_4, h_4, h⟩ := bnd_e h
  have pg_4 := preG (av := [.int a2, .int ((0 : Int32)), .int ((15 : Int32))]) hK hw.1 hw.2.1 (NC_keep hN hw.2.2) NC_blind
  refine endI (mc := 0) (ms := 0) (va_runS (As := [.int a2, .int ((0 : Int32)), .int ((15 : Int32))]) (rest := []) ⟨hx, hb, hml, hown, hts⟩ (m10_isWithin l D ad cy H.size s0 s1 s2 s3 s4 s5 s6 s7 s8 s9 s10 a2 ((0 : Int32)) ((15 : Int32)) q_4 h_4) (wX10_86 0 hts ⟨Nat.le_of_ble_eq_true rfl, Nat.le_of_ble_eq_true rfl⟩) pg_4 rfl rfl hl.1 rfl (lv_room (Nat.le_of_ble_eq_true rfl)) dX10_cut_4 ⟨Nat.le_refl _, Nat.le_refl _⟩) hw.2.2 (afr_in hw.2.2) (fun H locs hw => ?_)
  refine lv_if_eq (tgt := 20) hx hb dX10_cut_7 (by decide) (fun c_7 => ?_) (fun c_7 => ?_)
  · have h := ite_t c_7 h
    exact hJ_20 s1 s4 s8 H locs ls h hw (lv_sub hl [] rfl)
  · have h := ite_f c_7 h
    refine lv_iload_n hx hb dX10_cut_10 rfl (lv_at hl 3 rfl) ?_
    refine lv_iconst (v := 2) hx hb dX10_cut_11 (by decide) ?_
    refine lv_bipush (v := 6) hx hb dX10_cut_12 (by decide) ?_
    obtain ⟨q_14, h_14, h⟩ := bnd_e h
    have pg_14 := preG (av := [.int a3, .int ((2 : Int32)), .int ((6 : Int32))]) hK hw.1 hw.2.1 (NC_keep hN hw.2.2) NC_blind
    refine endI (mc := 0) (ms := 0) (va_runS (As := [.int a3, .int ((2 : Int32)), .int ((6 : Int32))]) (rest := []) ⟨hx, hb, hml, hown, hts⟩ (m10_isWithin l D ad cy H.size s0 s1 s2 s3 s4 s5 s6 s7 s8 s9 s10 a3 ((2 : Int32)) ((6 : Int32)) q_14 h_14) (wX10_86 0 hts ⟨Nat.le_of_ble_eq_true rfl, Nat.le_of_ble_eq_true rfl⟩) pg_14 rfl rfl hl.1 rfl (lv_room (Nat.le_of_ble_eq_true rfl)) dX10_cut_14 ⟨Nat.le_refl _, Nat.le_refl _⟩) hw.2.2 (afr_in hw.2.2) (fun H locs hw => ?_)
    refine lv_if_ne (tgt := 22) hx hb dX10_cut_17 (by decide) (fun c_17 => ?_) (fun c_17 => ?_)
    · have h := ite_f c_17 h
      refine lv_aload_n hx hb dX10_cut_22 rfl (lv_at hl 0 rfl) ?_
      refine gX10_23 hx hb hts hown hK hw dX10_cut_23 ?_
      refine lv_iload_n hx hb dX10_cut_26 rfl (lv_at hl 1 rfl) ?_
      obtain ⟨q_27, h_27, h⟩ := bnd_e h
      have pg_27 := preG (av := [.ref (ad 4), .int a1]) hK hw.1 hw.2.1 (NC_keep hN hw.2.2) NC_blind
      refine endI (mc := 0) (ms := 0) (va_runV (As := [.int a1]) (rest := []) ⟨hx, hb, hml, hown, hts⟩ (m4_isAtHand l D ad cy H.size s0 s1 s2 s3 s4 s5 s6 s7 s8 s9 s10 a1 q_27 h_27) (wX10_130 2 hts ⟨Nat.le_of_ble_eq_true rfl, Nat.le_of_ble_eq_true rfl⟩) ⟨pg_27.1, va_recv hK hw.1 (ci := 4) (q0 := 4) rfl eC_4, pg_27.2⟩ rfl rfl hl.1 rfl (lv_room (Nat.le_of_ble_eq_true rfl)) dX10_cut_27 ⟨Nat.le_refl _, Nat.le_refl _⟩) hw.2.2 (afr_in hw.2.2) (fun H locs hw => ?_)
      refine lv_if_eq (tgt := 44) hx hb dX10_cut_30 (by decide) (fun c_30 => ?_) (fun c_30 => ?_)
      · have h := ite_t c_30 h
        exact hJ_44 s1 s4 s8 H locs ls h hw (lv_sub hl [] rfl)
      · have h := ite_f c_30 h
        refine lv_aload_n hx hb dX10_cut_33 rfl (lv_at hl 0 rfl) ?_
        refine gX10_16 hx hb hts hown hK hw dX10_cut_34 ?_
        refine lv_iload_n hx hb dX10_cut_37 rfl (lv_at hl 3 rfl) ?_
        obtain ⟨q_38, h_38, h⟩ := bnd_e h
        have pg_38 := preG (av := [.ref (ad 8), .int a3]) hK hw.1 hw.2.1 (NC_keep hN hw.2.2) NC_blind
        refine endI (mc := 0) (ms := 0) (va_runV (As := [.int a3]) (rest := []) ⟨hx, hb, hml, hown, hts⟩ (m8_hasNumbers l D ad cy H.size s0 s1 s2 s3 s4 s5 s6 s7 s8 s9 s10 a3 q_38 h_38) (wX10_133 0 hts ⟨Nat.le_of_ble_eq_true rfl, Nat.le_of_ble_eq_true rfl⟩) ⟨pg_38.1, va_recv hK hw.1 (ci := 8) (q0 := 8) rfl eC_8, pg_38.2⟩ rfl rfl hl.1 rfl (lv_room (Nat.le_of_ble_eq_true rfl)) dX10_cut_38 ⟨Nat.le_refl _, Nat.le_refl _⟩) hw.2.2 (afr_in hw.2.2) (fun H locs hw => ?_)
        refine lv_if_ne (tgt := 46) hx hb dX10_cut_41 (by decide) (fun c_41 => ?_) (fun c_41 => ?_)
        · have h := ite_f c_41 h
          refine lv_aload_n hx hb dX10_cut_46 rfl (lv_at hl 0 rfl) ?_
          refine lv_iload_n hx hb dX10_cut_47 rfl (lv_at hl 1 rfl) ?_
          refine lv_iload_n hx hb dX10_cut_48 rfl (lv_at hl 2 rfl) ?_
          refine lv_iload_n hx hb dX10_cut_49 rfl (lv_at hl 3 rfl) ?_
          obtain ⟨q_50, h_50, h⟩ := bnd_e h
          have pg_50 := preG (av := [.ref (ad 10), .int a1, .int a2, .int a3]) hK hw.1 hw.2.1 (NC_keep hN hw.2.2) NC_blind
          refine endI (mc := 0) (ms := 0) (va_runV (As := [.int a1, .int a2, .int a3]) (rest := []) ⟨hx, hb, hml, hown, hts⟩ (m10_cutByTape l D ad cy H.size s0 s1 s2 s3 s4 s5 s6 s7 s8 s9 s10 a1 a2 a3 q_50 h_50) (wX10_136 3 hts ⟨Nat.le_of_ble_eq_true rfl, Nat.le_of_ble_eq_true rfl⟩) ⟨pg_50.1, va_recv hK hw.1 (ci := 10) (q0 := 10) rfl eC_10, pg_50.2⟩ rfl rfl hl.1 rfl (lv_room (Nat.le_of_ble_eq_true rfl)) dX10_cut_50 ⟨Nat.le_refl _, Nat.le_refl _⟩) hw.2.2 (afr_in hw.2.2) (fun H locs hw => ?_)
          refine lv_istore (lv' := [(4, .int q_50.1), (0, .ref (ad 10)), (1, .int a1), (2, .int a2), (3, .int a3)]) hx hb dX10_cut_53 hl (by decide) rfl (fun ls hl => ?_)
          refine lv_aload_n hx hb dX10_cut_55 rfl (lv_at hl 1 rfl) ?_
          refine gX10_16 hx hb hts hown hK hw dX10_cut_56 ?_
          obtain ⟨q_59, h_59, h⟩ := bnd_e h
          have pg_59 := preG (av := [.ref (ad 8)]) hK hw.1 hw.2.1 (NC_keep hN hw.2.2) NC_blind
          refine endV (mc := 0) (ms := 0) (va_runV (As := []) (rest := []) ⟨hx, hb, hml, hown, hts⟩ (m8_wipe l D ad cy H.size s0 q_50.2.1 s2 s3 q_50.2.2 s5 s6 s7 s8 s9 s10 q_59 h_59) (wX10_140 0 hts ⟨Nat.le_of_ble_eq_true rfl, Nat.le_of_ble_eq_true rfl⟩) ⟨pg_59.1, va_recv hK hw.1 (ci := 8) (q0 := 8) rfl eC_8, pg_59.2⟩ rfl rfl hl.1 rfl (lv_room (Nat.le_of_ble_eq_true rfl)) dX10_cut_59 ⟨Nat.le_refl _, Nat.le_refl _⟩) hw.2.2 (afr_in hw.2.2) (fun H locs hw => ?_)
          refine lv_iload hx hb dX10_cut_62 (lv_at hl 0 rfl) ?_
          have h := Option.some.inj h
          subst h
          rw [← hQ]
          exact retI hx hb hr hlk hw rfl dX10_cut_64
        · have h := ite_t c_41 h
          exact hJ_44 s1 s4 s8 H locs ls h hw (lv_sub hl [] rfl)
    · have h := ite_t c_17 h
      exact hJ_20 s1 s4 s8 H locs ls h hw (lv_sub hl [] rfl)
theorem dX10_drifts_0 : decode cX10_drifts 0 = .ok (.iload_n 1, 1) := by decide +kernel
theorem dX10_drifts_1 : decode cX10_drifts 1 = .ok (.iconst 0, 1) := by decide +kernel
theorem dX10_drifts_2 : decode cX10_drifts 2 = .ok (.iconst 3, 1) := by decide +kernel
theorem dX10_drifts_3 : decode cX10_drifts 3 = .ok (.invokestatic 86, 3) := by decide +kernel
theorem dX10_drifts_6 : decode cX10_drifts 6 = .ok (.ifCond .eq 10, 3) := by decide +kernel
theorem dX10_drifts_9 : decode cX10_drifts 9 = .ok (.iload_n 2, 1) := by decide +kernel
theorem dX10_drifts_10 : decode cX10_drifts 10 = .ok (.invokestatic 73, 3) := by decide +kernel
theorem dX10_drifts_13 : decode cX10_drifts 13 = .ok (.ifCond .ne 7, 3) := by decide +kernel
theorem dX10_drifts_16 : decode cX10_drifts 16 = .ok (.sipush (-2000), 3) := by decide +kernel
theorem dX10_drifts_19 : decode cX10_drifts 19 = .ok (.ireturn, 1) := by decide +kernel
theorem dX10_drifts_20 : decode cX10_drifts 20 = .ok (.aload_n 0, 1) := by decide +kernel
theorem dX10_drifts_21 : decode cX10_drifts 21 = .ok (.getfield 44, 3) := by decide +kernel
theorem dX10_drifts_24 : decode cX10_drifts 24 = .ok (.iload_n 1, 1) := by decide +kernel
theorem dX10_drifts_25 : decode cX10_drifts 25 = .ok (.iload_n 2, 1) := by decide +kernel
theorem dX10_drifts_26 : decode cX10_drifts 26 = .ok (.iload_n 3, 1) := by decide +kernel
theorem dX10_drifts_27 : decode cX10_drifts 27 = .ok (.invokevirtual 268, 3) := by decide +kernel
theorem dX10_drifts_30 : decode cX10_drifts 30 = .ok (.ireturn, 1) := by decide +kernel
noncomputable def f10_drifts_j16 (s7_j16 : OS) : Option (Int32) := some ((-2000 : Int32))
noncomputable def f10_drifts (a1 : Int32) (a2 : Int32) (a3 : Int32) (s7 : OS) : Option (Int32) := Option.bind (f10_isWithin a1 ((0 : Int32)) ((3 : Int32))) fun q_3 => if q_3 = 0 then (f10_drifts_j16 s7) else (Option.bind (f10_isDay a2) fun q_10 => if q_10 = 0 then (f10_drifts_j16 s7) else (Option.bind (f7_tell a1 a2 a3 s7) fun q_27 => some q_27))
set_option maxHeartbeats 4000000 in
set_option maxRecDepth 100000 in
theorem m10_drifts (l : Launch) (D : va_G) (ad : Nat → Nat) (cy : Nat → ClassId) (sz : Nat) (s0 s1 s2 s3 s4 s5 s6 s7 s8 s9 s10 : OS) (a1 : Int32) (a2 : Int32) (a3 : Int32) (r : Int32) (h : f10_drifts a1 a2 a3 s7 = some r) : Met l yX10_drifts (wsOf yX10_drifts cX10_drifts 4 (some .int)) (rmL 2) (va_Pc ([.ref (ad 10), .int a1, .int a2, .int a3] : List Value) (PreG D cy (cellsC ad cy s0 s1 s2 s3 s4 s5 s6 s7 s8 s9 s10) sz (NC ad))) (QcI D ad 67 (cellsC ad cy s0 s1 s2 s3 s4 s5 s6 s7 s8 s9 s10) (r) sz) 0 0 (Afr ad 67 sz) := by
  refine metG (own := RX10) (by decide) rfl (Nat.le_of_ble_eq_true rfl) fstC ?_ sz
  intro p e s m below meth c ls C0 hw hl
  obtain ⟨hx, hb, hml, hown, hts, hr, hlk, hK, hN⟩ := C0
  have hl : lv_has ls 4 [(0, .ref (ad 10)), (1, .int a1), (2, .int a2), (3, .int a3)] := hl
  generalize hQ : MQ below (QcI D ad 67 (cellsC ad cy s0 s1 s2 s3 s4 s5 s6 s7 s8 s9 s10) (r) s.heap.size) ([.ref (ad 10), .int a1, .int a2, .int a3] : List Value).toArray s 0 0 (Afr ad 67 s.heap.size) = Q
  obtain ⟨H, hH⟩ : ∃ H : Heap, H = s.heap := ⟨_, rfl⟩
  obtain ⟨locs, hlc⟩ : ∃ L : List Loc, L = [] := ⟨_, rfl⟩
  have hw : Wd D (cellsC ad cy s0 s1 s2 s3 s4 s5 s6 s7 s8 s9 s10) (Afr ad 67 s.heap.size) s.heap H locs := by rw [hH, hlc]; exact hw
  suffices h0 : W p l e (rmL 2) s m ([.ref (ad 10), .int a1, .int a2, .int a3] : List Value).toArray below meth c H locs 0 0 Q (F0 m 0 ls []) by rw [hH, hlc] at h0; exact h0
  clear hH hlc
  unfold f10_drifts at h
  have hJ_16 : ∀  (H : Heap) (locs : List Loc) (ls : Array Slot), f10_drifts_j16 s7 = some r → Wd D (cellsC ad cy s0 s1 s2 s3 s4 s5 s6 s7 s8 s9 s10) (Afr ad 67 s.heap.size) s.heap H locs → lv_has ls 4 [] → W p l e (rmL 2) s m ([.ref (ad 10), .int a1, .int a2, .int a3] : List Value).toArray below meth c H locs 0 0 Q (F0 m 16 ls []) := by
    intro  H locs ls h hw hl
    unfold f10_drifts_j16 at h
    refine lv_sipush (v := (-2000)) hx hb dX10_drifts_16 (by decide) ?_
    have h := Option.some.inj h
    subst h
    rw [← hQ]
    exact retI hx hb hr hlk hw rfl dX10_drifts_19
  refine lv_iload_n hx hb dX10_drifts_0 rfl (lv_at hl 1 rfl) ?_
  refine lv_iconst (v := 0) hx hb dX10_drifts_1 (by decide) ?_
  refine lv_iconst (v := 3) hx hb dX10_drifts_2 (by decide) ?_
  obtain ⟨q_3, h_3, h⟩ := bnd_e h
  have pg_3 := preG (av := [.int a1, .int ((0 : Int32)), .int ((3 : Int32))]) hK hw.1 hw.2.1 (NC_keep hN hw.2.2) NC_blind
  refine endI (mc := 0) (ms := 0) (va_runS (As := [.int a1, .int ((0 : Int32)), .int ((3 : Int32))]) (rest := []) ⟨hx, hb, hml, hown, hts⟩ (m10_isWithin l D ad cy H.size s0 s1 s2 s3 s4 s5 s6 s7 s8 s9 s10 a1 ((0 : Int32)) ((3 : Int32)) q_3 h_3) (wX10_86 0 hts ⟨Nat.le_of_ble_eq_true rfl, Nat.le_of_ble_eq_true rfl⟩) pg_3 rfl rfl hl.1 rfl (lv_room (Nat.le_of_ble_eq_true rfl)) dX10_drifts_3 ⟨Nat.le_refl _, Nat.le_refl _⟩) hw.2.2 (afr_in hw.2.2) (fun H locs hw => ?_)
  refine lv_if_eq (tgt := 16) hx hb dX10_drifts_6 (by decide) (fun c_6 => ?_) (fun c_6 => ?_)
  · have h := ite_t c_6 h
    exact hJ_16  H locs ls h hw (lv_sub hl [] rfl)
  · have h := ite_f c_6 h
    refine lv_iload_n hx hb dX10_drifts_9 rfl (lv_at hl 2 rfl) ?_
    obtain ⟨q_10, h_10, h⟩ := bnd_e h
    have pg_10 := preG (av := [.int a2]) hK hw.1 hw.2.1 (NC_keep hN hw.2.2) NC_blind
    refine endI (mc := 0) (ms := 0) (va_runS (As := [.int a2]) (rest := []) ⟨hx, hb, hml, hown, hts⟩ (m10_isDay l D ad cy H.size s0 s1 s2 s3 s4 s5 s6 s7 s8 s9 s10 a2 q_10 h_10) (wX10_73 1 hts ⟨Nat.le_of_ble_eq_true rfl, Nat.le_of_ble_eq_true rfl⟩) pg_10 rfl rfl hl.1 rfl (lv_room (Nat.le_of_ble_eq_true rfl)) dX10_drifts_10 ⟨Nat.le_refl _, Nat.le_refl _⟩) hw.2.2 (afr_in hw.2.2) (fun H locs hw => ?_)
    refine lv_if_ne (tgt := 20) hx hb dX10_drifts_13 (by decide) (fun c_13 => ?_) (fun c_13 => ?_)
    · have h := ite_f c_13 h
      refine lv_aload_n hx hb dX10_drifts_20 rfl (lv_at hl 0 rfl) ?_
      refine gX10_44 hx hb hts hown hK hw dX10_drifts_21 ?_
      refine lv_iload_n hx hb dX10_drifts_24 rfl (lv_at hl 1 rfl) ?_
      refine lv_iload_n hx hb dX10_drifts_25 rfl (lv_at hl 2 rfl) ?_
      refine lv_iload_n hx hb dX10_drifts_26 rfl (lv_at hl 3 rfl) ?_
      obtain ⟨q_27, h_27, h⟩ := bnd_e h
      have pg_27 := preG (av := [.ref (ad 7), .int a1, .int a2, .int a3]) hK hw.1 hw.2.1 (NC_keep hN hw.2.2) NC_blind
      refine endI (mc := 0) (ms := 0) (va_runV (As := [.int a1, .int a2, .int a3]) (rest := []) ⟨hx, hb, hml, hown, hts⟩ (m7_tell l D ad cy H.size s0 s1 s2 s3 s4 s5 s6 s7 s8 s9 s10 a1 a2 a3 q_27 h_27) (wX10_268 1 hts ⟨Nat.le_of_ble_eq_true rfl, Nat.le_of_ble_eq_true rfl⟩) ⟨pg_27.1, va_recv hK hw.1 (ci := 7) (q0 := 7) rfl eC_7, pg_27.2⟩ rfl rfl hl.1 rfl (lv_room (Nat.le_of_ble_eq_true rfl)) dX10_drifts_27 ⟨Nat.le_refl _, Nat.le_refl _⟩) hw.2.2 (afr_in hw.2.2) (fun H locs hw => ?_)
      have h := Option.some.inj h
      subst h
      rw [← hQ]
      exact retI hx hb hr hlk hw rfl dX10_drifts_30
    · have h := ite_t c_13 h
      exact hJ_16  H locs ls h hw (lv_sub hl [] rfl)
theorem dX10_feed_0 : decode cX10_feed 0 = .ok (.aload_n 0, 1) := by decide +kernel
theorem dX10_feed_1 : decode cX10_feed 1 = .ok (.getfield 16, 3) := by decide +kernel
theorem dX10_feed_4 : decode cX10_feed 4 = .ok (.iconst 5, 1) := by decide +kernel
theorem dX10_feed_5 : decode cX10_feed 5 = .ok (.invokevirtual 122, 3) := by decide +kernel
theorem dX10_feed_8 : decode cX10_feed 8 = .ok (.ifCond .ne 5, 3) := by decide +kernel
theorem dX10_feed_11 : decode cX10_feed 11 = .ok (.iconst (-1), 1) := by decide +kernel
theorem dX10_feed_12 : decode cX10_feed 12 = .ok (.ireturn, 1) := by decide +kernel
theorem dX10_feed_13 : decode cX10_feed 13 = .ok (.aload_n 0, 1) := by decide +kernel
theorem dX10_feed_14 : decode cX10_feed 14 = .ok (.getfield 16, 3) := by decide +kernel
theorem dX10_feed_17 : decode cX10_feed 17 = .ok (.iload_n 1, 1) := by decide +kernel
theorem dX10_feed_18 : decode cX10_feed 18 = .ok (.invokevirtual 123, 3) := by decide +kernel
theorem dX10_feed_21 : decode cX10_feed 21 = .ok (.aload_n 0, 1) := by decide +kernel
theorem dX10_feed_22 : decode cX10_feed 22 = .ok (.getfield 16, 3) := by decide +kernel
theorem dX10_feed_25 : decode cX10_feed 25 = .ok (.iload_n 2, 1) := by decide +kernel
theorem dX10_feed_26 : decode cX10_feed 26 = .ok (.invokevirtual 123, 3) := by decide +kernel
theorem dX10_feed_29 : decode cX10_feed 29 = .ok (.aload_n 0, 1) := by decide +kernel
theorem dX10_feed_30 : decode cX10_feed 30 = .ok (.getfield 16, 3) := by decide +kernel
theorem dX10_feed_33 : decode cX10_feed 33 = .ok (.iload_n 3, 1) := by decide +kernel
theorem dX10_feed_34 : decode cX10_feed 34 = .ok (.invokevirtual 123, 3) := by decide +kernel
theorem dX10_feed_37 : decode cX10_feed 37 = .ok (.aload_n 0, 1) := by decide +kernel
theorem dX10_feed_38 : decode cX10_feed 38 = .ok (.getfield 16, 3) := by decide +kernel
theorem dX10_feed_41 : decode cX10_feed 41 = .ok (.iload 4, 2) := by decide +kernel
theorem dX10_feed_43 : decode cX10_feed 43 = .ok (.invokevirtual 123, 3) := by decide +kernel
theorem dX10_feed_46 : decode cX10_feed 46 = .ok (.aload_n 0, 1) := by decide +kernel
theorem dX10_feed_47 : decode cX10_feed 47 = .ok (.getfield 16, 3) := by decide +kernel
theorem dX10_feed_50 : decode cX10_feed 50 = .ok (.iload 5, 2) := by decide +kernel
theorem dX10_feed_52 : decode cX10_feed 52 = .ok (.invokevirtual 123, 3) := by decide +kernel
theorem dX10_feed_55 : decode cX10_feed 55 = .ok (.aload_n 0, 1) := by decide +kernel
theorem dX10_feed_56 : decode cX10_feed 56 = .ok (.getfield 16, 3) := by decide +kernel
theorem dX10_feed_59 : decode cX10_feed 59 = .ok (.invokevirtual 126, 3) := by decide +kernel
theorem dX10_feed_62 : decode cX10_feed 62 = .ok (.ireturn, 1) := by decide +kernel
noncomputable def f10_feed (a1 : Int32) (a2 : Int32) (a3 : Int32) (a4 : Int32) (a5 : Int32) (s8 : OS) : Option (Int32 × OS) := Option.bind (f8_hasRoomFor ((5 : Int32)) s8) fun q_5 => if q_5 = 0 then (some ((-1 : Int32), s8)) else (Option.bind (f8_append a1 s8) fun q_18 => Option.bind (f8_append a2 q_18) fun q_26 => Option.bind (f8_append a3 q_26) fun q_34 => Option.bind (f8_append a4 q_34) fun q_43 => Option.bind (f8_append a5 q_43) fun q_52 => Option.bind (f8_length q_52) fun q_59 => some (q_59, q_52))
set_option maxHeartbeats 4000000 in
set_option maxRecDepth 100000 in
theorem m10_feed (l : Launch) (D : va_G) (ad : Nat → Nat) (cy : Nat → ClassId) (sz : Nat) (s0 s1 s2 s3 s4 s5 s6 s7 s8 s9 s10 : OS) (a1 : Int32) (a2 : Int32) (a3 : Int32) (a4 : Int32) (a5 : Int32) (r : Int32 × OS) (h : f10_feed a1 a2 a3 a4 a5 s8 = some r) : Met l yX10_feed (wsOf yX10_feed cX10_feed 6 (some .int)) (rmL 1) (va_Pc ([.ref (ad 10), .int a1, .int a2, .int a3, .int a4, .int a5] : List Value) (PreG D cy (cellsC ad cy s0 s1 s2 s3 s4 s5 s6 s7 s8 s9 s10) sz (NC ad))) (QcI D ad 67 (cellsC ad cy s0 s1 s2 s3 s4 s5 s6 s7 r.2 s9 s10) (r.1) sz) 0 0 (Afr ad 67 sz) := by
  refine metG (own := RX10) (by decide) rfl (Nat.le_of_ble_eq_true rfl) fstC ?_ sz
  intro p e s m below meth c ls C0 hw hl
  obtain ⟨hx, hb, hml, hown, hts, hr, hlk, hK, hN⟩ := C0
  have hl : lv_has ls 6 [(0, .ref (ad 10)), (1, .int a1), (2, .int a2), (3, .int a3), (4, .int a4), (5, .int a5)] := hl
  generalize hQ : MQ below (QcI D ad 67 (cellsC ad cy s0 s1 s2 s3 s4 s5 s6 s7 r.2 s9 s10) (r.1) s.heap.size) ([.ref (ad 10), .int a1, .int a2, .int a3, .int a4, .int a5] : List Value).toArray s 0 0 (Afr ad 67 s.heap.size) = Q
  obtain ⟨H, hH⟩ : ∃ H : Heap, H = s.heap := ⟨_, rfl⟩
  obtain ⟨locs, hlc⟩ : ∃ L : List Loc, L = [] := ⟨_, rfl⟩
  have hw : Wd D (cellsC ad cy s0 s1 s2 s3 s4 s5 s6 s7 s8 s9 s10) (Afr ad 67 s.heap.size) s.heap H locs := by rw [hH, hlc]; exact hw
  suffices h0 : W p l e (rmL 1) s m ([.ref (ad 10), .int a1, .int a2, .int a3, .int a4, .int a5] : List Value).toArray below meth c H locs 0 0 Q (F0 m 0 ls []) by rw [hH, hlc] at h0; exact h0
  clear hH hlc
  unfold f10_feed at h
  refine lv_aload_n hx hb dX10_feed_0 rfl (lv_at hl 0 rfl) ?_
  refine gX10_16 hx hb hts hown hK hw dX10_feed_1 ?_
  refine lv_iconst (v := 5) hx hb dX10_feed_4 (by decide) ?_
  obtain ⟨q_5, h_5, h⟩ := bnd_e h
  have pg_5 := preG (av := [.ref (ad 8), .int ((5 : Int32))]) hK hw.1 hw.2.1 (NC_keep hN hw.2.2) NC_blind
  refine endI (mc := 0) (ms := 0) (va_runV (As := [.int ((5 : Int32))]) (rest := []) ⟨hx, hb, hml, hown, hts⟩ (m8_hasRoomFor l D ad cy H.size s0 s1 s2 s3 s4 s5 s6 s7 s8 s9 s10 ((5 : Int32)) q_5 h_5) (wX10_122 0 hts ⟨Nat.le_of_ble_eq_true rfl, Nat.le_of_ble_eq_true rfl⟩) ⟨pg_5.1, va_recv hK hw.1 (ci := 8) (q0 := 8) rfl eC_8, pg_5.2⟩ rfl rfl hl.1 rfl (lv_room (Nat.le_of_ble_eq_true rfl)) dX10_feed_5 ⟨Nat.le_refl _, Nat.le_refl _⟩) hw.2.2 (afr_in hw.2.2) (fun H locs hw => ?_)
  refine lv_if_ne (tgt := 13) hx hb dX10_feed_8 (by decide) (fun c_8 => ?_) (fun c_8 => ?_)
  · have h := ite_f c_8 h
    refine lv_aload_n hx hb dX10_feed_13 rfl (lv_at hl 0 rfl) ?_
    refine gX10_16 hx hb hts hown hK hw dX10_feed_14 ?_
    refine lv_iload_n hx hb dX10_feed_17 rfl (lv_at hl 1 rfl) ?_
    obtain ⟨q_18, h_18, h⟩ := bnd_e h
    have pg_18 := preG (av := [.ref (ad 8), .int a1]) hK hw.1 hw.2.1 (NC_keep hN hw.2.2) NC_blind
    refine endV (mc := 0) (ms := 0) (va_runV (As := [.int a1]) (rest := []) ⟨hx, hb, hml, hown, hts⟩ (m8_append l D ad cy H.size s0 s1 s2 s3 s4 s5 s6 s7 s8 s9 s10 a1 q_18 h_18) (wX10_123 0 hts ⟨Nat.le_of_ble_eq_true rfl, Nat.le_of_ble_eq_true rfl⟩) ⟨pg_18.1, va_recv hK hw.1 (ci := 8) (q0 := 8) rfl eC_8, pg_18.2⟩ rfl rfl hl.1 rfl (lv_room (Nat.le_of_ble_eq_true rfl)) dX10_feed_18 ⟨Nat.le_refl _, Nat.le_refl _⟩) hw.2.2 (afr_in hw.2.2) (fun H locs hw => ?_)
    refine lv_aload_n hx hb dX10_feed_21 rfl (lv_at hl 0 rfl) ?_
    refine gX10_16 hx hb hts hown hK hw dX10_feed_22 ?_
    refine lv_iload_n hx hb dX10_feed_25 rfl (lv_at hl 2 rfl) ?_
    obtain ⟨q_26, h_26, h⟩ := bnd_e h
    have pg_26 := preG (av := [.ref (ad 8), .int a2]) hK hw.1 hw.2.1 (NC_keep hN hw.2.2) NC_blind
    refine endV (mc := 0) (ms := 0) (va_runV (As := [.int a2]) (rest := []) ⟨hx, hb, hml, hown, hts⟩ (m8_append l D ad cy H.size s0 s1 s2 s3 s4 s5 s6 s7 q_18 s9 s10 a2 q_26 h_26) (wX10_123 0 hts ⟨Nat.le_of_ble_eq_true rfl, Nat.le_of_ble_eq_true rfl⟩) ⟨pg_26.1, va_recv hK hw.1 (ci := 8) (q0 := 8) rfl eC_8, pg_26.2⟩ rfl rfl hl.1 rfl (lv_room (Nat.le_of_ble_eq_true rfl)) dX10_feed_26 ⟨Nat.le_refl _, Nat.le_refl _⟩) hw.2.2 (afr_in hw.2.2) (fun H locs hw => ?_)
    refine lv_aload_n hx hb dX10_feed_29 rfl (lv_at hl 0 rfl) ?_
    refine gX10_16 hx hb hts hown hK hw dX10_feed_30 ?_
    refine lv_iload_n hx hb dX10_feed_33 rfl (lv_at hl 3 rfl) ?_
    obtain ⟨q_34, h_34, h⟩ := bnd_e h
    have pg_34 := preG (av := [.ref (ad 8), .int a3]) hK hw.1 hw.2.1 (NC_keep hN hw.2.2) NC_blind
    refine endV (mc := 0) (ms := 0) (va_runV (As := [.int a3]) (rest := []) ⟨hx, hb, hml, hown, hts⟩ (m8_append l D ad cy H.size s0 s1 s2 s3 s4 s5 s6 s7 q_26 s9 s10 a3 q_34 h_34) (wX10_123 0 hts ⟨Nat.le_of_ble_eq_true rfl, Nat.le_of_ble_eq_true rfl⟩) ⟨pg_34.1, va_recv hK hw.1 (ci := 8) (q0 := 8) rfl eC_8, pg_34.2⟩ rfl rfl hl.1 rfl (lv_room (Nat.le_of_ble_eq_true rfl)) dX10_feed_34 ⟨Nat.le_refl _, Nat.le_refl _⟩) hw.2.2 (afr_in hw.2.2) (fun H locs hw => ?_)
    refine lv_aload_n hx hb dX10_feed_37 rfl (lv_at hl 0 rfl) ?_
    refine gX10_16 hx hb hts hown hK hw dX10_feed_38 ?_
    refine lv_iload hx hb dX10_feed_41 (lv_at hl 4 rfl) ?_
    obtain ⟨q_43, h_43, h⟩ := bnd_e h
    have pg_43 := preG (av := [.ref (ad 8), .int a4]) hK hw.1 hw.2.1 (NC_keep hN hw.2.2) NC_blind
    refine endV (mc := 0) (ms := 0) (va_runV (As := [.int a4]) (rest := []) ⟨hx, hb, hml, hown, hts⟩ (m8_append l D ad cy H.size s0 s1 s2 s3 s4 s5 s6 s7 q_34 s9 s10 a4 q_43 h_43) (wX10_123 0 hts ⟨Nat.le_of_ble_eq_true rfl, Nat.le_of_ble_eq_true rfl⟩) ⟨pg_43.1, va_recv hK hw.1 (ci := 8) (q0 := 8) rfl eC_8, pg_43.2⟩ rfl rfl hl.1 rfl (lv_room (Nat.le_of_ble_eq_true rfl)) dX10_feed_43 ⟨Nat.le_refl _, Nat.le_refl _⟩) hw.2.2 (afr_in hw.2.2) (fun H locs hw => ?_)
    refine lv_aload_n hx hb dX10_feed_46 rfl (lv_at hl 0 rfl) ?_
    refine gX10_16 hx hb hts hown hK hw dX10_feed_47 ?_
    refine lv_iload hx hb dX10_feed_50 (lv_at hl 5 rfl) ?_
    obtain ⟨q_52, h_52, h⟩ := bnd_e h
    have pg_52 := preG (av := [.ref (ad 8), .int a5]) hK hw.1 hw.2.1 (NC_keep hN hw.2.2) NC_blind
    refine endV (mc := 0) (ms := 0) (va_runV (As := [.int a5]) (rest := []) ⟨hx, hb, hml, hown, hts⟩ (m8_append l D ad cy H.size s0 s1 s2 s3 s4 s5 s6 s7 q_43 s9 s10 a5 q_52 h_52) (wX10_123 0 hts ⟨Nat.le_of_ble_eq_true rfl, Nat.le_of_ble_eq_true rfl⟩) ⟨pg_52.1, va_recv hK hw.1 (ci := 8) (q0 := 8) rfl eC_8, pg_52.2⟩ rfl rfl hl.1 rfl (lv_room (Nat.le_of_ble_eq_true rfl)) dX10_feed_52 ⟨Nat.le_refl _, Nat.le_refl _⟩) hw.2.2 (afr_in hw.2.2) (fun H locs hw => ?_)
    refine lv_aload_n hx hb dX10_feed_55 rfl (lv_at hl 0 rfl) ?_
    refine gX10_16 hx hb hts hown hK hw dX10_feed_56 ?_
    obtain ⟨q_59, h_59, h⟩ := bnd_e h
    have pg_59 := preG (av := [.ref (ad 8)]) hK hw.1 hw.2.1 (NC_keep hN hw.2.2) NC_blind
    refine endI (mc := 0) (ms := 0) (va_runV (As := []) (rest := []) ⟨hx, hb, hml, hown, hts⟩ (m8_length l D ad cy H.size s0 s1 s2 s3 s4 s5 s6 s7 q_52 s9 s10 q_59 h_59) (wX10_126 0 hts ⟨Nat.le_of_ble_eq_true rfl, Nat.le_of_ble_eq_true rfl⟩) ⟨pg_59.1, va_recv hK hw.1 (ci := 8) (q0 := 8) rfl eC_8, pg_59.2⟩ rfl rfl hl.1 rfl (lv_room (Nat.le_of_ble_eq_true rfl)) dX10_feed_59 ⟨Nat.le_refl _, Nat.le_refl _⟩) hw.2.2 (afr_in hw.2.2) (fun H locs hw => ?_)
    have h := Option.some.inj h
    subst h
    rw [← hQ]
    exact retI hx hb hr hlk hw rfl dX10_feed_62
  · have h := ite_t c_8 h
    refine lv_iconst (v := (-1)) hx hb dX10_feed_11 (by decide) ?_
    have h := Option.some.inj h
    subst h
    rw [← hQ]
    exact retI hx hb hr hlk hw rfl dX10_feed_12
theorem dX10_found_0 : decode cX10_found 0 = .ok (.iload_n 1, 1) := by decide +kernel
theorem dX10_found_1 : decode cX10_found 1 = .ok (.iconst 1, 1) := by decide +kernel
theorem dX10_found_2 : decode cX10_found 2 = .ok (.bipush 6, 2) := by decide +kernel
theorem dX10_found_4 : decode cX10_found 4 = .ok (.invokestatic 86, 3) := by decide +kernel
theorem dX10_found_7 : decode cX10_found 7 = .ok (.ifCond .eq 16, 3) := by decide +kernel
theorem dX10_found_10 : decode cX10_found 10 = .ok (.aload_n 0, 1) := by decide +kernel
theorem dX10_found_11 : decode cX10_found 11 = .ok (.getfield 16, 3) := by decide +kernel
theorem dX10_found_14 : decode cX10_found 14 = .ok (.iconst 4, 1) := by decide +kernel
theorem dX10_found_15 : decode cX10_found 15 = .ok (.iload_n 1, 1) := by decide +kernel
theorem dX10_found_16 : decode cX10_found 16 = .ok (.imul, 1) := by decide +kernel
theorem dX10_found_17 : decode cX10_found 17 = .ok (.invokevirtual 133, 3) := by decide +kernel
theorem dX10_found_20 : decode cX10_found 20 = .ok (.ifCond .ne 5, 3) := by decide +kernel
theorem dX10_found_23 : decode cX10_found 23 = .ok (.iconst (-1), 1) := by decide +kernel
theorem dX10_found_24 : decode cX10_found 24 = .ok (.ireturn, 1) := by decide +kernel
theorem dX10_found_25 : decode cX10_found 25 = .ok (.aload_n 0, 1) := by decide +kernel
theorem dX10_found_26 : decode cX10_found 26 = .ok (.iload_n 1, 1) := by decide +kernel
theorem dX10_found_27 : decode cX10_found 27 = .ok (.invokevirtual 269, 3) := by decide +kernel
theorem dX10_found_30 : decode cX10_found 30 = .ok (.ifCond .eq 15, 3) := by decide +kernel
theorem dX10_found_33 : decode cX10_found 33 = .ok (.aload_n 0, 1) := by decide +kernel
theorem dX10_found_34 : decode cX10_found 34 = .ok (.iload_n 1, 1) := by decide +kernel
theorem dX10_found_35 : decode cX10_found 35 = .ok (.invokevirtual 272, 3) := by decide +kernel
theorem dX10_found_38 : decode cX10_found 38 = .ok (.ifCond .eq 7, 3) := by decide +kernel
theorem dX10_found_41 : decode cX10_found 41 = .ok (.iconst 1, 1) := by decide +kernel
theorem dX10_found_42 : decode cX10_found 42 = .ok (.goto 4, 3) := by decide +kernel
theorem dX10_found_45 : decode cX10_found 45 = .ok (.iconst 0, 1) := by decide +kernel
theorem dX10_found_46 : decode cX10_found 46 = .ok (.istore_n 2, 1) := by decide +kernel
theorem dX10_found_47 : decode cX10_found 47 = .ok (.iload_n 2, 1) := by decide +kernel
theorem dX10_found_48 : decode cX10_found 48 = .ok (.ifCond .eq 22, 3) := by decide +kernel
theorem dX10_found_51 : decode cX10_found 51 = .ok (.aload_n 0, 1) := by decide +kernel
theorem dX10_found_52 : decode cX10_found 52 = .ok (.getfield 51, 3) := by decide +kernel
theorem dX10_found_55 : decode cX10_found 55 = .ok (.aload_n 0, 1) := by decide +kernel
theorem dX10_found_56 : decode cX10_found 56 = .ok (.getfield 16, 3) := by decide +kernel
theorem dX10_found_59 : decode cX10_found 59 = .ok (.aload_n 0, 1) := by decide +kernel
theorem dX10_found_60 : decode cX10_found 60 = .ok (.getfield 23, 3) := by decide +kernel
theorem dX10_found_63 : decode cX10_found 63 = .ok (.iload_n 1, 1) := by decide +kernel
theorem dX10_found_64 : decode cX10_found 64 = .ok (.invokevirtual 275, 3) := by decide +kernel
theorem dX10_found_67 : decode cX10_found 67 = .ok (.goto 5, 3) := by decide +kernel
theorem dX10_found_70 : decode cX10_found 70 = .ok (.bipush (-2), 2) := by decide +kernel
theorem dX10_found_72 : decode cX10_found 72 = .ok (.istore_n 3, 1) := by decide +kernel
theorem dX10_found_73 : decode cX10_found 73 = .ok (.aload_n 0, 1) := by decide +kernel
theorem dX10_found_74 : decode cX10_found 74 = .ok (.getfield 16, 3) := by decide +kernel
theorem dX10_found_77 : decode cX10_found 77 = .ok (.invokevirtual 140, 3) := by decide +kernel
theorem dX10_found_80 : decode cX10_found 80 = .ok (.iload_n 3, 1) := by decide +kernel
theorem dX10_found_81 : decode cX10_found 81 = .ok (.ireturn, 1) := by decide +kernel
noncomputable def f10_found_j72 (k0_j72 : Int32) (s3_j72 : OS) (s8_j72 : OS) (s4_j72 : OS) : Option (Int32 × OS × OS) := Option.bind (f8_wipe s8_j72) fun q_77 => some (k0_j72, s3_j72, q_77)
noncomputable def f10_found_j46 (v1_j46 : Int32) (k0_j46 : Int32) (s3_j46 : OS) (s8_j46 : OS) (s4_j46 : OS) : Option (Int32 × OS × OS) := if k0_j46 = 0 then (f10_found_j72 ((-2 : Int32)) s3_j46 s8_j46 s4_j46) else (Option.bind (f3_answer v1_j46 s3_j46 s4_j46 s8_j46) fun q_64 => f10_found_j72 q_64.1 q_64.2 s8_j46 s4_j46)
noncomputable def f10_found_j45 (v1_j45 : Int32) (s3_j45 : OS) (s8_j45 : OS) (s4_j45 : OS) : Option (Int32 × OS × OS) := f10_found_j46 v1_j45 ((0 : Int32)) s3_j45 s8_j45 s4_j45
noncomputable def f10_found_j23 (s3_j23 : OS) (s8_j23 : OS) (s4_j23 : OS) : Option (Int32 × OS × OS) := some ((-1 : Int32), s3_j23, s8_j23)
noncomputable def f10_found (a1 : Int32) (s3 : OS) (s4 : OS) (s8 : OS) : Option (Int32 × OS × OS) := Option.bind (f10_isWithin a1 ((1 : Int32)) ((6 : Int32))) fun q_4 => if q_4 = 0 then (f10_found_j23 s3 s8 s4) else (Option.bind (f8_hasNumbers (((4 : Int32) * a1)) s8) fun q_17 => if q_17 = 0 then (f10_found_j23 s3 s8 s4) else (Option.bind (f10_areMixed a1 s4 s8) fun q_27 => if q_27 = 0 then (f10_found_j45 a1 s3 s8 s4) else (Option.bind (f10_areThings a1 s8) fun q_35 => if q_35 = 0 then (f10_found_j45 a1 s3 s8 s4) else (f10_found_j46 a1 ((1 : Int32)) s3 s8 s4))))
set_option maxHeartbeats 4000000 in
set_option maxRecDepth 100000 in
theorem m10_found (l : Launch) (D : va_G) (ad : Nat → Nat) (cy : Nat → ClassId) (sz : Nat) (s0 s1 s2 s3 s4 s5 s6 s7 s8 s9 s10 : OS) (a1 : Int32) (r : Int32 × OS × OS) (h : f10_found a1 s3 s4 s8 = some r) : Met l yX10_found (wsOf yX10_found cX10_found 4 (some .int)) (rmL 14) (va_Pc ([.ref (ad 10), .int a1] : List Value) (PreG D cy (cellsC ad cy s0 s1 s2 s3 s4 s5 s6 s7 s8 s9 s10) sz (NC ad))) (QcI D ad 67 (cellsC ad cy s0 s1 s2 r.2.1 s4 s5 s6 s7 r.2.2 s9 s10) (r.1) sz) 0 0 (Afr ad 67 sz) := by
  refine metG (own := RX10) (by decide) rfl (Nat.le_of_ble_eq_true rfl) fstC ?_ sz
  intro p e s m below meth c ls C0 hw hl
  obtain ⟨hx, hb, hml, hown, hts, hr, hlk, hK, hN⟩ := C0
  have hl : lv_has ls 4 [(0, .ref (ad 10)), (1, .int a1)] := hl
  generalize hQ : MQ below (QcI D ad 67 (cellsC ad cy s0 s1 s2 r.2.1 s4 s5 s6 s7 r.2.2 s9 s10) (r.1) s.heap.size) ([.ref (ad 10), .int a1] : List Value).toArray s 0 0 (Afr ad 67 s.heap.size) = Q
  obtain ⟨H, hH⟩ : ∃ H : Heap, H = s.heap := ⟨_, rfl⟩
  obtain ⟨locs, hlc⟩ : ∃ L : List Loc, L = [] := ⟨_, rfl⟩
  have hw : Wd D (cellsC ad cy s0 s1 s2 s3 s4 s5 s6 s7 s8 s9 s10) (Afr ad 67 s.heap.size) s.heap H locs := by rw [hH, hlc]; exact hw
  suffices h0 : W p l e (rmL 14) s m ([.ref (ad 10), .int a1] : List Value).toArray below meth c H locs 0 0 Q (F0 m 0 ls []) by rw [hH, hlc] at h0; exact h0
  clear hH hlc
  unfold f10_found at h
  have hJ_72 : ∀ (k0_j72 : Int32) (s3_j72 : OS) (s8_j72 : OS) (H : Heap) (locs : List Loc) (ls : Array Slot), f10_found_j72 k0_j72 s3_j72 s8_j72 s4 = some r → Wd D (cellsC ad cy s0 s1 s2 s3_j72 s4 s5 s6 s7 s8_j72 s9 s10) (Afr ad 67 s.heap.size) s.heap H locs → lv_has ls 4 [(0, .ref (ad 10))] → W p l e (rmL 14) s m ([.ref (ad 10), .int a1] : List Value).toArray below meth c H locs 0 0 Q (F0 m 72 ls [.int k0_j72]) := by
    intro k0_j72 s3_j72 s8_j72 H locs ls h hw hl
    unfold f10_found_j72 at h
    refine lv_istore_n (lv' := [(3, .int k0_j72), (0, .ref (ad 10))]) hx hb dX10_found_72 rfl hl (by decide) rfl (fun ls hl => ?_)
    refine lv_aload_n hx hb dX10_found_73 rfl (lv_at hl 1 rfl) ?_
    refine gX10_16 hx hb hts hown hK hw dX10_found_74 ?_
    obtain ⟨q_77, h_77, h⟩ := bnd_e h
    have pg_77 := preG (av := [.ref (ad 8)]) hK hw.1 hw.2.1 (NC_keep hN hw.2.2) NC_blind
    refine endV (mc := 0) (ms := 0) (va_runV (As := []) (rest := []) ⟨hx, hb, hml, hown, hts⟩ (m8_wipe l D ad cy H.size s0 s1 s2 s3_j72 s4 s5 s6 s7 s8_j72 s9 s10 q_77 h_77) (wX10_140 0 hts ⟨Nat.le_of_ble_eq_true rfl, Nat.le_of_ble_eq_true rfl⟩) ⟨pg_77.1, va_recv hK hw.1 (ci := 8) (q0 := 8) rfl eC_8, pg_77.2⟩ rfl rfl hl.1 rfl (lv_room (Nat.le_of_ble_eq_true rfl)) dX10_found_77 ⟨Nat.le_refl _, Nat.le_refl _⟩) hw.2.2 (afr_in hw.2.2) (fun H locs hw => ?_)
    refine lv_iload_n hx hb dX10_found_80 rfl (lv_at hl 0 rfl) ?_
    have h := Option.some.inj h
    subst h
    rw [← hQ]
    exact retI hx hb hr hlk hw rfl dX10_found_81
  have hJ_46 : ∀ (v1_j46 : Int32) (k0_j46 : Int32) (s3_j46 : OS) (s8_j46 : OS) (H : Heap) (locs : List Loc) (ls : Array Slot), f10_found_j46 v1_j46 k0_j46 s3_j46 s8_j46 s4 = some r → Wd D (cellsC ad cy s0 s1 s2 s3_j46 s4 s5 s6 s7 s8_j46 s9 s10) (Afr ad 67 s.heap.size) s.heap H locs → lv_has ls 4 [(0, .ref (ad 10)), (1, .int v1_j46)] → W p l e (rmL 14) s m ([.ref (ad 10), .int a1] : List Value).toArray below meth c H locs 0 0 Q (F0 m 46 ls [.int k0_j46]) := by
    intro v1_j46 k0_j46 s3_j46 s8_j46 H locs ls h hw hl
    unfold f10_found_j46 at h
    refine lv_istore_n (lv' := [(2, .int k0_j46), (0, .ref (ad 10)), (1, .int v1_j46)]) hx hb dX10_found_46 rfl hl (by decide) rfl (fun ls hl => ?_)
    refine lv_iload_n hx hb dX10_found_47 rfl (lv_at hl 0 rfl) ?_
    refine lv_if_eq (tgt := 70) hx hb dX10_found_48 (by decide) (fun c_48 => ?_) (fun c_48 => ?_)
    · have h := ite_t c_48 h
      refine lv_bipush (v := (-2)) hx hb dX10_found_70 (by decide) ?_
      exact hJ_72 ((-2 : Int32)) s3_j46 s8_j46 H locs ls h hw (lv_sub hl [1] rfl)
    · have h := ite_f c_48 h
      refine lv_aload_n hx hb dX10_found_51 rfl (lv_at hl 1 rfl) ?_
      refine gX10_51 hx hb hts hown hK hw dX10_found_52 ?_
      refine lv_aload_n hx hb dX10_found_55 rfl (lv_at hl 1 rfl) ?_
      refine gX10_16 hx hb hts hown hK hw dX10_found_56 ?_
      refine lv_aload_n hx hb dX10_found_59 rfl (lv_at hl 1 rfl) ?_
      refine gX10_23 hx hb hts hown hK hw dX10_found_60 ?_
      refine lv_iload_n hx hb dX10_found_63 rfl (lv_at hl 2 rfl) ?_
      obtain ⟨q_64, h_64, h⟩ := bnd_e h
      have pg_64 := preG (av := [.ref (ad 3), .ref (ad 8), .ref (ad 4), .int v1_j46]) hK hw.1 hw.2.1 (NC_keep hN hw.2.2) NC_blind
      refine endI (mc := 0) (ms := 0) (va_runV (As := [.ref (ad 8), .ref (ad 4), .int v1_j46]) (rest := []) ⟨hx, hb, hml, hown, hts⟩ (m3_answer l D ad cy H.size s0 s1 s2 s3_j46 s4 s5 s6 s7 s8_j46 s9 s10 v1_j46 q_64 h_64) (wX10_275 13 hts ⟨Nat.le_of_ble_eq_true rfl, Nat.le_of_ble_eq_true rfl⟩) ⟨pg_64.1, va_recv hK hw.1 (ci := 3) (q0 := 3) rfl eC_3, pg_64.2⟩ rfl rfl hl.1 rfl (lv_room (Nat.le_of_ble_eq_true rfl)) dX10_found_64 ⟨Nat.le_refl _, Nat.le_refl _⟩) hw.2.2 (afr_in hw.2.2) (fun H locs hw => ?_)
      refine lv_goto (tgt := 72) hx hb dX10_found_67 (by decide) ?_
      exact hJ_72 q_64.1 q_64.2 s8_j46 H locs ls h hw (lv_sub hl [1] rfl)
  have hJ_45 : ∀ (v1_j45 : Int32) (s3_j45 : OS) (s8_j45 : OS) (H : Heap) (locs : List Loc) (ls : Array Slot), f10_found_j45 v1_j45 s3_j45 s8_j45 s4 = some r → Wd D (cellsC ad cy s0 s1 s2 s3_j45 s4 s5 s6 s7 s8_j45 s9 s10) (Afr ad 67 s.heap.size) s.heap H locs → lv_has ls 4 [(0, .ref (ad 10)), (1, .int v1_j45)] → W p l e (rmL 14) s m ([.ref (ad 10), .int a1] : List Value).toArray below meth c H locs 0 0 Q (F0 m 45 ls []) := by
    intro v1_j45 s3_j45 s8_j45 H locs ls h hw hl
    unfold f10_found_j45 at h
    refine lv_iconst (v := 0) hx hb dX10_found_45 (by decide) ?_
    exact hJ_46 v1_j45 ((0 : Int32)) s3_j45 s8_j45 H locs ls h hw (lv_sub hl [0, 1] rfl)
  have hJ_23 : ∀ (s3_j23 : OS) (s8_j23 : OS) (H : Heap) (locs : List Loc) (ls : Array Slot), f10_found_j23 s3_j23 s8_j23 s4 = some r → Wd D (cellsC ad cy s0 s1 s2 s3_j23 s4 s5 s6 s7 s8_j23 s9 s10) (Afr ad 67 s.heap.size) s.heap H locs → lv_has ls 4 [] → W p l e (rmL 14) s m ([.ref (ad 10), .int a1] : List Value).toArray below meth c H locs 0 0 Q (F0 m 23 ls []) := by
    intro s3_j23 s8_j23 H locs ls h hw hl
    unfold f10_found_j23 at h
    refine lv_iconst (v := (-1)) hx hb dX10_found_23 (by decide) ?_
    have h := Option.some.inj h
    subst h
    rw [← hQ]
    exact retI hx hb hr hlk hw rfl dX10_found_24
  refine lv_iload_n hx hb dX10_found_0 rfl (lv_at hl 1 rfl) ?_
  refine lv_iconst (v := 1) hx hb dX10_found_1 (by decide) ?_
  refine lv_bipush (v := 6) hx hb dX10_found_2 (by decide) ?_
  obtain ⟨q_4, h_4, h⟩ := bnd_e h
  have pg_4 := preG (av := [.int a1, .int ((1 : Int32)), .int ((6 : Int32))]) hK hw.1 hw.2.1 (NC_keep hN hw.2.2) NC_blind
  refine endI (mc := 0) (ms := 0) (va_runS (As := [.int a1, .int ((1 : Int32)), .int ((6 : Int32))]) (rest := []) ⟨hx, hb, hml, hown, hts⟩ (m10_isWithin l D ad cy H.size s0 s1 s2 s3 s4 s5 s6 s7 s8 s9 s10 a1 ((1 : Int32)) ((6 : Int32)) q_4 h_4) (wX10_86 0 hts ⟨Nat.le_of_ble_eq_true rfl, Nat.le_of_ble_eq_true rfl⟩) pg_4 rfl rfl hl.1 rfl (lv_room (Nat.le_of_ble_eq_true rfl)) dX10_found_4 ⟨Nat.le_refl _, Nat.le_refl _⟩) hw.2.2 (afr_in hw.2.2) (fun H locs hw => ?_)
  refine lv_if_eq (tgt := 23) hx hb dX10_found_7 (by decide) (fun c_7 => ?_) (fun c_7 => ?_)
  · have h := ite_t c_7 h
    exact hJ_23 s3 s8 H locs ls h hw (lv_sub hl [] rfl)
  · have h := ite_f c_7 h
    refine lv_aload_n hx hb dX10_found_10 rfl (lv_at hl 0 rfl) ?_
    refine gX10_16 hx hb hts hown hK hw dX10_found_11 ?_
    refine lv_iconst (v := 4) hx hb dX10_found_14 (by decide) ?_
    refine lv_iload_n hx hb dX10_found_15 rfl (lv_at hl 1 rfl) ?_
    refine lv_imul hx hb dX10_found_16 ?_
    obtain ⟨q_17, h_17, h⟩ := bnd_e h
    have pg_17 := preG (av := [.ref (ad 8), .int (((4 : Int32) * a1))]) hK hw.1 hw.2.1 (NC_keep hN hw.2.2) NC_blind
    refine endI (mc := 0) (ms := 0) (va_runV (As := [.int (((4 : Int32) * a1))]) (rest := []) ⟨hx, hb, hml, hown, hts⟩ (m8_hasNumbers l D ad cy H.size s0 s1 s2 s3 s4 s5 s6 s7 s8 s9 s10 (((4 : Int32) * a1)) q_17 h_17) (wX10_133 0 hts ⟨Nat.le_of_ble_eq_true rfl, Nat.le_of_ble_eq_true rfl⟩) ⟨pg_17.1, va_recv hK hw.1 (ci := 8) (q0 := 8) rfl eC_8, pg_17.2⟩ rfl rfl hl.1 rfl (lv_room (Nat.le_of_ble_eq_true rfl)) dX10_found_17 ⟨Nat.le_refl _, Nat.le_refl _⟩) hw.2.2 (afr_in hw.2.2) (fun H locs hw => ?_)
    refine lv_if_ne (tgt := 25) hx hb dX10_found_20 (by decide) (fun c_20 => ?_) (fun c_20 => ?_)
    · have h := ite_f c_20 h
      refine lv_aload_n hx hb dX10_found_25 rfl (lv_at hl 0 rfl) ?_
      refine lv_iload_n hx hb dX10_found_26 rfl (lv_at hl 1 rfl) ?_
      obtain ⟨q_27, h_27, h⟩ := bnd_e h
      have pg_27 := preG (av := [.ref (ad 10), .int a1]) hK hw.1 hw.2.1 (NC_keep hN hw.2.2) NC_blind
      refine endI (mc := 0) (ms := 0) (va_runV (As := [.int a1]) (rest := []) ⟨hx, hb, hml, hown, hts⟩ (m10_areMixed l D ad cy H.size s0 s1 s2 s3 s4 s5 s6 s7 s8 s9 s10 a1 q_27 h_27) (wX10_269 2 hts ⟨Nat.le_of_ble_eq_true rfl, Nat.le_of_ble_eq_true rfl⟩) ⟨pg_27.1, va_recv hK hw.1 (ci := 10) (q0 := 10) rfl eC_10, pg_27.2⟩ rfl rfl hl.1 rfl (lv_room (Nat.le_of_ble_eq_true rfl)) dX10_found_27 ⟨Nat.le_refl _, Nat.le_refl _⟩) hw.2.2 (afr_in hw.2.2) (fun H locs hw => ?_)
      refine lv_if_eq (tgt := 45) hx hb dX10_found_30 (by decide) (fun c_30 => ?_) (fun c_30 => ?_)
      · have h := ite_t c_30 h
        exact hJ_45 a1 s3 s8 H locs ls h hw (lv_sub hl [0, 1] rfl)
      · have h := ite_f c_30 h
        refine lv_aload_n hx hb dX10_found_33 rfl (lv_at hl 0 rfl) ?_
        refine lv_iload_n hx hb dX10_found_34 rfl (lv_at hl 1 rfl) ?_
        obtain ⟨q_35, h_35, h⟩ := bnd_e h
        have pg_35 := preG (av := [.ref (ad 10), .int a1]) hK hw.1 hw.2.1 (NC_keep hN hw.2.2) NC_blind
        refine endI (mc := 0) (ms := 0) (va_runV (As := [.int a1]) (rest := []) ⟨hx, hb, hml, hown, hts⟩ (m10_areThings l D ad cy H.size s0 s1 s2 s3 s4 s5 s6 s7 s8 s9 s10 a1 q_35 h_35) (wX10_272 2 hts ⟨Nat.le_of_ble_eq_true rfl, Nat.le_of_ble_eq_true rfl⟩) ⟨pg_35.1, va_recv hK hw.1 (ci := 10) (q0 := 10) rfl eC_10, pg_35.2⟩ rfl rfl hl.1 rfl (lv_room (Nat.le_of_ble_eq_true rfl)) dX10_found_35 ⟨Nat.le_refl _, Nat.le_refl _⟩) hw.2.2 (afr_in hw.2.2) (fun H locs hw => ?_)
        refine lv_if_eq (tgt := 45) hx hb dX10_found_38 (by decide) (fun c_38 => ?_) (fun c_38 => ?_)
        · have h := ite_t c_38 h
          exact hJ_45 a1 s3 s8 H locs ls h hw (lv_sub hl [0, 1] rfl)
        · have h := ite_f c_38 h
          refine lv_iconst (v := 1) hx hb dX10_found_41 (by decide) ?_
          refine lv_goto (tgt := 46) hx hb dX10_found_42 (by decide) ?_
          exact hJ_46 a1 ((1 : Int32)) s3 s8 H locs ls h hw (lv_sub hl [0, 1] rfl)
    · have h := ite_t c_20 h
      exact hJ_23 s3 s8 H locs ls h hw (lv_sub hl [] rfl)
theorem dX10_gas_0 : decode cX10_gas 0 = .ok (.iload_n 1, 1) := by decide +kernel
theorem dX10_gas_1 : decode cX10_gas 1 = .ok (.invokestatic 77, 3) := by decide +kernel
theorem dX10_gas_4 : decode cX10_gas 4 = .ok (.ifCond .eq 10, 3) := by decide +kernel
theorem dX10_gas_7 : decode cX10_gas 7 = .ok (.iload_n 2, 1) := by decide +kernel
theorem dX10_gas_8 : decode cX10_gas 8 = .ok (.invokestatic 80, 3) := by decide +kernel
theorem dX10_gas_11 : decode cX10_gas 11 = .ok (.ifCond .ne 5, 3) := by decide +kernel
theorem dX10_gas_14 : decode cX10_gas 14 = .ok (.iconst 0, 1) := by decide +kernel
theorem dX10_gas_15 : decode cX10_gas 15 = .ok (.ireturn, 1) := by decide +kernel
theorem dX10_gas_16 : decode cX10_gas 16 = .ok (.aload_n 0, 1) := by decide +kernel
theorem dX10_gas_17 : decode cX10_gas 17 = .ok (.getfield 9, 3) := by decide +kernel
theorem dX10_gas_20 : decode cX10_gas 20 = .ok (.iload_n 1, 1) := by decide +kernel
theorem dX10_gas_21 : decode cX10_gas 21 = .ok (.iload_n 2, 1) := by decide +kernel
theorem dX10_gas_22 : decode cX10_gas 22 = .ok (.iastore, 1) := by decide +kernel
theorem dX10_gas_23 : decode cX10_gas 23 = .ok (.iconst 1, 1) := by decide +kernel
theorem dX10_gas_24 : decode cX10_gas 24 = .ok (.ireturn, 1) := by decide +kernel
def f10_gas_j14 (s10_j14 : OS) : Option (Int32 × OS) := some ((0 : Int32), s10_j14)
def f10_gas (a1 : Int32) (a2 : Int32) (s10 : OS) : Option (Int32 × OS) := Option.bind (f10_isCabinet a1) fun q_1 => if q_1 = 0 then (f10_gas_j14 s10) else (Option.bind (f10_isBits a2) fun q_8 => if q_8 = 0 then (f10_gas_j14 s10) else (chk (inb a1 10) (nm (wI s10 1 a1.toNatClampNeg a2) fun s10_22 => some ((1 : Int32), s10_22))))
set_option maxHeartbeats 4000000 in
set_option maxRecDepth 100000 in
theorem m10_gas (l : Launch) (D : va_G) (ad : Nat → Nat) (cy : Nat → ClassId) (sz : Nat) (s0 s1 s2 s3 s4 s5 s6 s7 s8 s9 s10 : OS) (a1 : Int32) (a2 : Int32) (r : Int32 × OS) (h : f10_gas a1 a2 s10 = some r) : Met l yX10_gas (wsOf yX10_gas cX10_gas 3 (some .boolean)) (rmL 2) (va_Pc ([.ref (ad 10), .int a1, .int a2] : List Value) (PreG D cy (cellsC ad cy s0 s1 s2 s3 s4 s5 s6 s7 s8 s9 s10) sz (NC ad))) (QcI D ad 67 (cellsC ad cy s0 s1 s2 s3 s4 s5 s6 s7 s8 s9 r.2) (r.1) sz) 0 0 (Afr ad 67 sz) := by
  refine metG (own := RX10) (by decide) rfl (Nat.le_of_ble_eq_true rfl) fstC ?_ sz
  intro p e s m below meth c ls C0 hw hl
  obtain ⟨hx, hb, hml, hown, hts, hr, hlk, hK, hN⟩ := C0
  have hl : lv_has ls 3 [(0, .ref (ad 10)), (1, .int a1), (2, .int a2)] := hl
  generalize hQ : MQ below (QcI D ad 67 (cellsC ad cy s0 s1 s2 s3 s4 s5 s6 s7 s8 s9 r.2) (r.1) s.heap.size) ([.ref (ad 10), .int a1, .int a2] : List Value).toArray s 0 0 (Afr ad 67 s.heap.size) = Q
  obtain ⟨H, hH⟩ : ∃ H : Heap, H = s.heap := ⟨_, rfl⟩
  obtain ⟨locs, hlc⟩ : ∃ L : List Loc, L = [] := ⟨_, rfl⟩
  have hw : Wd D (cellsC ad cy s0 s1 s2 s3 s4 s5 s6 s7 s8 s9 s10) (Afr ad 67 s.heap.size) s.heap H locs := by rw [hH, hlc]; exact hw
  suffices h0 : W p l e (rmL 2) s m ([.ref (ad 10), .int a1, .int a2] : List Value).toArray below meth c H locs 0 0 Q (F0 m 0 ls []) by rw [hH, hlc] at h0; exact h0
  clear hH hlc
  unfold f10_gas at h
  have hJ_14 : ∀ (s10_j14 : OS) (H : Heap) (locs : List Loc) (ls : Array Slot), f10_gas_j14 s10_j14 = some r → Wd D (cellsC ad cy s0 s1 s2 s3 s4 s5 s6 s7 s8 s9 s10_j14) (Afr ad 67 s.heap.size) s.heap H locs → lv_has ls 3 [] → W p l e (rmL 2) s m ([.ref (ad 10), .int a1, .int a2] : List Value).toArray below meth c H locs 0 0 Q (F0 m 14 ls []) := by
    intro s10_j14 H locs ls h hw hl
    unfold f10_gas_j14 at h
    refine lv_iconst (v := 0) hx hb dX10_gas_14 (by decide) ?_
    have h := Option.some.inj h
    subst h
    rw [← hQ]
    exact retI hx hb hr hlk hw (narB (v := (0 : Int32)) (by decide)) dX10_gas_15
  refine lv_iload_n hx hb dX10_gas_0 rfl (lv_at hl 1 rfl) ?_
  obtain ⟨q_1, h_1, h⟩ := bnd_e h
  have pg_1 := preG (av := [.int a1]) hK hw.1 hw.2.1 (NC_keep hN hw.2.2) NC_blind
  refine endI (mc := 0) (ms := 0) (va_runS (As := [.int a1]) (rest := []) ⟨hx, hb, hml, hown, hts⟩ (m10_isCabinet l D ad cy H.size s0 s1 s2 s3 s4 s5 s6 s7 s8 s9 s10 a1 q_1 h_1) (wX10_77 1 hts ⟨Nat.le_of_ble_eq_true rfl, Nat.le_of_ble_eq_true rfl⟩) pg_1 rfl rfl hl.1 rfl (lv_room (Nat.le_of_ble_eq_true rfl)) dX10_gas_1 ⟨Nat.le_refl _, Nat.le_refl _⟩) hw.2.2 (afr_in hw.2.2) (fun H locs hw => ?_)
  refine lv_if_eq (tgt := 14) hx hb dX10_gas_4 (by decide) (fun c_4 => ?_) (fun c_4 => ?_)
  · have h := ite_t c_4 h
    exact hJ_14 s10 H locs ls h hw (lv_sub hl [] rfl)
  · have h := ite_f c_4 h
    refine lv_iload_n hx hb dX10_gas_7 rfl (lv_at hl 2 rfl) ?_
    obtain ⟨q_8, h_8, h⟩ := bnd_e h
    have pg_8 := preG (av := [.int a2]) hK hw.1 hw.2.1 (NC_keep hN hw.2.2) NC_blind
    refine endI (mc := 0) (ms := 0) (va_runS (As := [.int a2]) (rest := []) ⟨hx, hb, hml, hown, hts⟩ (m10_isBits l D ad cy H.size s0 s1 s2 s3 s4 s5 s6 s7 s8 s9 s10 a2 q_8 h_8) (wX10_80 1 hts ⟨Nat.le_of_ble_eq_true rfl, Nat.le_of_ble_eq_true rfl⟩) pg_8 rfl rfl hl.1 rfl (lv_room (Nat.le_of_ble_eq_true rfl)) dX10_gas_8 ⟨Nat.le_refl _, Nat.le_refl _⟩) hw.2.2 (afr_in hw.2.2) (fun H locs hw => ?_)
    refine lv_if_ne (tgt := 16) hx hb dX10_gas_11 (by decide) (fun c_11 => ?_) (fun c_11 => ?_)
    · have h := ite_f c_11 h
      refine lv_aload_n hx hb dX10_gas_16 rfl (lv_at hl 0 rfl) ?_
      refine gX10_9 hx hb hts hown hK hw dX10_gas_17 ?_
      refine lv_iload_n hx hb dX10_gas_20 rfl (lv_at hl 1 rfl) ?_
      refine lv_iload_n hx hb dX10_gas_21 rfl (lv_at hl 2 rfl) ?_
      obtain ⟨hi_22, h⟩ := chk_e h
      obtain ⟨s10_22, e_22, h⟩ := nam_e h
      refine aC66 hx hb hK hw hi_22 e_22 dX10_gas_22 (fun H locs hw => ?_)
      refine lv_iconst (v := 1) hx hb dX10_gas_23 (by decide) ?_
      have h := Option.some.inj h
      subst h
      rw [← hQ]
      exact retI hx hb hr hlk hw (narB (v := (1 : Int32)) (by decide)) dX10_gas_24
    · have h := ite_t c_11 h
      exact hJ_14 s10 H locs ls h hw (lv_sub hl [] rfl)
theorem dX10_give_0 : decode cX10_give 0 = .ok (.iload_n 2, 1) := by decide +kernel
theorem dX10_give_1 : decode cX10_give 1 = .ok (.iconst 0, 1) := by decide +kernel
theorem dX10_give_2 : decode cX10_give 2 = .ok (.bipush 99, 2) := by decide +kernel
theorem dX10_give_4 : decode cX10_give 4 = .ok (.invokestatic 86, 3) := by decide +kernel
theorem dX10_give_7 : decode cX10_give 7 = .ok (.ifCond .eq 10, 3) := by decide +kernel
theorem dX10_give_10 : decode cX10_give 10 = .ok (.iload_n 3, 1) := by decide +kernel
theorem dX10_give_11 : decode cX10_give 11 = .ok (.invokestatic 280, 3) := by decide +kernel
theorem dX10_give_14 : decode cX10_give 14 = .ok (.ifCond .ne 5, 3) := by decide +kernel
theorem dX10_give_17 : decode cX10_give 17 = .ok (.iconst (-1), 1) := by decide +kernel
theorem dX10_give_18 : decode cX10_give 18 = .ok (.ireturn, 1) := by decide +kernel
theorem dX10_give_19 : decode cX10_give 19 = .ok (.aload_n 0, 1) := by decide +kernel
theorem dX10_give_20 : decode cX10_give 20 = .ok (.getfield 23, 3) := by decide +kernel
theorem dX10_give_23 : decode cX10_give 23 = .ok (.iload_n 1, 1) := by decide +kernel
theorem dX10_give_24 : decode cX10_give 24 = .ok (.invokevirtual 130, 3) := by decide +kernel
theorem dX10_give_27 : decode cX10_give 27 = .ok (.ifCond .eq 13, 3) := by decide +kernel
theorem dX10_give_30 : decode cX10_give 30 = .ok (.aload_n 0, 1) := by decide +kernel
theorem dX10_give_31 : decode cX10_give 31 = .ok (.getfield 58, 3) := by decide +kernel
theorem dX10_give_34 : decode cX10_give 34 = .ok (.invokevirtual 286, 3) := by decide +kernel
theorem dX10_give_37 : decode cX10_give 37 = .ok (.ifCond .ne 5, 3) := by decide +kernel
theorem dX10_give_40 : decode cX10_give 40 = .ok (.iconst (-1), 1) := by decide +kernel
theorem dX10_give_41 : decode cX10_give 41 = .ok (.ireturn, 1) := by decide +kernel
theorem dX10_give_42 : decode cX10_give 42 = .ok (.aload_n 0, 1) := by decide +kernel
theorem dX10_give_43 : decode cX10_give 43 = .ok (.getfield 23, 3) := by decide +kernel
theorem dX10_give_46 : decode cX10_give 46 = .ok (.iload_n 1, 1) := by decide +kernel
theorem dX10_give_47 : decode cX10_give 47 = .ok (.aload_n 0, 1) := by decide +kernel
theorem dX10_give_48 : decode cX10_give 48 = .ok (.getfield 23, 3) := by decide +kernel
theorem dX10_give_51 : decode cX10_give 51 = .ok (.iload_n 1, 1) := by decide +kernel
theorem dX10_give_52 : decode cX10_give 52 = .ok (.invokevirtual 104, 3) := by decide +kernel
theorem dX10_give_55 : decode cX10_give 55 = .ok (.iconst 0, 1) := by decide +kernel
theorem dX10_give_56 : decode cX10_give 56 = .ok (.bipush 11, 2) := by decide +kernel
theorem dX10_give_58 : decode cX10_give 58 = .ok (.aload_n 0, 1) := by decide +kernel
theorem dX10_give_59 : decode cX10_give 59 = .ok (.getfield 69, 3) := by decide +kernel
theorem dX10_give_62 : decode cX10_give 62 = .ok (.invokevirtual 108, 3) := by decide +kernel
theorem dX10_give_65 : decode cX10_give 65 = .ok (.aload_n 0, 1) := by decide +kernel
theorem dX10_give_66 : decode cX10_give 66 = .ok (.getfield 58, 3) := by decide +kernel
theorem dX10_give_69 : decode cX10_give 69 = .ok (.iload_n 3, 1) := by decide +kernel
theorem dX10_give_70 : decode cX10_give 70 = .ok (.aload_n 0, 1) := by decide +kernel
theorem dX10_give_71 : decode cX10_give 71 = .ok (.getfield 69, 3) := by decide +kernel
theorem dX10_give_74 : decode cX10_give 74 = .ok (.invokevirtual 289, 3) := by decide +kernel
theorem dX10_give_77 : decode cX10_give 77 = .ok (.ireturn, 1) := by decide +kernel
def f10_give_j40 (s1_j40 : OS) (s4_j40 : OS) (s9_j40 : OS) (s10_j40 : OS) : Option (Int32 × OS × OS × OS) := some ((-1 : Int32), s1_j40, s4_j40, s9_j40)
def f10_give_j17 (s1_j17 : OS) (s4_j17 : OS) (s9_j17 : OS) (s10_j17 : OS) : Option (Int32 × OS × OS × OS) := some ((-1 : Int32), s1_j17, s4_j17, s9_j17)
def f10_give (a1 : Int32) (a2 : Int32) (a3 : Int32) (s1 : OS) (s4 : OS) (s9 : OS) (s10 : OS) : Option (Int32 × OS × OS × OS) := Option.bind (f10_isWithin a2 ((0 : Int32)) ((99 : Int32))) fun q_4 => if q_4 = 0 then (f10_give_j17 s1 s4 s9 s10) else (Option.bind (f10_isPlace a3) fun q_11 => if q_11 = 0 then (f10_give_j17 s1 s4 s9 s10) else (Option.bind (f4_isAtHand a1 s4) fun q_24 => if q_24 = 0 then (f10_give_j40 s1 s4 s9 s10) else (Option.bind (f9_hasRoomForGift s9) fun q_34 => if q_34 = 0 then (f10_give_j40 s1 s4 s9 s10) else (Option.bind (f4_weightOf a1 s4) fun q_52 => Option.bind (f4_change a1 q_52 ((0 : Int32)) ((11 : Int32)) ((s10.1 0 9)) s1 s4) fun q_62 => Option.bind (f9_begin a3 ((s10.1 0 9)) s9) fun q_74 => some (q_74.1, q_62.1, q_62.2, q_74.2)))))
set_option maxHeartbeats 4000000 in
set_option maxRecDepth 100000 in
theorem m10_give (l : Launch) (D : va_G) (ad : Nat → Nat) (cy : Nat → ClassId) (sz : Nat) (s0 s1 s2 s3 s4 s5 s6 s7 s8 s9 s10 : OS) (a1 : Int32) (a2 : Int32) (a3 : Int32) (r : Int32 × OS × OS × OS) (h : f10_give a1 a2 a3 s1 s4 s9 s10 = some r) : Met l yX10_give (wsOf yX10_give cX10_give 4 (some .int)) (rmL 3) (va_Pc ([.ref (ad 10), .int a1, .int a2, .int a3] : List Value) (PreG D cy (cellsC ad cy s0 s1 s2 s3 s4 s5 s6 s7 s8 s9 s10) sz (NC ad))) (QcI D ad 67 (cellsC ad cy s0 r.2.1 s2 s3 r.2.2.1 s5 s6 s7 s8 r.2.2.2 s10) (r.1) sz) 0 0 (Afr ad 67 sz) := by
  refine metG (own := RX10) (by decide) rfl (Nat.le_of_ble_eq_true rfl) fstC ?_ sz
  intro p e s m below meth c ls C0 hw hl
  obtain ⟨hx, hb, hml, hown, hts, hr, hlk, hK, hN⟩ := C0
  have hl : lv_has ls 4 [(0, .ref (ad 10)), (1, .int a1), (2, .int a2), (3, .int a3)] := hl
  generalize hQ : MQ below (QcI D ad 67 (cellsC ad cy s0 r.2.1 s2 s3 r.2.2.1 s5 s6 s7 s8 r.2.2.2 s10) (r.1) s.heap.size) ([.ref (ad 10), .int a1, .int a2, .int a3] : List Value).toArray s 0 0 (Afr ad 67 s.heap.size) = Q
  obtain ⟨H, hH⟩ : ∃ H : Heap, H = s.heap := ⟨_, rfl⟩
  obtain ⟨locs, hlc⟩ : ∃ L : List Loc, L = [] := ⟨_, rfl⟩
  have hw : Wd D (cellsC ad cy s0 s1 s2 s3 s4 s5 s6 s7 s8 s9 s10) (Afr ad 67 s.heap.size) s.heap H locs := by rw [hH, hlc]; exact hw
  suffices h0 : W p l e (rmL 3) s m ([.ref (ad 10), .int a1, .int a2, .int a3] : List Value).toArray below meth c H locs 0 0 Q (F0 m 0 ls []) by rw [hH, hlc] at h0; exact h0
  clear hH hlc
  unfold f10_give at h
  have hJ_40 : ∀ (s1_j40 : OS) (s4_j40 : OS) (s9_j40 : OS) (H : Heap) (locs : List Loc) (ls : Array Slot), f10_give_j40 s1_j40 s4_j40 s9_j40 s10 = some r → Wd D (cellsC ad cy s0 s1_j40 s2 s3 s4_j40 s5 s6 s7 s8 s9_j40 s10) (Afr ad 67 s.heap.size) s.heap H locs → lv_has ls 4 [] → W p l e (rmL 3) s m ([.ref (ad 10), .int a1, .int a2, .int a3] : List Value).toArray below meth c H locs 0 0 Q (F0 m 40 ls []) := by
    intro s1_j40 s4_j40 s9_j40 H locs ls h hw hl
    unfold f10_give_j40 at h
    refine lv_iconst (v := (-1)) hx hb dX10_give_40 (by decide) ?_
    have h := Option.some.inj h
    subst h
    rw [← hQ]
    exact retI hx hb hr hlk hw rfl dX10_give_41
  have hJ_17 : ∀ (s1_j17 : OS) (s4_j17 : OS) (s9_j17 : OS) (H : Heap) (locs : List Loc) (ls : Array Slot), f10_give_j17 s1_j17 s4_j17 s9_j17 s10 = some r → Wd D (cellsC ad cy s0 s1_j17 s2 s3 s4_j17 s5 s6 s7 s8 s9_j17 s10) (Afr ad 67 s.heap.size) s.heap H locs → lv_has ls 4 [] → W p l e (rmL 3) s m ([.ref (ad 10), .int a1, .int a2, .int a3] : List Value).toArray below meth c H locs 0 0 Q (F0 m 17 ls []) := by
    intro s1_j17 s4_j17 s9_j17 H locs ls h hw hl
    unfold f10_give_j17 at h
    refine lv_iconst (v := (-1)) hx hb dX10_give_17 (by decide) ?_
    have h := Option.some.inj h
    subst h
    rw [← hQ]
    exact retI hx hb hr hlk hw rfl dX10_give_18
  refine lv_iload_n hx hb dX10_give_0 rfl (lv_at hl 2 rfl) ?_
  refine lv_iconst (v := 0) hx hb dX10_give_1 (by decide) ?_
  refine lv_bipush (v := 99) hx hb dX10_give_2 (by decide) ?_
  obtain ⟨q_4, h_4, h⟩ := bnd_e h
  have pg_4 := preG (av := [.int a2, .int ((0 : Int32)), .int ((99 : Int32))]) hK hw.1 hw.2.1 (NC_keep hN hw.2.2) NC_blind
  refine endI (mc := 0) (ms := 0) (va_runS (As := [.int a2, .int ((0 : Int32)), .int ((99 : Int32))]) (rest := []) ⟨hx, hb, hml, hown, hts⟩ (m10_isWithin l D ad cy H.size s0 s1 s2 s3 s4 s5 s6 s7 s8 s9 s10 a2 ((0 : Int32)) ((99 : Int32)) q_4 h_4) (wX10_86 0 hts ⟨Nat.le_of_ble_eq_true rfl, Nat.le_of_ble_eq_true rfl⟩) pg_4 rfl rfl hl.1 rfl (lv_room (Nat.le_of_ble_eq_true rfl)) dX10_give_4 ⟨Nat.le_refl _, Nat.le_refl _⟩) hw.2.2 (afr_in hw.2.2) (fun H locs hw => ?_)
  refine lv_if_eq (tgt := 17) hx hb dX10_give_7 (by decide) (fun c_7 => ?_) (fun c_7 => ?_)
  · have h := ite_t c_7 h
    exact hJ_17 s1 s4 s9 H locs ls h hw (lv_sub hl [] rfl)
  · have h := ite_f c_7 h
    refine lv_iload_n hx hb dX10_give_10 rfl (lv_at hl 3 rfl) ?_
    obtain ⟨q_11, h_11, h⟩ := bnd_e h
    have pg_11 := preG (av := [.int a3]) hK hw.1 hw.2.1 (NC_keep hN hw.2.2) NC_blind
    refine endI (mc := 0) (ms := 0) (va_runS (As := [.int a3]) (rest := []) ⟨hx, hb, hml, hown, hts⟩ (m10_isPlace l D ad cy H.size s0 s1 s2 s3 s4 s5 s6 s7 s8 s9 s10 a3 q_11 h_11) (wX10_280 1 hts ⟨Nat.le_of_ble_eq_true rfl, Nat.le_of_ble_eq_true rfl⟩) pg_11 rfl rfl hl.1 rfl (lv_room (Nat.le_of_ble_eq_true rfl)) dX10_give_11 ⟨Nat.le_refl _, Nat.le_refl _⟩) hw.2.2 (afr_in hw.2.2) (fun H locs hw => ?_)
    refine lv_if_ne (tgt := 19) hx hb dX10_give_14 (by decide) (fun c_14 => ?_) (fun c_14 => ?_)
    · have h := ite_f c_14 h
      refine lv_aload_n hx hb dX10_give_19 rfl (lv_at hl 0 rfl) ?_
      refine gX10_23 hx hb hts hown hK hw dX10_give_20 ?_
      refine lv_iload_n hx hb dX10_give_23 rfl (lv_at hl 1 rfl) ?_
      obtain ⟨q_24, h_24, h⟩ := bnd_e h
      have pg_24 := preG (av := [.ref (ad 4), .int a1]) hK hw.1 hw.2.1 (NC_keep hN hw.2.2) NC_blind
      refine endI (mc := 0) (ms := 0) (va_runV (As := [.int a1]) (rest := []) ⟨hx, hb, hml, hown, hts⟩ (m4_isAtHand l D ad cy H.size s0 s1 s2 s3 s4 s5 s6 s7 s8 s9 s10 a1 q_24 h_24) (wX10_130 2 hts ⟨Nat.le_of_ble_eq_true rfl, Nat.le_of_ble_eq_true rfl⟩) ⟨pg_24.1, va_recv hK hw.1 (ci := 4) (q0 := 4) rfl eC_4, pg_24.2⟩ rfl rfl hl.1 rfl (lv_room (Nat.le_of_ble_eq_true rfl)) dX10_give_24 ⟨Nat.le_refl _, Nat.le_refl _⟩) hw.2.2 (afr_in hw.2.2) (fun H locs hw => ?_)
      refine lv_if_eq (tgt := 40) hx hb dX10_give_27 (by decide) (fun c_27 => ?_) (fun c_27 => ?_)
      · have h := ite_t c_27 h
        exact hJ_40 s1 s4 s9 H locs ls h hw (lv_sub hl [] rfl)
      · have h := ite_f c_27 h
        refine lv_aload_n hx hb dX10_give_30 rfl (lv_at hl 0 rfl) ?_
        refine gX10_58 hx hb hts hown hK hw dX10_give_31 ?_
        obtain ⟨q_34, h_34, h⟩ := bnd_e h
        have pg_34 := preG (av := [.ref (ad 9)]) hK hw.1 hw.2.1 (NC_keep hN hw.2.2) NC_blind
        refine endI (mc := 0) (ms := 0) (va_runV (As := []) (rest := []) ⟨hx, hb, hml, hown, hts⟩ (m9_hasRoomForGift l D ad cy H.size s0 s1 s2 s3 s4 s5 s6 s7 s8 s9 s10 q_34 h_34) (wX10_286 0 hts ⟨Nat.le_of_ble_eq_true rfl, Nat.le_of_ble_eq_true rfl⟩) ⟨pg_34.1, va_recv hK hw.1 (ci := 9) (q0 := 9) rfl eC_9, pg_34.2⟩ rfl rfl hl.1 rfl (lv_room (Nat.le_of_ble_eq_true rfl)) dX10_give_34 ⟨Nat.le_refl _, Nat.le_refl _⟩) hw.2.2 (afr_in hw.2.2) (fun H locs hw => ?_)
        refine lv_if_ne (tgt := 42) hx hb dX10_give_37 (by decide) (fun c_37 => ?_) (fun c_37 => ?_)
        · have h := ite_f c_37 h
          refine lv_aload_n hx hb dX10_give_42 rfl (lv_at hl 0 rfl) ?_
          refine gX10_23 hx hb hts hown hK hw dX10_give_43 ?_
          refine lv_iload_n hx hb dX10_give_46 rfl (lv_at hl 1 rfl) ?_
          refine lv_aload_n hx hb dX10_give_47 rfl (lv_at hl 0 rfl) ?_
          refine gX10_23 hx hb hts hown hK hw dX10_give_48 ?_
          refine lv_iload_n hx hb dX10_give_51 rfl (lv_at hl 1 rfl) ?_
          obtain ⟨q_52, h_52, h⟩ := bnd_e h
          have pg_52 := preG (av := [.ref (ad 4), .int a1]) hK hw.1 hw.2.1 (NC_keep hN hw.2.2) NC_blind
          refine endI (mc := 0) (ms := 0) (va_runV (As := [.int a1]) (rest := [.int a1, .ref (ad 4)]) ⟨hx, hb, hml, hown, hts⟩ (m4_weightOf l D ad cy H.size s0 s1 s2 s3 s4 s5 s6 s7 s8 s9 s10 a1 q_52 h_52) (wX10_104 1 hts ⟨Nat.le_of_ble_eq_true rfl, Nat.le_of_ble_eq_true rfl⟩) ⟨pg_52.1, va_recv hK hw.1 (ci := 4) (q0 := 4) rfl eC_4, pg_52.2⟩ rfl rfl hl.1 rfl (lv_room (Nat.le_of_ble_eq_true rfl)) dX10_give_52 ⟨Nat.le_refl _, Nat.le_refl _⟩) hw.2.2 (afr_in hw.2.2) (fun H locs hw => ?_)
          refine lv_iconst (v := 0) hx hb dX10_give_55 (by decide) ?_
          refine lv_bipush (v := 11) hx hb dX10_give_56 (by decide) ?_
          refine lv_aload_n hx hb dX10_give_58 rfl (lv_at hl 0 rfl) ?_
          refine gX10_69 hx hb hts hown hK hw dX10_give_59 ?_
          obtain ⟨q_62, h_62, h⟩ := bnd_e h
          have pg_62 := preG (av := [.ref (ad 4), .int a1, .int q_52, .int ((0 : Int32)), .int ((11 : Int32)), .int ((s10.1 0 9))]) hK hw.1 hw.2.1 (NC_keep hN hw.2.2) NC_blind
          refine endV (mc := 0) (ms := 0) (va_runV (As := [.int a1, .int q_52, .int ((0 : Int32)), .int ((11 : Int32)), .int ((s10.1 0 9))]) (rest := []) ⟨hx, hb, hml, hown, hts⟩ (m4_change l D ad cy H.size s0 s1 s2 s3 s4 s5 s6 s7 s8 s9 s10 a1 q_52 ((0 : Int32)) ((11 : Int32)) ((s10.1 0 9)) q_62 h_62) (wX10_108 1 hts ⟨Nat.le_of_ble_eq_true rfl, Nat.le_of_ble_eq_true rfl⟩) ⟨pg_62.1, va_recv hK hw.1 (ci := 4) (q0 := 4) rfl eC_4, pg_62.2⟩ rfl rfl hl.1 rfl (lv_room (Nat.le_of_ble_eq_true rfl)) dX10_give_62 ⟨Nat.le_refl _, Nat.le_refl _⟩) hw.2.2 (afr_in hw.2.2) (fun H locs hw => ?_)
          refine lv_aload_n hx hb dX10_give_65 rfl (lv_at hl 0 rfl) ?_
          refine gX10_58 hx hb hts hown hK hw dX10_give_66 ?_
          refine lv_iload_n hx hb dX10_give_69 rfl (lv_at hl 3 rfl) ?_
          refine lv_aload_n hx hb dX10_give_70 rfl (lv_at hl 0 rfl) ?_
          refine gX10_69 hx hb hts hown hK hw dX10_give_71 ?_
          obtain ⟨q_74, h_74, h⟩ := bnd_e h
          have pg_74 := preG (av := [.ref (ad 9), .int a3, .int ((s10.1 0 9))]) hK hw.1 hw.2.1 (NC_keep hN hw.2.2) NC_blind
          refine endI (mc := 0) (ms := 0) (va_runV (As := [.int a3, .int ((s10.1 0 9))]) (rest := []) ⟨hx, hb, hml, hown, hts⟩ (m9_begin l D ad cy H.size s0 q_62.1 s2 s3 q_62.2 s5 s6 s7 s8 s9 s10 a3 ((s10.1 0 9)) q_74 h_74) (wX10_289 1 hts ⟨Nat.le_of_ble_eq_true rfl, Nat.le_of_ble_eq_true rfl⟩) ⟨pg_74.1, va_recv hK hw.1 (ci := 9) (q0 := 9) rfl eC_9, pg_74.2⟩ rfl rfl hl.1 rfl (lv_room (Nat.le_of_ble_eq_true rfl)) dX10_give_74 ⟨Nat.le_refl _, Nat.le_refl _⟩) hw.2.2 (afr_in hw.2.2) (fun H locs hw => ?_)
          have h := Option.some.inj h
          subst h
          rw [← hQ]
          exact retI hx hb hr hlk hw rfl dX10_give_77
        · have h := ite_t c_37 h
          exact hJ_40 s1 s4 s9 H locs ls h hw (lv_sub hl [] rfl)
    · have h := ite_t c_14 h
      exact hJ_17 s1 s4 s9 H locs ls h hw (lv_sub hl [] rfl)
theorem dX10_isSooner_0 : decode cX10_isSooner 0 = .ok (.aload_n 0, 1) := by decide +kernel
theorem dX10_isSooner_1 : decode cX10_isSooner 1 = .ok (.getfield 23, 3) := by decide +kernel
theorem dX10_isSooner_4 : decode cX10_isSooner 4 = .ok (.iload_n 1, 1) := by decide +kernel
theorem dX10_isSooner_5 : decode cX10_isSooner 5 = .ok (.invokevirtual 219, 3) := by decide +kernel
theorem dX10_isSooner_8 : decode cX10_isSooner 8 = .ok (.invokestatic 222, 3) := by decide +kernel
theorem dX10_isSooner_11 : decode cX10_isSooner 11 = .ok (.istore_n 3, 1) := by decide +kernel
theorem dX10_isSooner_12 : decode cX10_isSooner 12 = .ok (.aload_n 0, 1) := by decide +kernel
theorem dX10_isSooner_13 : decode cX10_isSooner 13 = .ok (.getfield 23, 3) := by decide +kernel
theorem dX10_isSooner_16 : decode cX10_isSooner 16 = .ok (.iload_n 2, 1) := by decide +kernel
theorem dX10_isSooner_17 : decode cX10_isSooner 17 = .ok (.invokevirtual 219, 3) := by decide +kernel
theorem dX10_isSooner_20 : decode cX10_isSooner 20 = .ok (.invokestatic 222, 3) := by decide +kernel
theorem dX10_isSooner_23 : decode cX10_isSooner 23 = .ok (.istore 4, 2) := by decide +kernel
theorem dX10_isSooner_25 : decode cX10_isSooner 25 = .ok (.iload_n 3, 1) := by decide +kernel
theorem dX10_isSooner_26 : decode cX10_isSooner 26 = .ok (.iload 4, 2) := by decide +kernel
theorem dX10_isSooner_28 : decode cX10_isSooner 28 = .ok (.if_icmp .eq 15, 3) := by decide +kernel
theorem dX10_isSooner_31 : decode cX10_isSooner 31 = .ok (.iload_n 3, 1) := by decide +kernel
theorem dX10_isSooner_32 : decode cX10_isSooner 32 = .ok (.iload 4, 2) := by decide +kernel
theorem dX10_isSooner_34 : decode cX10_isSooner 34 = .ok (.if_icmp .ge 7, 3) := by decide +kernel
theorem dX10_isSooner_37 : decode cX10_isSooner 37 = .ok (.iconst 1, 1) := by decide +kernel
theorem dX10_isSooner_38 : decode cX10_isSooner 38 = .ok (.goto 4, 3) := by decide +kernel
theorem dX10_isSooner_41 : decode cX10_isSooner 41 = .ok (.iconst 0, 1) := by decide +kernel
theorem dX10_isSooner_42 : decode cX10_isSooner 42 = .ok (.ireturn, 1) := by decide +kernel
theorem dX10_isSooner_43 : decode cX10_isSooner 43 = .ok (.aload_n 0, 1) := by decide +kernel
theorem dX10_isSooner_44 : decode cX10_isSooner 44 = .ok (.getfield 23, 3) := by decide +kernel
theorem dX10_isSooner_47 : decode cX10_isSooner 47 = .ok (.iload_n 1, 1) := by decide +kernel
theorem dX10_isSooner_48 : decode cX10_isSooner 48 = .ok (.invokevirtual 104, 3) := by decide +kernel
theorem dX10_isSooner_51 : decode cX10_isSooner 51 = .ok (.aload_n 0, 1) := by decide +kernel
theorem dX10_isSooner_52 : decode cX10_isSooner 52 = .ok (.getfield 23, 3) := by decide +kernel
theorem dX10_isSooner_55 : decode cX10_isSooner 55 = .ok (.iload_n 2, 1) := by decide +kernel
theorem dX10_isSooner_56 : decode cX10_isSooner 56 = .ok (.invokevirtual 104, 3) := by decide +kernel
theorem dX10_isSooner_59 : decode cX10_isSooner 59 = .ok (.if_icmp .ge 7, 3) := by decide +kernel
theorem dX10_isSooner_62 : decode cX10_isSooner 62 = .ok (.iconst 1, 1) := by decide +kernel
theorem dX10_isSooner_63 : decode cX10_isSooner 63 = .ok (.goto 4, 3) := by decide +kernel
theorem dX10_isSooner_66 : decode cX10_isSooner 66 = .ok (.iconst 0, 1) := by decide +kernel
theorem dX10_isSooner_67 : decode cX10_isSooner 67 = .ok (.ireturn, 1) := by decide +kernel
def f10_isSooner_j67 (k0_j67 : Int32) (s4_j67 : OS) : Option (Int32) := chk (isB k0_j67) (some k0_j67)
def f10_isSooner_j42 (k0_j42 : Int32) (s4_j42 : OS) : Option (Int32) := chk (isB k0_j42) (some k0_j42)
def f10_isSooner (a1 : Int32) (a2 : Int32) (s4 : OS) : Option (Int32) := Option.bind (f4_metOf a1 s4) fun q_5 => Option.bind (fJ6_bitCount_0f7a4 q_5) fun q_8 => Option.bind (f4_metOf a2 s4) fun q_17 => Option.bind (fJ6_bitCount_0f7a4 q_17) fun q_20 => if q_8 = q_20 then (Option.bind (f4_weightOf a1 s4) fun q_48 => Option.bind (f4_weightOf a2 s4) fun q_56 => if q_56 ≤ q_48 then (f10_isSooner_j67 ((0 : Int32)) s4) else (f10_isSooner_j67 ((1 : Int32)) s4)) else (if q_20 ≤ q_8 then (f10_isSooner_j42 ((0 : Int32)) s4) else (f10_isSooner_j42 ((1 : Int32)) s4))
set_option maxHeartbeats 4000000 in
set_option maxRecDepth 100000 in
theorem m10_isSooner (l : Launch) (D : va_G) (ad : Nat → Nat) (cy : Nat → ClassId) (sz : Nat) (s0 s1 s2 s3 s4 s5 s6 s7 s8 s9 s10 : OS) (a1 : Int32) (a2 : Int32) (r : Int32) (h : f10_isSooner a1 a2 s4 = some r) : Met l yX10_isSooner (wsOf yX10_isSooner cX10_isSooner 5 (some .boolean)) (rmL 2) (va_Pc ([.ref (ad 10), .int a1, .int a2] : List Value) (PreG D cy (cellsC ad cy s0 s1 s2 s3 s4 s5 s6 s7 s8 s9 s10) sz (NC ad))) (QcI D ad 67 (cellsC ad cy s0 s1 s2 s3 s4 s5 s6 s7 s8 s9 s10) (r) sz) 0 0 (Afr ad 67 sz) := by
  refine metG (own := RX10) (by decide) rfl (Nat.le_of_ble_eq_true rfl) fstC ?_ sz
  intro p e s m below meth c ls C0 hw hl
  obtain ⟨hx, hb, hml, hown, hts, hr, hlk, hK, hN⟩ := C0
  have hl : lv_has ls 5 [(0, .ref (ad 10)), (1, .int a1), (2, .int a2)] := hl
  generalize hQ : MQ below (QcI D ad 67 (cellsC ad cy s0 s1 s2 s3 s4 s5 s6 s7 s8 s9 s10) (r) s.heap.size) ([.ref (ad 10), .int a1, .int a2] : List Value).toArray s 0 0 (Afr ad 67 s.heap.size) = Q
  obtain ⟨H, hH⟩ : ∃ H : Heap, H = s.heap := ⟨_, rfl⟩
  obtain ⟨locs, hlc⟩ : ∃ L : List Loc, L = [] := ⟨_, rfl⟩
  have hw : Wd D (cellsC ad cy s0 s1 s2 s3 s4 s5 s6 s7 s8 s9 s10) (Afr ad 67 s.heap.size) s.heap H locs := by rw [hH, hlc]; exact hw
  suffices h0 : W p l e (rmL 2) s m ([.ref (ad 10), .int a1, .int a2] : List Value).toArray below meth c H locs 0 0 Q (F0 m 0 ls []) by rw [hH, hlc] at h0; exact h0
  clear hH hlc
  unfold f10_isSooner at h
  have hJ_67 : ∀ (k0_j67 : Int32) (H : Heap) (locs : List Loc) (ls : Array Slot), f10_isSooner_j67 k0_j67 s4 = some r → Wd D (cellsC ad cy s0 s1 s2 s3 s4 s5 s6 s7 s8 s9 s10) (Afr ad 67 s.heap.size) s.heap H locs → lv_has ls 5 [] → W p l e (rmL 2) s m ([.ref (ad 10), .int a1, .int a2] : List Value).toArray below meth c H locs 0 0 Q (F0 m 67 ls [.int k0_j67]) := by
    intro k0_j67 H locs ls h hw hl
    unfold f10_isSooner_j67 at h
    obtain ⟨hz_67, h⟩ := chk_e h
    have h := Option.some.inj h
    subst h
    rw [← hQ]
    exact retI hx hb hr hlk hw (narB hz_67) dX10_isSooner_67
  have hJ_42 : ∀ (k0_j42 : Int32) (H : Heap) (locs : List Loc) (ls : Array Slot), f10_isSooner_j42 k0_j42 s4 = some r → Wd D (cellsC ad cy s0 s1 s2 s3 s4 s5 s6 s7 s8 s9 s10) (Afr ad 67 s.heap.size) s.heap H locs → lv_has ls 5 [] → W p l e (rmL 2) s m ([.ref (ad 10), .int a1, .int a2] : List Value).toArray below meth c H locs 0 0 Q (F0 m 42 ls [.int k0_j42]) := by
    intro k0_j42 H locs ls h hw hl
    unfold f10_isSooner_j42 at h
    obtain ⟨hz_42, h⟩ := chk_e h
    have h := Option.some.inj h
    subst h
    rw [← hQ]
    exact retI hx hb hr hlk hw (narB hz_42) dX10_isSooner_42
  refine lv_aload_n hx hb dX10_isSooner_0 rfl (lv_at hl 0 rfl) ?_
  refine gX10_23 hx hb hts hown hK hw dX10_isSooner_1 ?_
  refine lv_iload_n hx hb dX10_isSooner_4 rfl (lv_at hl 1 rfl) ?_
  obtain ⟨q_5, h_5, h⟩ := bnd_e h
  have pg_5 := preG (av := [.ref (ad 4), .int a1]) hK hw.1 hw.2.1 (NC_keep hN hw.2.2) NC_blind
  refine endI (mc := 0) (ms := 0) (va_runV (As := [.int a1]) (rest := []) ⟨hx, hb, hml, hown, hts⟩ (m4_metOf l D ad cy H.size s0 s1 s2 s3 s4 s5 s6 s7 s8 s9 s10 a1 q_5 h_5) (wX10_219 1 hts ⟨Nat.le_of_ble_eq_true rfl, Nat.le_of_ble_eq_true rfl⟩) ⟨pg_5.1, va_recv hK hw.1 (ci := 4) (q0 := 4) rfl eC_4, pg_5.2⟩ rfl rfl hl.1 rfl (lv_room (Nat.le_of_ble_eq_true rfl)) dX10_isSooner_5 ⟨Nat.le_refl _, Nat.le_refl _⟩) hw.2.2 (afr_in hw.2.2) (fun H locs hw => ?_)
  obtain ⟨q_8, h_8, h⟩ := bnd_e h
  have pg_8 := preG (av := [.int q_5]) hK hw.1 hw.2.1 (NC_keep hN hw.2.2) NC_blind
  refine endI (mc := 0) (ms := 0) (va_runS (As := [.int q_5]) (rest := []) ⟨hx, hb, hml, hown, hts⟩ (mJ6_bitCount_0f7a4 l D ad cy H.size s0 s1 s2 s3 s4 s5 s6 s7 s8 s9 s10 q_5 q_8 h_8) (wX10_222 0 hts ⟨Nat.le_of_ble_eq_true rfl, Nat.le_of_ble_eq_true rfl⟩) pg_8 rfl rfl hl.1 rfl (lv_room (Nat.le_of_ble_eq_true rfl)) dX10_isSooner_8 ⟨Nat.le_refl _, Nat.le_refl _⟩) hw.2.2 (afr_in hw.2.2) (fun H locs hw => ?_)
  refine lv_istore_n (lv' := [(3, .int q_8), (0, .ref (ad 10)), (1, .int a1), (2, .int a2)]) hx hb dX10_isSooner_11 rfl hl (by decide) rfl (fun ls hl => ?_)
  refine lv_aload_n hx hb dX10_isSooner_12 rfl (lv_at hl 1 rfl) ?_
  refine gX10_23 hx hb hts hown hK hw dX10_isSooner_13 ?_
  refine lv_iload_n hx hb dX10_isSooner_16 rfl (lv_at hl 3 rfl) ?_
  obtain ⟨q_17, h_17, h⟩ := bnd_e h
  have pg_17 := preG (av := [.ref (ad 4), .int a2]) hK hw.1 hw.2.1 (NC_keep hN hw.2.2) NC_blind
  refine endI (mc := 0) (ms := 0) (va_runV (As := [.int a2]) (rest := []) ⟨hx, hb, hml, hown, hts⟩ (m4_metOf l D ad cy H.size s0 s1 s2 s3 s4 s5 s6 s7 s8 s9 s10 a2 q_17 h_17) (wX10_219 1 hts ⟨Nat.le_of_ble_eq_true rfl, Nat.le_of_ble_eq_true rfl⟩) ⟨pg_17.1, va_recv hK hw.1 (ci := 4) (q0 := 4) rfl eC_4, pg_17.2⟩ rfl rfl hl.1 rfl (lv_room (Nat.le_of_ble_eq_true rfl)) dX10_isSooner_17 ⟨Nat.le_refl _, Nat.le_refl _⟩) hw.2.2 (afr_in hw.2.2) (fun H locs hw => ?_)
  obtain ⟨q_20, h_20, h⟩ := bnd_e h
  have pg_20 := preG (av := [.int q_17]) hK hw.1 hw.2.1 (NC_keep hN hw.2.2) NC_blind
  refine endI (mc := 0) (ms := 0) (va_runS (As := [.int q_17]) (rest := []) ⟨hx, hb, hml, hown, hts⟩ (mJ6_bitCount_0f7a4 l D ad cy H.size s0 s1 s2 s3 s4 s5 s6 s7 s8 s9 s10 q_17 q_20 h_20) (wX10_222 0 hts ⟨Nat.le_of_ble_eq_true rfl, Nat.le_of_ble_eq_true rfl⟩) pg_20 rfl rfl hl.1 rfl (lv_room (Nat.le_of_ble_eq_true rfl)) dX10_isSooner_20 ⟨Nat.le_refl _, Nat.le_refl _⟩) hw.2.2 (afr_in hw.2.2) (fun H locs hw => ?_)
  refine lv_istore (lv' := [(4, .int q_20), (3, .int q_8), (0, .ref (ad 10)), (1, .int a1), (2, .int a2)]) hx hb dX10_isSooner_23 hl (by decide) rfl (fun ls hl => ?_)
  refine lv_iload_n hx hb dX10_isSooner_25 rfl (lv_at hl 1 rfl) ?_
  refine lv_iload hx hb dX10_isSooner_26 (lv_at hl 0 rfl) ?_
  refine lv_icmp_eq (tgt := 43) hx hb dX10_isSooner_28 (by decide) (fun c_28 => ?_) (fun c_28 => ?_)
  · have h := ite_t c_28 h
    refine lv_aload_n hx hb dX10_isSooner_43 rfl (lv_at hl 2 rfl) ?_
    refine gX10_23 hx hb hts hown hK hw dX10_isSooner_44 ?_
    refine lv_iload_n hx hb dX10_isSooner_47 rfl (lv_at hl 3 rfl) ?_
    obtain ⟨q_48, h_48, h⟩ := bnd_e h
    have pg_48 := preG (av := [.ref (ad 4), .int a1]) hK hw.1 hw.2.1 (NC_keep hN hw.2.2) NC_blind
    refine endI (mc := 0) (ms := 0) (va_runV (As := [.int a1]) (rest := []) ⟨hx, hb, hml, hown, hts⟩ (m4_weightOf l D ad cy H.size s0 s1 s2 s3 s4 s5 s6 s7 s8 s9 s10 a1 q_48 h_48) (wX10_104 1 hts ⟨Nat.le_of_ble_eq_true rfl, Nat.le_of_ble_eq_true rfl⟩) ⟨pg_48.1, va_recv hK hw.1 (ci := 4) (q0 := 4) rfl eC_4, pg_48.2⟩ rfl rfl hl.1 rfl (lv_room (Nat.le_of_ble_eq_true rfl)) dX10_isSooner_48 ⟨Nat.le_refl _, Nat.le_refl _⟩) hw.2.2 (afr_in hw.2.2) (fun H locs hw => ?_)
    refine lv_aload_n hx hb dX10_isSooner_51 rfl (lv_at hl 2 rfl) ?_
    refine gX10_23 hx hb hts hown hK hw dX10_isSooner_52 ?_
    refine lv_iload_n hx hb dX10_isSooner_55 rfl (lv_at hl 4 rfl) ?_
    obtain ⟨q_56, h_56, h⟩ := bnd_e h
    have pg_56 := preG (av := [.ref (ad 4), .int a2]) hK hw.1 hw.2.1 (NC_keep hN hw.2.2) NC_blind
    refine endI (mc := 0) (ms := 0) (va_runV (As := [.int a2]) (rest := [.int q_48]) ⟨hx, hb, hml, hown, hts⟩ (m4_weightOf l D ad cy H.size s0 s1 s2 s3 s4 s5 s6 s7 s8 s9 s10 a2 q_56 h_56) (wX10_104 1 hts ⟨Nat.le_of_ble_eq_true rfl, Nat.le_of_ble_eq_true rfl⟩) ⟨pg_56.1, va_recv hK hw.1 (ci := 4) (q0 := 4) rfl eC_4, pg_56.2⟩ rfl rfl hl.1 rfl (lv_room (Nat.le_of_ble_eq_true rfl)) dX10_isSooner_56 ⟨Nat.le_refl _, Nat.le_refl _⟩) hw.2.2 (afr_in hw.2.2) (fun H locs hw => ?_)
    refine lv_icmp_ge (tgt := 66) hx hb dX10_isSooner_59 (by decide) (fun c_59 => ?_) (fun c_59 => ?_)
    · have h := ite_t c_59 h
      refine lv_iconst (v := 0) hx hb dX10_isSooner_66 (by decide) ?_
      exact hJ_67 ((0 : Int32)) H locs ls h hw (lv_sub hl [] rfl)
    · have h := ite_f c_59 h
      refine lv_iconst (v := 1) hx hb dX10_isSooner_62 (by decide) ?_
      refine lv_goto (tgt := 67) hx hb dX10_isSooner_63 (by decide) ?_
      exact hJ_67 ((1 : Int32)) H locs ls h hw (lv_sub hl [] rfl)
  · have h := ite_f c_28 h
    refine lv_iload_n hx hb dX10_isSooner_31 rfl (lv_at hl 1 rfl) ?_
    refine lv_iload hx hb dX10_isSooner_32 (lv_at hl 0 rfl) ?_
    refine lv_icmp_ge (tgt := 41) hx hb dX10_isSooner_34 (by decide) (fun c_34 => ?_) (fun c_34 => ?_)
    · have h := ite_t c_34 h
      refine lv_iconst (v := 0) hx hb dX10_isSooner_41 (by decide) ?_
      exact hJ_42 ((0 : Int32)) H locs ls h hw (lv_sub hl [] rfl)
    · have h := ite_f c_34 h
      refine lv_iconst (v := 1) hx hb dX10_isSooner_37 (by decide) ?_
      refine lv_goto (tgt := 42) hx hb dX10_isSooner_38 (by decide) ?_
      exact hJ_42 ((1 : Int32)) H locs ls h hw (lv_sub hl [] rfl)
