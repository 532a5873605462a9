theorem dX3_countAnswers_0 : decode cX3_countAnswers 0 = .ok (.iload_n 1, 1) := by decide +kernel
theorem dX3_countAnswers_1 : decode cX3_countAnswers 1 = .ok (.ifCond .lt 17, 3) := by decide +kernel
theorem dX3_countAnswers_4 : decode cX3_countAnswers 4 = .ok (.iload_n 1, 1) := by decide +kernel
theorem dX3_countAnswers_5 : decode cX3_countAnswers 5 = .ok (.aload_n 0, 1) := by decide +kernel
theorem dX3_countAnswers_6 : decode cX3_countAnswers 6 = .ok (.getfield 21, 3) := by decide +kernel
theorem dX3_countAnswers_9 : decode cX3_countAnswers 9 = .ok (.if_icmp .ge 9, 3) := by decide +kernel
theorem dX3_countAnswers_12 : decode cX3_countAnswers 12 = .ok (.iload_n 1, 1) := by decide +kernel
theorem dX3_countAnswers_13 : decode cX3_countAnswers 13 = .ok (.bipush 6, 2) := by decide +kernel
theorem dX3_countAnswers_15 : decode cX3_countAnswers 15 = .ok (.if_icmp .lt 5, 3) := by decide +kernel
theorem dX3_countAnswers_18 : decode cX3_countAnswers 18 = .ok (.iconst 1, 1) := by decide +kernel
theorem dX3_countAnswers_19 : decode cX3_countAnswers 19 = .ok (.ireturn, 1) := by decide +kernel
theorem dX3_countAnswers_20 : decode cX3_countAnswers 20 = .ok (.iconst 0, 1) := by decide +kernel
theorem dX3_countAnswers_21 : decode cX3_countAnswers 21 = .ok (.istore_n 3, 1) := by decide +kernel
theorem dX3_countAnswers_22 : decode cX3_countAnswers 22 = .ok (.iconst 0, 1) := by decide +kernel
theorem dX3_countAnswers_23 : decode cX3_countAnswers 23 = .ok (.istore 4, 2) := by decide +kernel
theorem dX3_countAnswers_25 : decode cX3_countAnswers 25 = .ok (.iload 4, 2) := by decide +kernel
theorem dX3_countAnswers_27 : decode cX3_countAnswers 27 = .ok (.aload_n 0, 1) := by decide +kernel
theorem dX3_countAnswers_28 : decode cX3_countAnswers 28 = .ok (.getfield 21, 3) := by decide +kernel
theorem dX3_countAnswers_31 : decode cX3_countAnswers 31 = .ok (.if_icmp .ge 68, 3) := by decide +kernel
theorem dX3_countAnswers_34 : decode cX3_countAnswers 34 = .ok (.iconst 1, 1) := by decide +kernel
theorem dX3_countAnswers_35 : decode cX3_countAnswers 35 = .ok (.iload 4, 2) := by decide +kernel
theorem dX3_countAnswers_37 : decode cX3_countAnswers 37 = .ok (.ishl, 1) := by decide +kernel
theorem dX3_countAnswers_38 : decode cX3_countAnswers 38 = .ok (.istore 5, 2) := by decide +kernel
theorem dX3_countAnswers_40 : decode cX3_countAnswers 40 = .ok (.aload_n 0, 1) := by decide +kernel
theorem dX3_countAnswers_41 : decode cX3_countAnswers 41 = .ok (.getfield 15, 3) := by decide +kernel
theorem dX3_countAnswers_44 : decode cX3_countAnswers 44 = .ok (.iload_n 1, 1) := by decide +kernel
theorem dX3_countAnswers_45 : decode cX3_countAnswers 45 = .ok (.iaload, 1) := by decide +kernel
theorem dX3_countAnswers_46 : decode cX3_countAnswers 46 = .ok (.iload 5, 2) := by decide +kernel
theorem dX3_countAnswers_48 : decode cX3_countAnswers 48 = .ok (.iand, 1) := by decide +kernel
theorem dX3_countAnswers_49 : decode cX3_countAnswers 49 = .ok (.ifCond .eq 44, 3) := by decide +kernel
theorem dX3_countAnswers_52 : decode cX3_countAnswers 52 = .ok (.iload_n 2, 1) := by decide +kernel
theorem dX3_countAnswers_53 : decode cX3_countAnswers 53 = .ok (.iload 5, 2) := by decide +kernel
theorem dX3_countAnswers_55 : decode cX3_countAnswers 55 = .ok (.iand, 1) := by decide +kernel
theorem dX3_countAnswers_56 : decode cX3_countAnswers 56 = .ok (.ifCond .ne 37, 3) := by decide +kernel
theorem dX3_countAnswers_59 : decode cX3_countAnswers 59 = .ok (.aload_n 0, 1) := by decide +kernel
theorem dX3_countAnswers_60 : decode cX3_countAnswers 60 = .ok (.iload_n 1, 1) := by decide +kernel
theorem dX3_countAnswers_61 : decode cX3_countAnswers 61 = .ok (.iconst 1, 1) := by decide +kernel
theorem dX3_countAnswers_62 : decode cX3_countAnswers 62 = .ok (.iadd, 1) := by decide +kernel
theorem dX3_countAnswers_63 : decode cX3_countAnswers 63 = .ok (.iload_n 2, 1) := by decide +kernel
theorem dX3_countAnswers_64 : decode cX3_countAnswers 64 = .ok (.iload 5, 2) := by decide +kernel
theorem dX3_countAnswers_66 : decode cX3_countAnswers 66 = .ok (.ior, 1) := by decide +kernel
theorem dX3_countAnswers_67 : decode cX3_countAnswers 67 = .ok (.invokevirtual 38, 3) := by decide +kernel
theorem dX3_countAnswers_70 : decode cX3_countAnswers 70 = .ok (.istore 6, 2) := by decide +kernel
theorem dX3_countAnswers_72 : decode cX3_countAnswers 72 = .ok (.iload 6, 2) := by decide +kernel
theorem dX3_countAnswers_74 : decode cX3_countAnswers 74 = .ok (.ifCond .le 14, 3) := by decide +kernel
theorem dX3_countAnswers_77 : decode cX3_countAnswers 77 = .ok (.aload_n 0, 1) := by decide +kernel
theorem dX3_countAnswers_78 : decode cX3_countAnswers 78 = .ok (.getfield 18, 3) := by decide +kernel
theorem dX3_countAnswers_81 : decode cX3_countAnswers 81 = .ok (.iload_n 1, 1) := by decide +kernel
theorem dX3_countAnswers_82 : decode cX3_countAnswers 82 = .ok (.dup2, 1) := by decide +kernel
theorem dX3_countAnswers_83 : decode cX3_countAnswers 83 = .ok (.iaload, 1) := by decide +kernel
theorem dX3_countAnswers_84 : decode cX3_countAnswers 84 = .ok (.iload 5, 2) := by decide +kernel
theorem dX3_countAnswers_86 : decode cX3_countAnswers 86 = .ok (.ior, 1) := by decide +kernel
theorem dX3_countAnswers_87 : decode cX3_countAnswers 87 = .ok (.iastore, 1) := by decide +kernel
theorem dX3_countAnswers_88 : decode cX3_countAnswers 88 = .ok (.iload_n 3, 1) := by decide +kernel
theorem dX3_countAnswers_89 : decode cX3_countAnswers 89 = .ok (.iload 6, 2) := by decide +kernel
theorem dX3_countAnswers_91 : decode cX3_countAnswers 91 = .ok (.iadd, 1) := by decide +kernel
theorem dX3_countAnswers_92 : decode cX3_countAnswers 92 = .ok (.istore_n 3, 1) := by decide +kernel
theorem dX3_countAnswers_93 : decode cX3_countAnswers 93 = .ok (.iinc 4 1, 3) := by decide +kernel
theorem dX3_countAnswers_96 : decode cX3_countAnswers 96 = .ok (.goto (-71), 3) := by decide +kernel
theorem dX3_countAnswers_99 : decode cX3_countAnswers 99 = .ok (.iload_n 3, 1) := by decide +kernel
theorem dX3_countAnswers_100 : decode cX3_countAnswers 100 = .ok (.ireturn, 1) := by decide +kernel
noncomputable def f3_countAnswers_b_j18 (rs : Int32 → Int32 → OS → Option (Int32 × OS)) (s3_j18 : OS) : Option (Int32 × OS) := some ((1 : Int32), s3_j18)
noncomputable def f3_countAnswers_b_j93 (rs : Int32 → Int32 → OS → Option (Int32 × OS)) (v1_j93 : Int32) (v2_j93 : Int32) (v3_j93 : Int32) (v4_j93 : Int32) (s3_j93 : OS) : Option ((Int32 × Int32 × OS) ⊕ (Int32 × OS)) := nm (v4_j93 + (1 : Int32)) fun n_93 => some (Sum.inl (v3_j93, n_93, s3_j93))
noncomputable def f3_countAnswers_b_j88 (rs : Int32 → Int32 → OS → Option (Int32 × OS)) (v1_j88 : Int32) (v2_j88 : Int32) (v3_j88 : Int32) (v4_j88 : Int32) (v6_j88 : Int32) (s3_j88 : OS) : Option ((Int32 × Int32 × OS) ⊕ (Int32 × OS)) := nm ((v3_j88 + v6_j88)) fun n_92 => f3_countAnswers_b_j93 rs v1_j88 v2_j88 n_92 v4_j88 s3_j88
noncomputable def f3_countAnswers_b_l25 (rs : Int32 → Int32 → OS → Option (Int32 × OS)) (v1_i25 : Int32) (v2_i25 : Int32) : Int32 × Int32 × OS → Option ((Int32 × Int32 × OS) ⊕ (Int32 × OS)) := fun t_25 => if (t_25.2.2.1 0 3) ≤ t_25.2.1 then (Option.map Sum.inr (some (t_25.1, t_25.2.2))) else (nm (((1 : Int32) <<< (t_25.2.1 &&& 31))) fun n_38 => chk (inb v1_i25 6) (nm (t_25.2.2.1 2 v1_i25.toNatClampNeg) fun y_45 => if (y_45 &&& n_38) = 0 then (f3_countAnswers_b_j93 rs v1_i25 v2_i25 t_25.1 t_25.2.1 t_25.2.2) else (if (v2_i25 &&& n_38) = 0 then (Option.bind (rs ((v1_i25 + (1 : Int32))) ((v2_i25 ||| n_38)) t_25.2.2) fun q_67 => if q_67.1 ≤ 0 then (f3_countAnswers_b_j88 rs v1_i25 v2_i25 t_25.1 t_25.2.1 q_67.1 q_67.2) else (chk (inb v1_i25 6) (nm (q_67.2.1 3 v1_i25.toNatClampNeg) fun y_83 => chk (inb v1_i25 6) (nm (wI q_67.2 3 v1_i25.toNatClampNeg ((y_83 ||| n_38))) fun s3_87 => f3_countAnswers_b_j88 rs v1_i25 v2_i25 t_25.1 t_25.2.1 q_67.1 s3_87)))) else (f3_countAnswers_b_j93 rs v1_i25 v2_i25 t_25.1 t_25.2.1 t_25.2.2))))
noncomputable def f3_countAnswers_b (rs : Int32 → Int32 → OS → Option (Int32 × OS)) (a1 : Int32) (a2 : Int32) (s3 : OS) : Option (Int32 × OS) := if a1 < 0 then (f3_countAnswers_b_j18 rs s3) else (if (s3.1 0 3) ≤ a1 then (f3_countAnswers_b_j18 rs s3) else (if a1 < (6 : Int32) then (loop (f3_countAnswers_b_l25 rs a1 a2) ((0 : Int32), (0 : Int32), s3)) else (f3_countAnswers_b_j18 rs s3)))
set_option maxHeartbeats 4000000 in
set_option maxRecDepth 100000 in
theorem m3_countAnswers_b (l : Launch) (rs : Int32 → Int32 → OS → Option (Int32 × OS)) (j : Nat) (hj : 4 ≤ j) (hrs : ∀ (D : va_G) (ad : Nat → Nat) (cy : Nat → ClassId) (sz : Nat) (s0 s1 s2 s3 s4 s5 s6 s7 s8 s9 s10 : OS) (a1 : Int32) (a2 : Int32) (r : Int32 × OS), rs a1 a2 s3 = some r → Met l yX3_countAnswers (wsOf yX3_countAnswers cX3_countAnswers 7 (some .int)) (rmL (j)) (va_Pc ([.ref (ad 3), .int a1, .int a2] : List Value) (PreG D cy (cellsC ad cy s0 s1 s2 s3 s4 s5 s6 s7 s8 s9 s10) sz (NC ad))) (QcI D ad 67 (cellsC ad cy s0 s1 s2 r.2 s4 s5 s6 s7 s8 s9 s10) (r.1) sz) 0 0 (Afr ad 67 sz)) (D : va_G) (ad : Nat → Nat) (cy : Nat → ClassId) (sz : Nat) (s0 s1 s2 s3 s4 s5 s6 s7 s8 s9 s10 : OS) (a1 : Int32) (a2 : Int32) (r : Int32 × OS) (h : f3_countAnswers_b rs a1 a2 s3 = some r) : Met l yX3_countAnswers (wsOf yX3_countAnswers cX3_countAnswers 7 (some .int)) (rmL (j + 1)) (va_Pc ([.ref (ad 3), .int a1, .int a2] : List Value) (PreG D cy (cellsC ad cy s0 s1 s2 s3 s4 s5 s6 s7 s8 s9 s10) sz (NC ad))) (QcI D ad 67 (cellsC ad cy s0 s1 s2 r.2 s4 s5 s6 s7 s8 s9 s10) (r.1) sz) 0 0 (Afr ad 67 sz) := by
  refine metG (own := RX3) (by decide) rfl (Nat.le_of_ble_eq_true rfl) fstC ?_ sz
  intro p e s m below meth c ls C0 hw hl
  obtain ⟨hx, hb, hml, hown, hts, hr, hlk, hK, hN⟩ := C0
  have hl : lv_has ls 7 [(0, .ref (ad 3)), (1, .int a1), (2, .int a2)] := hl
  generalize hQ : MQ below (QcI D ad 67 (cellsC ad cy s0 s1 s2 r.2 s4 s5 s6 s7 s8 s9 s10) (r.1) s.heap.size) ([.ref (ad 3), .int a1, .int a2] : List Value).toArray s 0 0 (Afr ad 67 s.heap.size) = Q
  obtain ⟨H, hH⟩ : ∃ H : Heap, H = s.heap := ⟨_, rfl⟩
  obtain ⟨locs, hlc⟩ : ∃ L : List Loc, L = [] := ⟨_, rfl⟩
  have hw : Wd D (cellsC ad cy s0 s1 s2 s3 s4 s5 s6 s7 s8 s9 s10) (Afr ad 67 s.heap.size) s.heap H locs := by rw [hH, hlc]; exact hw
  suffices h0 : W p l e (rmL (j + 1)) s m ([.ref (ad 3), .int a1, .int a2] : List Value).toArray below meth c H locs 0 0 Q (F0 m 0 ls []) by rw [hH, hlc] at h0; exact h0
  clear hH hlc
  unfold f3_countAnswers_b at h
  have hJ_18 : ∀ (s3_j18 : OS) (H : Heap) (locs : List Loc) (ls : Array Slot), f3_countAnswers_b_j18 rs s3_j18 = some r → Wd D (cellsC ad cy s0 s1 s2 s3_j18 s4 s5 s6 s7 s8 s9 s10) (Afr ad 67 s.heap.size) s.heap H locs → lv_has ls 7 [] → W p l e (rmL (j + 1)) s m ([.ref (ad 3), .int a1, .int a2] : List Value).toArray below meth c H locs 0 0 Q (F0 m 18 ls []) := by
    intro s3_j18 H locs ls h hw hl
    unfold f3_countAnswers_b_j18 at h
    refine lv_iconst (v := 1) hx hb dX3_countAnswers_18 (by decide) ?_
    have h := Option.some.inj h
    subst h
    rw [← hQ]
    exact retI hx hb hr hlk hw rfl dX3_countAnswers_19
  refine lv_iload_n hx hb dX3_countAnswers_0 rfl (lv_at hl 1 rfl) ?_
  refine lv_if_lt (tgt := 18) hx hb dX3_countAnswers_1 (by decide) (fun c_1 => ?_) (fun c_1 => ?_)
  · have h := ite_t c_1 h
    exact hJ_18 s3 H locs ls h hw (lv_sub hl [] rfl)
  · have h := ite_f c_1 h
    refine lv_iload_n hx hb dX3_countAnswers_4 rfl (lv_at hl 1 rfl) ?_
    refine lv_aload_n hx hb dX3_countAnswers_5 rfl (lv_at hl 0 rfl) ?_
    refine gX3_21 hx hb hts hown hK hw dX3_countAnswers_6 ?_
    refine lv_icmp_ge (tgt := 18) hx hb dX3_countAnswers_9 (by decide) (fun c_9 => ?_) (fun c_9 => ?_)
    · have h := ite_t c_9 h
      exact hJ_18 s3 H locs ls h hw (lv_sub hl [] rfl)
    · have h := ite_f c_9 h
      refine lv_iload_n hx hb dX3_countAnswers_12 rfl (lv_at hl 1 rfl) ?_
      refine lv_bipush (v := 6) hx hb dX3_countAnswers_13 (by decide) ?_
      refine lv_icmp_lt (tgt := 20) hx hb dX3_countAnswers_15 (by decide) (fun c_15 => ?_) (fun c_15 => ?_)
      · have h := ite_t c_15 h
        refine lv_iconst (v := 0) hx hb dX3_countAnswers_20 (by decide) ?_
        refine lv_istore_n (lv' := [(3, .int ((0 : Int32))), (0, .ref (ad 3)), (1, .int a1), (2, .int a2)]) hx hb dX3_countAnswers_21 rfl hl (by decide) rfl (fun ls hl => ?_)
        refine lv_iconst (v := 0) hx hb dX3_countAnswers_22 (by decide) ?_
        refine lv_istore (lv' := [(4, .int ((0 : Int32))), (3, .int ((0 : Int32))), (0, .ref (ad 3)), (1, .int a1), (2, .int a2)]) hx hb dX3_countAnswers_23 hl (by decide) rfl (fun ls hl => ?_)
        obtain ⟨n_25, hn_25⟩ := loop_e h
        have hL_25 : ∀ (n : Nat) (t_25 : Int32 × Int32 × OS) (H : Heap) (locs : List Loc) (ls : Array Slot), loopN (f3_countAnswers_b_l25 rs a1 a2) n t_25 = some r → Wd D (cellsC ad cy s0 s1 s2 t_25.2.2 s4 s5 s6 s7 s8 s9 s10) (Afr ad 67 s.heap.size) s.heap H locs → lv_has ls 7 [(3, .int t_25.1), (4, .int t_25.2.1), (1, .int a1), (2, .int a2), (0, .ref (ad 3))] → W p l e (rmL (j + 1)) s m ([.ref (ad 3), .int a1, .int a2] : List Value).toArray below meth c H locs 0 0 Q (F0 m 25 ls []) := by
          intro n
          induction n with
          | zero => intro t_25 H locs ls hn; cases hn
          | succ n ih_25 =>
            intro t_25 H locs ls hn hw hl
            obtain ⟨x_25, h, hx_25⟩ := loopN_e hn
            unfold f3_countAnswers_b_l25 at h
            have hJ_93 : ∀ (v3_j93 : Int32) (v4_j93 : Int32) (s3_j93 : OS) (H : Heap) (locs : List Loc) (ls : Array Slot), f3_countAnswers_b_j93 rs a1 a2 v3_j93 v4_j93 s3_j93 = some x_25 → Wd D (cellsC ad cy s0 s1 s2 s3_j93 s4 s5 s6 s7 s8 s9 s10) (Afr ad 67 s.heap.size) s.heap H locs → lv_has ls 7 [(0, .ref (ad 3)), (1, .int a1), (2, .int a2), (3, .int v3_j93), (4, .int v4_j93)] → W p l e (rmL (j + 1)) s m ([.ref (ad 3), .int a1, .int a2] : List Value).toArray below meth c H locs 0 0 Q (F0 m 93 ls []) := by
              intro v3_j93 v4_j93 s3_j93 H locs ls h hw hl
              unfold f3_countAnswers_b_j93 at h
              obtain ⟨n_93, e_93, h⟩ := nam_e h
              refine lv_iinc (v := n_93) (lv' := [(4, .int n_93), (0, .ref (ad 3)), (1, .int a1), (2, .int a2), (3, .int v3_j93)]) hx hb dX3_countAnswers_93 hl (k := 4) rfl (by rw [e_93]; rfl) (by decide) rfl (fun ls hl => ?_)
              refine lv_goto (tgt := 25) hx hb dX3_countAnswers_96 (by decide) ?_
              exact ih_25 (v3_j93, n_93, s3_j93) H locs ls (nx_l hx_25 h) hw (lv_sub hl [4, 0, 2, 3, 1] rfl)
            have hJ_88 : ∀ (v3_j88 : Int32) (v4_j88 : Int32) (v6_j88 : Int32) (s3_j88 : OS) (H : Heap) (locs : List Loc) (ls : Array Slot), f3_countAnswers_b_j88 rs a1 a2 v3_j88 v4_j88 v6_j88 s3_j88 = some x_25 → Wd D (cellsC ad cy s0 s1 s2 s3_j88 s4 s5 s6 s7 s8 s9 s10) (Afr ad 67 s.heap.size) s.heap H locs → lv_has ls 7 [(0, .ref (ad 3)), (1, .int a1), (2, .int a2), (3, .int v3_j88), (4, .int v4_j88), (6, .int v6_j88)] → W p l e (rmL (j + 1)) s m ([.ref (ad 3), .int a1, .int a2] : List Value).toArray below meth c H locs 0 0 Q (F0 m 88 ls []) := by
              intro v3_j88 v4_j88 v6_j88 s3_j88 H locs ls h hw hl
              unfold f3_countAnswers_b_j88 at h
              refine lv_iload_n hx hb dX3_countAnswers_88 rfl (lv_at hl 3 rfl) ?_
              refine lv_iload hx hb dX3_countAnswers_89 (lv_at hl 5 rfl) ?_
              refine lv_iadd hx hb dX3_countAnswers_91 ?_
              obtain ⟨n_92, e_92, h⟩ := nam_e h
              refine topI e_92 ?_
              refine lv_istore_n (lv' := [(3, .int n_92), (0, .ref (ad 3)), (1, .int a1), (2, .int a2), (4, .int v4_j88), (6, .int v6_j88)]) hx hb dX3_countAnswers_92 rfl hl (by decide) rfl (fun ls hl => ?_)
              exact hJ_93 n_92 v4_j88 s3_j88 H locs ls h hw (lv_sub hl [1, 2, 3, 0, 4] rfl)
            refine lv_iload hx hb dX3_countAnswers_25 (lv_at hl 1 rfl) ?_
            refine lv_aload_n hx hb dX3_countAnswers_27 rfl (lv_at hl 4 rfl) ?_
            refine gX3_21 hx hb hts hown hK hw dX3_countAnswers_28 ?_
            refine lv_icmp_ge (tgt := 99) hx hb dX3_countAnswers_31 (by decide) (fun c_31 => ?_) (fun c_31 => ?_)
            · have h := ite_t c_31 h
              have h := nx_m hx_25 h
              refine lv_iload_n hx hb dX3_countAnswers_99 rfl (lv_at hl 0 rfl) ?_
              have h := Option.some.inj h
              subst h
              rw [← hQ]
              exact retI hx hb hr hlk hw rfl dX3_countAnswers_100
            · have h := ite_f c_31 h
              refine lv_iconst (v := 1) hx hb dX3_countAnswers_34 (by decide) ?_
              refine lv_iload hx hb dX3_countAnswers_35 (lv_at hl 1 rfl) ?_
              refine lv_ishl hx hb dX3_countAnswers_37 ?_
              obtain ⟨n_38, e_38, h⟩ := nam_e h
              refine topI e_38 ?_
              refine lv_istore (lv' := [(5, .int n_38), (3, .int t_25.1), (4, .int t_25.2.1), (1, .int a1), (2, .int a2), (0, .ref (ad 3))]) hx hb dX3_countAnswers_38 hl (by decide) rfl (fun ls hl => ?_)
              refine lv_aload_n hx hb dX3_countAnswers_40 rfl (lv_at hl 5 rfl) ?_
              refine gX3_15 hx hb hts hown hK hw dX3_countAnswers_41 ?_
              refine lv_iload_n hx hb dX3_countAnswers_44 rfl (lv_at hl 3 rfl) ?_
              obtain ⟨hi_45, h⟩ := chk_e h
              obtain ⟨y_45, e_45, h⟩ := nam_e h
              refine lC34 hx hb hK hw hi_45 e_45 dX3_countAnswers_45 ?_
              refine lv_iload hx hb dX3_countAnswers_46 (lv_at hl 0 rfl) ?_
              refine lv_iand hx hb dX3_countAnswers_48 ?_
              refine lv_if_eq (tgt := 93) hx hb dX3_countAnswers_49 (by decide) (fun c_49 => ?_) (fun c_49 => ?_)
              · have h := ite_t c_49 h
                exact hJ_93 t_25.1 t_25.2.1 t_25.2.2 H locs ls h hw (lv_sub hl [5, 3, 4, 1, 2] rfl)
              · have h := ite_f c_49 h
                refine lv_iload_n hx hb dX3_countAnswers_52 rfl (lv_at hl 4 rfl) ?_
                refine lv_iload hx hb dX3_countAnswers_53 (lv_at hl 0 rfl) ?_
                refine lv_iand hx hb dX3_countAnswers_55 ?_
                refine lv_if_ne (tgt := 93) hx hb dX3_countAnswers_56 (by decide) (fun c_56 => ?_) (fun c_56 => ?_)
                · have h := ite_f c_56 h
                  exact hJ_93 t_25.1 t_25.2.1 t_25.2.2 H locs ls h hw (lv_sub hl [5, 3, 4, 1, 2] rfl)
                · have h := ite_t c_56 h
                  refine lv_aload_n hx hb dX3_countAnswers_59 rfl (lv_at hl 5 rfl) ?_
                  refine lv_iload_n hx hb dX3_countAnswers_60 rfl (lv_at hl 3 rfl) ?_
                  refine lv_iconst (v := 1) hx hb dX3_countAnswers_61 (by decide) ?_
                  refine lv_iadd hx hb dX3_countAnswers_62 ?_
                  refine lv_iload_n hx hb dX3_countAnswers_63 rfl (lv_at hl 4 rfl) ?_
                  refine lv_iload hx hb dX3_countAnswers_64 (lv_at hl 0 rfl) ?_
                  refine lv_ior hx hb dX3_countAnswers_66 ?_
                  obtain ⟨q_67, h_67, h⟩ := bnd_e h
                  have pg_67 := preG (av := [.ref (ad 3), .int ((a1 + (1 : Int32))), .int ((a2 ||| n_38))]) hK hw.1 hw.2.1 (NC_keep hN hw.2.2) NC_blind
                  refine endI (mc := 0) (ms := 0) (va_runV (As := [.int ((a1 + (1 : Int32))), .int ((a2 ||| n_38))]) (rest := []) ⟨hx, hb, hml, hown, hts⟩ (hrs D ad cy H.size s0 s1 s2 t_25.2.2 s4 s5 s6 s7 s8 s9 s10 ((a1 + (1 : Int32))) ((a2 ||| n_38)) q_67 h_67) (wX3_38 j hts ⟨by show j + 1 ≤ (j + 1); omega, by show 8 + (7 + 11) + 40 * j ≤ 40 * (j + 1); omega⟩) ⟨pg_67.1, va_recv hK hw.1 (ci := 3) (q0 := 3) rfl eC_3, pg_67.2⟩ rfl rfl hl.1 rfl (lv_room (Nat.le_of_ble_eq_true rfl)) dX3_countAnswers_67 ⟨Nat.le_refl _, Nat.le_refl _⟩) hw.2.2 (afr_in hw.2.2) (fun H locs hw => ?_)
                  refine lv_istore (lv' := [(6, .int q_67.1), (5, .int n_38), (3, .int t_25.1), (4, .int t_25.2.1), (1, .int a1), (2, .int a2), (0, .ref (ad 3))]) hx hb dX3_countAnswers_70 hl (by decide) rfl (fun ls hl => ?_)
                  refine lv_iload hx hb dX3_countAnswers_72 (lv_at hl 0 rfl) ?_
                  refine lv_if_le (tgt := 88) hx hb dX3_countAnswers_74 (by decide) (fun c_74 => ?_) (fun c_74 => ?_)
                  · have h := ite_t c_74 h
                    exact hJ_88 t_25.1 t_25.2.1 q_67.1 q_67.2 H locs ls h hw (lv_sub hl [6, 4, 5, 2, 3, 0] rfl)
                  · have h := ite_f c_74 h
                    refine lv_aload_n hx hb dX3_countAnswers_77 rfl (lv_at hl 6 rfl) ?_
                    refine gX3_18 hx hb hts hown hK hw dX3_countAnswers_78 ?_
                    refine lv_iload_n hx hb dX3_countAnswers_81 rfl (lv_at hl 4 rfl) ?_
                    refine lv_dup2_11 hx hb dX3_countAnswers_82 rfl rfl ?_
                    obtain ⟨hi_83, h⟩ := chk_e h
                    obtain ⟨y_83, e_83, h⟩ := nam_e h
                    refine lC35 hx hb hK hw hi_83 e_83 dX3_countAnswers_83 ?_
                    refine lv_iload hx hb dX3_countAnswers_84 (lv_at hl 1 rfl) ?_
                    refine lv_ior hx hb dX3_countAnswers_86 ?_
                    obtain ⟨hi_87, h⟩ := chk_e h
                    obtain ⟨s3_87, e_87, h⟩ := nam_e h
                    refine aC35 hx hb hK hw hi_87 e_87 dX3_countAnswers_87 (fun H locs hw => ?_)
                    exact hJ_88 t_25.1 t_25.2.1 q_67.1 s3_87 H locs ls h hw (lv_sub hl [6, 4, 5, 2, 3, 0] rfl)
        exact hL_25 n_25 ((0 : Int32), (0 : Int32), s3) H locs ls hn_25 hw (lv_sub hl [1, 0, 3, 4, 2] rfl)
      · have h := ite_f c_15 h
        exact hJ_18 s3 H locs ls h hw (lv_sub hl [] rfl)
noncomputable def f3_countAnswers : Nat → Int32 → Int32 → OS → Option (Int32 × OS)
  | 0 => fun _ _ _ => none
  | d + 1 => f3_countAnswers_b (f3_countAnswers d)
theorem m3_countAnswers (l : Launch) : ∀ (d : Nat) (D : va_G) (ad : Nat → Nat) (cy : Nat → ClassId) (sz : Nat) (s0 s1 s2 s3 s4 s5 s6 s7 s8 s9 s10 : OS) (a1 : Int32) (a2 : Int32) (r : Int32 × OS), f3_countAnswers d a1 a2 s3 = some r → Met l yX3_countAnswers (wsOf yX3_countAnswers cX3_countAnswers 7 (some .int)) (rmL (4 + 1 * d)) (va_Pc ([.ref (ad 3), .int a1, .int a2] : List Value) (PreG D cy (cellsC ad cy s0 s1 s2 s3 s4 s5 s6 s7 s8 s9 s10) sz (NC ad))) (QcI D ad 67 (cellsC ad cy s0 s1 s2 r.2 s4 s5 s6 s7 s8 s9 s10) (r.1) sz) 0 0 (Afr ad 67 sz)
  | 0, D, ad, cy, sz, s0, s1, s2, s3, s4, s5, s6, s7, s8, s9, s10, a1, a2, r, h => by cases h
  | d + 1, D, ad, cy, sz, s0, s1, s2, s3, s4, s5, s6, s7, s8, s9, s10, a1, a2, r, h => m3_countAnswers_b l (f3_countAnswers d) (4 + 1 * d) (by omega) (m3_countAnswers l d) D ad cy sz s0 s1 s2 s3 s4 s5 s6 s7 s8 s9 s10 a1 a2 r h
theorem dX3_fitting_0 : decode cX3_fitting 0 = .ok (.iconst 0, 1) := by decide +kernel
theorem dX3_fitting_1 : decode cX3_fitting 1 = .ok (.istore 5, 2) := by decide +kernel
theorem dX3_fitting_3 : decode cX3_fitting 3 = .ok (.iconst 0, 1) := by decide +kernel
theorem dX3_fitting_4 : decode cX3_fitting 4 = .ok (.istore 6, 2) := by decide +kernel
theorem dX3_fitting_6 : decode cX3_fitting 6 = .ok (.iload 6, 2) := by decide +kernel
theorem dX3_fitting_8 : decode cX3_fitting 8 = .ok (.aload_n 0, 1) := by decide +kernel
theorem dX3_fitting_9 : decode cX3_fitting 9 = .ok (.getfield 21, 3) := by decide +kernel
theorem dX3_fitting_12 : decode cX3_fitting 12 = .ok (.if_icmp .ge 72, 3) := by decide +kernel
theorem dX3_fitting_15 : decode cX3_fitting 15 = .ok (.iload 6, 2) := by decide +kernel
theorem dX3_fitting_17 : decode cX3_fitting 17 = .ok (.bipush 6, 2) := by decide +kernel
theorem dX3_fitting_19 : decode cX3_fitting 19 = .ok (.if_icmp .ge 65, 3) := by decide +kernel
theorem dX3_fitting_22 : decode cX3_fitting 22 = .ok (.aload_n 1, 1) := by decide +kernel
theorem dX3_fitting_23 : decode cX3_fitting 23 = .ok (.aload_n 0, 1) := by decide +kernel
theorem dX3_fitting_24 : decode cX3_fitting 24 = .ok (.getfield 11, 3) := by decide +kernel
theorem dX3_fitting_27 : decode cX3_fitting 27 = .ok (.iload 6, 2) := by decide +kernel
theorem dX3_fitting_29 : decode cX3_fitting 29 = .ok (.iaload, 1) := by decide +kernel
theorem dX3_fitting_30 : decode cX3_fitting 30 = .ok (.invokevirtual 42, 3) := by decide +kernel
theorem dX3_fitting_33 : decode cX3_fitting 33 = .ok (.iload_n 2, 1) := by decide +kernel
theorem dX3_fitting_34 : decode cX3_fitting 34 = .ok (.isub, 1) := by decide +kernel
theorem dX3_fitting_35 : decode cX3_fitting 35 = .ok (.invokestatic 47, 3) := by decide +kernel
theorem dX3_fitting_38 : decode cX3_fitting 38 = .ok (.istore 7, 2) := by decide +kernel
theorem dX3_fitting_40 : decode cX3_fitting 40 = .ok (.iload 7, 2) := by decide +kernel
theorem dX3_fitting_42 : decode cX3_fitting 42 = .ok (.iload_n 3, 1) := by decide +kernel
theorem dX3_fitting_43 : decode cX3_fitting 43 = .ok (.if_icmp .gt 35, 3) := by decide +kernel
theorem dX3_fitting_46 : decode cX3_fitting 46 = .ok (.iload 4, 2) := by decide +kernel
theorem dX3_fitting_48 : decode cX3_fitting 48 = .ok (.bipush 8, 2) := by decide +kernel
theorem dX3_fitting_50 : decode cX3_fitting 50 = .ok (.if_icmp .eq 19, 3) := by decide +kernel
theorem dX3_fitting_53 : decode cX3_fitting 53 = .ok (.iload 4, 2) := by decide +kernel
theorem dX3_fitting_55 : decode cX3_fitting 55 = .ok (.aload_n 1, 1) := by decide +kernel
theorem dX3_fitting_56 : decode cX3_fitting 56 = .ok (.aload_n 0, 1) := by decide +kernel
theorem dX3_fitting_57 : decode cX3_fitting 57 = .ok (.getfield 11, 3) := by decide +kernel
theorem dX3_fitting_60 : decode cX3_fitting 60 = .ok (.iload 6, 2) := by decide +kernel
theorem dX3_fitting_62 : decode cX3_fitting 62 = .ok (.iaload, 1) := by decide +kernel
theorem dX3_fitting_63 : decode cX3_fitting 63 = .ok (.invokevirtual 52, 3) := by decide +kernel
theorem dX3_fitting_66 : decode cX3_fitting 66 = .ok (.if_icmp .ne 12, 3) := by decide +kernel
theorem dX3_fitting_69 : decode cX3_fitting 69 = .ok (.iload 5, 2) := by decide +kernel
theorem dX3_fitting_71 : decode cX3_fitting 71 = .ok (.iconst 1, 1) := by decide +kernel
theorem dX3_fitting_72 : decode cX3_fitting 72 = .ok (.iload 6, 2) := by decide +kernel
theorem dX3_fitting_74 : decode cX3_fitting 74 = .ok (.ishl, 1) := by decide +kernel
theorem dX3_fitting_75 : decode cX3_fitting 75 = .ok (.ior, 1) := by decide +kernel
theorem dX3_fitting_76 : decode cX3_fitting 76 = .ok (.istore 5, 2) := by decide +kernel
theorem dX3_fitting_78 : decode cX3_fitting 78 = .ok (.iinc 6 1, 3) := by decide +kernel
theorem dX3_fitting_81 : decode cX3_fitting 81 = .ok (.goto (-75), 3) := by decide +kernel
theorem dX3_fitting_84 : decode cX3_fitting 84 = .ok (.iload 5, 2) := by decide +kernel
theorem dX3_fitting_86 : decode cX3_fitting 86 = .ok (.ireturn, 1) := by decide +kernel
noncomputable def f3_fitting_j84 (v5_j84 : Int32) (s3_j84 : OS) (s4_j84 : OS) : Option (Int32) := some v5_j84
noncomputable def f3_fitting_j78 (v2_j78 : Int32) (v3_j78 : Int32) (v4_j78 : Int32) (v5_j78 : Int32) (v6_j78 : Int32) (s3_j78 : OS) (s4_j78 : OS) : Option ((Int32 × Int32) ⊕ (Int32)) := nm (v6_j78 + (1 : Int32)) fun n_78 => some (Sum.inl (v5_j78, n_78))
noncomputable def f3_fitting_j69 (v2_j69 : Int32) (v3_j69 : Int32) (v4_j69 : Int32) (v5_j69 : Int32) (v6_j69 : Int32) (s3_j69 : OS) (s4_j69 : OS) : Option ((Int32 × Int32) ⊕ (Int32)) := nm ((v5_j69 ||| ((1 : Int32) <<< (v6_j69 &&& 31)))) fun n_76 => f3_fitting_j78 v2_j69 v3_j69 v4_j69 n_76 v6_j69 s3_j69 s4_j69
noncomputable def f3_fitting_l6 (v2_i6 : Int32) (v3_i6 : Int32) (v4_i6 : Int32) (s3_i6 : OS) (s4_i6 : OS) : Int32 × Int32 → Option ((Int32 × Int32) ⊕ (Int32)) := fun t_6 => if (s3_i6.1 0 3) ≤ t_6.2 then (Option.map Sum.inr (f3_fitting_j84 t_6.1 s3_i6 s4_i6)) else (if (6 : Int32) ≤ t_6.2 then (Option.map Sum.inr (f3_fitting_j84 t_6.1 s3_i6 s4_i6)) else (chk (inb t_6.2 6) (nm (s3_i6.1 1 t_6.2.toNatClampNeg) fun y_29 => Option.bind (f4_weightOf y_29 s4_i6) fun q_30 => nm ((if 0 ≤ (q_30 - v2_i6) then (q_30 - v2_i6) else 0 - (q_30 - v2_i6))) fun n_38 => if v3_i6 < n_38 then (f3_fitting_j78 v2_i6 v3_i6 v4_i6 t_6.1 t_6.2 s3_i6 s4_i6) else (if v4_i6 = (8 : Int32) then (f3_fitting_j69 v2_i6 v3_i6 v4_i6 t_6.1 t_6.2 s3_i6 s4_i6) else (chk (inb t_6.2 6) (nm (s3_i6.1 1 t_6.2.toNatClampNeg) fun y_62 => Option.bind (f4_kindOf y_62 s4_i6) fun q_63 => if v4_i6 = q_63 then (f3_fitting_j69 v2_i6 v3_i6 v4_i6 t_6.1 t_6.2 s3_i6 s4_i6) else (f3_fitting_j78 v2_i6 v3_i6 v4_i6 t_6.1 t_6.2 s3_i6 s4_i6)))))))
noncomputable def f3_fitting (a2 : Int32) (a3 : Int32) (a4 : Int32) (s3 : OS) (s4 : OS) : Option (Int32) := loop (f3_fitting_l6 a2 a3 a4 s3 s4) ((0 : Int32), (0 : Int32))
set_option maxHeartbeats 4000000 in
set_option maxRecDepth 100000 in
theorem m3_fitting (l : Launch) (D : va_G) (ad : Nat → Nat) (cy : Nat → ClassId) (sz : Nat) (s0 s1 s2 s3 s4 s5 s6 s7 s8 s9 s10 : OS) (a2 : Int32) (a3 : Int32) (a4 : Int32) (r : Int32) (h : f3_fitting a2 a3 a4 s3 s4 = some r) : Met l yX3_fitting (wsOf yX3_fitting cX3_fitting 8 (some .int)) (rmL 2) (va_Pc ([.ref (ad 3), .ref (ad 4), .int a2, .int a3, .int a4] : List Value) (PreG D cy (cellsC ad cy s0 s1 s2 s3 s4 s5 s6 s7 s8 s9 s10) sz (NC ad))) (QcI D ad 67 (cellsC ad cy s0 s1 s2 s3 s4 s5 s6 s7 s8 s9 s10) (r) sz) 0 0 (Afr ad 67 sz) := by
  refine metG (own := RX3) (by decide) rfl (Nat.le_of_ble_eq_true rfl) fstC ?_ sz
  intro p e s m below meth c ls C0 hw hl
  obtain ⟨hx, hb, hml, hown, hts, hr, hlk, hK, hN⟩ := C0
  have hl : lv_has ls 8 [(0, .ref (ad 3)), (1, .ref (ad 4)), (2, .int a2), (3, .int a3), (4, .int a4)] := hl
  generalize hQ : MQ below (QcI D ad 67 (cellsC ad cy s0 s1 s2 s3 s4 s5 s6 s7 s8 s9 s10) (r) s.heap.size) ([.ref (ad 3), .ref (ad 4), .int a2, .int a3, .int a4] : List Value).toArray s 0 0 (Afr ad 67 s.heap.size) = Q
  obtain ⟨H, hH⟩ : ∃ H : Heap, H = s.heap := ⟨_, rfl⟩
  obtain ⟨locs, hlc⟩ : ∃ L : List Loc, L = [] := ⟨_, rfl⟩
  have hw : Wd D (cellsC ad cy s0 s1 s2 s3 s4 s5 s6 s7 s8 s9 s10) (Afr ad 67 s.heap.size) s.heap H locs := by rw [hH, hlc]; exact hw
  suffices h0 : W p l e (rmL 2) s m ([.ref (ad 3), .ref (ad 4), .int a2, .int a3, .int a4] : List Value).toArray below meth c H locs 0 0 Q (F0 m 0 ls []) by rw [hH, hlc] at h0; exact h0
  clear hH hlc
  unfold f3_fitting at h
  have hJ_84 : ∀ (v5_j84 : Int32) (H : Heap) (locs : List Loc) (ls : Array Slot), f3_fitting_j84 v5_j84 s3 s4 = some r → Wd D (cellsC ad cy s0 s1 s2 s3 s4 s5 s6 s7 s8 s9 s10) (Afr ad 67 s.heap.size) s.heap H locs → lv_has ls 8 [(5, .int v5_j84)] → W p l e (rmL 2) s m ([.ref (ad 3), .ref (ad 4), .int a2, .int a3, .int a4] : List Value).toArray below meth c H locs 0 0 Q (F0 m 84 ls []) := by
    intro v5_j84 H locs ls h hw hl
    unfold f3_fitting_j84 at h
    refine lv_iload hx hb dX3_fitting_84 (lv_at hl 0 rfl) ?_
    have h := Option.some.inj h
    subst h
    rw [← hQ]
    exact retI hx hb hr hlk hw rfl dX3_fitting_86
  refine lv_iconst (v := 0) hx hb dX3_fitting_0 (by decide) ?_
  refine lv_istore (lv' := [(5, .int ((0 : Int32))), (0, .ref (ad 3)), (1, .ref (ad 4)), (2, .int a2), (3, .int a3), (4, .int a4)]) hx hb dX3_fitting_1 hl (by decide) rfl (fun ls hl => ?_)
  refine lv_iconst (v := 0) hx hb dX3_fitting_3 (by decide) ?_
  refine lv_istore (lv' := [(6, .int ((0 : Int32))), (5, .int ((0 : Int32))), (0, .ref (ad 3)), (1, .ref (ad 4)), (2, .int a2), (3, .int a3), (4, .int a4)]) hx hb dX3_fitting_4 hl (by decide) rfl (fun ls hl => ?_)
  obtain ⟨n_6, hn_6⟩ := loop_e h
  have hL_6 : ∀ (n : Nat) (t_6 : Int32 × Int32) (H : Heap) (locs : List Loc) (ls : Array Slot), loopN (f3_fitting_l6 a2 a3 a4 s3 s4) n t_6 = some r → Wd D (cellsC ad cy s0 s1 s2 s3 s4 s5 s6 s7 s8 s9 s10) (Afr ad 67 s.heap.size) s.heap H locs → lv_has ls 8 [(5, .int t_6.1), (6, .int t_6.2), (2, .int a2), (3, .int a3), (4, .int a4), (0, .ref (ad 3)), (1, .ref (ad 4))] → W p l e (rmL 2) s m ([.ref (ad 3), .ref (ad 4), .int a2, .int a3, .int a4] : List Value).toArray below meth c H locs 0 0 Q (F0 m 6 ls []) := by
    intro n
    induction n with
    | zero => intro t_6 H locs ls hn; cases hn
    | succ n ih_6 =>
      intro t_6 H locs ls hn hw hl
      obtain ⟨x_6, h, hx_6⟩ := loopN_e hn
      unfold f3_fitting_l6 at h
      have hJ_78 : ∀ (v5_j78 : Int32) (v6_j78 : Int32) (H : Heap) (locs : List Loc) (ls : Array Slot), f3_fitting_j78 a2 a3 a4 v5_j78 v6_j78 s3 s4 = some x_6 → Wd D (cellsC ad cy s0 s1 s2 s3 s4 s5 s6 s7 s8 s9 s10) (Afr ad 67 s.heap.size) s.heap H locs → lv_has ls 8 [(0, .ref (ad 3)), (1, .ref (ad 4)), (2, .int a2), (3, .int a3), (4, .int a4), (5, .int v5_j78), (6, .int v6_j78)] → W p l e (rmL 2) s m ([.ref (ad 3), .ref (ad 4), .int a2, .int a3, .int a4] : List Value).toArray below meth c H locs 0 0 Q (F0 m 78 ls []) := by
        intro v5_j78 v6_j78 H locs ls h hw hl
        unfold f3_fitting_j78 at h
        obtain ⟨n_78, e_78, h⟩ := nam_e h
        refine lv_iinc (v := n_78) (lv' := [(6, .int n_78), (0, .ref (ad 3)), (1, .ref (ad 4)), (2, .int a2), (3, .int a3), (4, .int a4), (5, .int v5_j78)]) hx hb dX3_fitting_78 hl (k := 6) rfl (by rw [e_78]; rfl) (by decide) rfl (fun ls hl => ?_)
        refine lv_goto (tgt := 6) hx hb dX3_fitting_81 (by decide) ?_
        exact ih_6 (v5_j78, n_78) H locs ls (nx_l hx_6 h) hw (lv_sub hl [6, 0, 3, 4, 5, 1, 2] rfl)
      have hJ_69 : ∀ (v5_j69 : Int32) (v6_j69 : Int32) (H : Heap) (locs : List Loc) (ls : Array Slot), f3_fitting_j69 a2 a3 a4 v5_j69 v6_j69 s3 s4 = some x_6 → Wd D (cellsC ad cy s0 s1 s2 s3 s4 s5 s6 s7 s8 s9 s10) (Afr ad 67 s.heap.size) s.heap H locs → lv_has ls 8 [(0, .ref (ad 3)), (1, .ref (ad 4)), (2, .int a2), (3, .int a3), (4, .int a4), (5, .int v5_j69), (6, .int v6_j69)] → W p l e (rmL 2) s m ([.ref (ad 3), .ref (ad 4), .int a2, .int a3, .int a4] : List Value).toArray below meth c H locs 0 0 Q (F0 m 69 ls []) := by
        intro v5_j69 v6_j69 H locs ls h hw hl
        unfold f3_fitting_j69 at h
        refine lv_iload hx hb dX3_fitting_69 (lv_at hl 5 rfl) ?_
        refine lv_iconst (v := 1) hx hb dX3_fitting_71 (by decide) ?_
        refine lv_iload hx hb dX3_fitting_72 (lv_at hl 6 rfl) ?_
        refine lv_ishl hx hb dX3_fitting_74 ?_
        refine lv_ior hx hb dX3_fitting_75 ?_
        obtain ⟨n_76, e_76, h⟩ := nam_e h
        refine topI e_76 ?_
        refine lv_istore (lv' := [(5, .int n_76), (0, .ref (ad 3)), (1, .ref (ad 4)), (2, .int a2), (3, .int a3), (4, .int a4), (6, .int v6_j69)]) hx hb dX3_fitting_76 hl (by decide) rfl (fun ls hl => ?_)
        exact hJ_78 n_76 v6_j69 H locs ls h hw (lv_sub hl [1, 2, 3, 4, 5, 0, 6] rfl)
      refine lv_iload hx hb dX3_fitting_6 (lv_at hl 1 rfl) ?_
      refine lv_aload_n hx hb dX3_fitting_8 rfl (lv_at hl 5 rfl) ?_
      refine gX3_21 hx hb hts hown hK hw dX3_fitting_9 ?_
      refine lv_icmp_ge (tgt := 84) hx hb dX3_fitting_12 (by decide) (fun c_12 => ?_) (fun c_12 => ?_)
      · have h := ite_t c_12 h
        have h := nx_m hx_6 h
        exact hJ_84 t_6.1 H locs ls h hw (lv_sub hl [0] rfl)
      · have h := ite_f c_12 h
        refine lv_iload hx hb dX3_fitting_15 (lv_at hl 1 rfl) ?_
        refine lv_bipush (v := 6) hx hb dX3_fitting_17 (by decide) ?_
        refine lv_icmp_ge (tgt := 84) hx hb dX3_fitting_19 (by decide) (fun c_19 => ?_) (fun c_19 => ?_)
        · have h := ite_t c_19 h
          have h := nx_m hx_6 h
          exact hJ_84 t_6.1 H locs ls h hw (lv_sub hl [0] rfl)
        · have h := ite_f c_19 h
          refine lv_aload_n hx hb dX3_fitting_22 rfl (lv_at hl 6 rfl) ?_
          refine lv_aload_n hx hb dX3_fitting_23 rfl (lv_at hl 5 rfl) ?_
          refine gX3_11 hx hb hts hown hK hw dX3_fitting_24 ?_
          refine lv_iload hx hb dX3_fitting_27 (lv_at hl 1 rfl) ?_
          obtain ⟨hi_29, h⟩ := chk_e h
          obtain ⟨y_29, e_29, h⟩ := nam_e h
          refine lC33 hx hb hK hw hi_29 e_29 dX3_fitting_29 ?_
          obtain ⟨q_30, h_30, h⟩ := bnd_e h
          have pg_30 := preG (av := [.ref (ad 4), .int y_29]) hK hw.1 hw.2.1 (NC_keep hN hw.2.2) NC_blind
          refine endI (mc := 0) (ms := 0) (va_runV (As := [.int y_29]) (rest := []) ⟨hx, hb, hml, hown, hts⟩ (m4_weightOf l D ad cy H.size s0 s1 s2 s3 s4 s5 s6 s7 s8 s9 s10 y_29 q_30 h_30) (wX3_42 1 hts ⟨Nat.le_of_ble_eq_true rfl, Nat.le_of_ble_eq_true rfl⟩) ⟨pg_30.1, va_recv hK hw.1 (ci := 4) (q0 := 4) rfl eC_4, pg_30.2⟩ rfl rfl hl.1 rfl (lv_room (Nat.le_of_ble_eq_true rfl)) dX3_fitting_30 ⟨Nat.le_refl _, Nat.le_refl _⟩) hw.2.2 (afr_in hw.2.2) (fun H locs hw => ?_)
          refine lv_iload_n hx hb dX3_fitting_33 rfl (lv_at hl 2 rfl) ?_
          refine lv_isub hx hb dX3_fitting_34 ?_
          refine va_mabs hx hb (hml.trans hl.1.symm) hown (hts _ (wd_5 (w := .methodLink RX3 47 Lib.Math.abs.name) (i := 5) (by decide +kernel) rfl)) (hts _ (wd_5 (w := .static Lib.Math.abs.name) (i := 6) (by decide +kernel) rfl)) (hts _ (wd_1 (w := .initialized "java/lang/Math") (i := 15) (by decide +kernel) rfl)) (hts _ (wd_5 (w := .code Lib.Math.abs.name Lib.Math.abs.code 1 (some .int)) (i := 7) (by decide +kernel) rfl)) (Nat.le_of_ble_eq_true rfl) (Nat.le_of_ble_eq_true rfl) (Nat.zero_le _) (Nat.zero_le _) dX3_fitting_35 ?_
          obtain ⟨n_38, e_38, h⟩ := nam_e h
          refine topI e_38 ?_
          refine lv_istore (lv' := [(7, .int n_38), (5, .int t_6.1), (6, .int t_6.2), (2, .int a2), (3, .int a3), (4, .int a4), (0, .ref (ad 3)), (1, .ref (ad 4))]) hx hb dX3_fitting_38 hl (by decide) rfl (fun ls hl => ?_)
          refine lv_iload hx hb dX3_fitting_40 (lv_at hl 0 rfl) ?_
          refine lv_iload_n hx hb dX3_fitting_42 rfl (lv_at hl 4 rfl) ?_
          refine lv_icmp_gt (tgt := 78) hx hb dX3_fitting_43 (by decide) (fun c_43 => ?_) (fun c_43 => ?_)
          · have h := ite_t c_43 h
            exact hJ_78 t_6.1 t_6.2 H locs ls h hw (lv_sub hl [6, 7, 3, 4, 5, 1, 2] rfl)
          · have h := ite_f c_43 h
            refine lv_iload hx hb dX3_fitting_46 (lv_at hl 5 rfl) ?_
            refine lv_bipush (v := 8) hx hb dX3_fitting_48 (by decide) ?_
            refine lv_icmp_eq (tgt := 69) hx hb dX3_fitting_50 (by decide) (fun c_50 => ?_) (fun c_50 => ?_)
            · have h := ite_t c_50 h
              exact hJ_69 t_6.1 t_6.2 H locs ls h hw (lv_sub hl [6, 7, 3, 4, 5, 1, 2] rfl)
            · have h := ite_f c_50 h
              refine lv_iload hx hb dX3_fitting_53 (lv_at hl 5 rfl) ?_
              refine lv_aload_n hx hb dX3_fitting_55 rfl (lv_at hl 7 rfl) ?_
              refine lv_aload_n hx hb dX3_fitting_56 rfl (lv_at hl 6 rfl) ?_
              refine gX3_11 hx hb hts hown hK hw dX3_fitting_57 ?_
              refine lv_iload hx hb dX3_fitting_60 (lv_at hl 2 rfl) ?_
              obtain ⟨hi_62, h⟩ := chk_e h
              obtain ⟨y_62, e_62, h⟩ := nam_e h
              refine lC33 hx hb hK hw hi_62 e_62 dX3_fitting_62 ?_
              obtain ⟨q_63, h_63, h⟩ := bnd_e h
              have pg_63 := preG (av := [.ref (ad 4), .int y_62]) hK hw.1 hw.2.1 (NC_keep hN hw.2.2) NC_blind
              refine endI (mc := 0) (ms := 0) (va_runV (As := [.int y_62]) (rest := [.int a4]) ⟨hx, hb, hml, hown, hts⟩ (m4_kindOf l D ad cy H.size s0 s1 s2 s3 s4 s5 s6 s7 s8 s9 s10 y_62 q_63 h_63) (wX3_52 1 hts ⟨Nat.le_of_ble_eq_true rfl, Nat.le_of_ble_eq_true rfl⟩) ⟨pg_63.1, va_recv hK hw.1 (ci := 4) (q0 := 4) rfl eC_4, pg_63.2⟩ rfl rfl hl.1 rfl (lv_room (Nat.le_of_ble_eq_true rfl)) dX3_fitting_63 ⟨Nat.le_refl _, Nat.le_refl _⟩) hw.2.2 (afr_in hw.2.2) (fun H locs hw => ?_)
              refine lv_icmp_ne (tgt := 78) hx hb dX3_fitting_66 (by decide) (fun c_66 => ?_) (fun c_66 => ?_)
              · have h := ite_f c_66 h
                exact hJ_78 t_6.1 t_6.2 H locs ls h hw (lv_sub hl [6, 7, 3, 4, 5, 1, 2] rfl)
              · have h := ite_t c_66 h
                exact hJ_69 t_6.1 t_6.2 H locs ls h hw (lv_sub hl [6, 7, 3, 4, 5, 1, 2] rfl)
  exact hL_6 n_6 ((0 : Int32), (0 : Int32)) H locs ls hn_6 hw (lv_sub hl [1, 0, 4, 5, 6, 2, 3] rfl)
theorem dX3_sortMixed_0 : decode cX3_sortMixed 0 = .ok (.iconst 1, 1) := by decide +kernel
theorem dX3_sortMixed_1 : decode cX3_sortMixed 1 = .ok (.istore_n 1, 1) := by decide +kernel
theorem dX3_sortMixed_2 : decode cX3_sortMixed 2 = .ok (.iload_n 1, 1) := by decide +kernel
theorem dX3_sortMixed_3 : decode cX3_sortMixed 3 = .ok (.aload_n 0, 1) := by decide +kernel
theorem dX3_sortMixed_4 : decode cX3_sortMixed 4 = .ok (.getfield 21, 3) := by decide +kernel
theorem dX3_sortMixed_7 : decode cX3_sortMixed 7 = .ok (.if_icmp .ge 74, 3) := by decide +kernel
theorem dX3_sortMixed_10 : decode cX3_sortMixed 10 = .ok (.iload_n 1, 1) := by decide +kernel
theorem dX3_sortMixed_11 : decode cX3_sortMixed 11 = .ok (.bipush 6, 2) := by decide +kernel
theorem dX3_sortMixed_13 : decode cX3_sortMixed 13 = .ok (.if_icmp .ge 68, 3) := by decide +kernel
theorem dX3_sortMixed_16 : decode cX3_sortMixed 16 = .ok (.iload_n 1, 1) := by decide +kernel
theorem dX3_sortMixed_17 : decode cX3_sortMixed 17 = .ok (.istore_n 2, 1) := by decide +kernel
theorem dX3_sortMixed_18 : decode cX3_sortMixed 18 = .ok (.iload_n 2, 1) := by decide +kernel
theorem dX3_sortMixed_19 : decode cX3_sortMixed 19 = .ok (.ifCond .le 56, 3) := by decide +kernel
theorem dX3_sortMixed_22 : decode cX3_sortMixed 22 = .ok (.aload_n 0, 1) := by decide +kernel
theorem dX3_sortMixed_23 : decode cX3_sortMixed 23 = .ok (.getfield 11, 3) := by decide +kernel
theorem dX3_sortMixed_26 : decode cX3_sortMixed 26 = .ok (.iload_n 2, 1) := by decide +kernel
theorem dX3_sortMixed_27 : decode cX3_sortMixed 27 = .ok (.iconst 1, 1) := by decide +kernel
theorem dX3_sortMixed_28 : decode cX3_sortMixed 28 = .ok (.isub, 1) := by decide +kernel
theorem dX3_sortMixed_29 : decode cX3_sortMixed 29 = .ok (.iaload, 1) := by decide +kernel
theorem dX3_sortMixed_30 : decode cX3_sortMixed 30 = .ok (.aload_n 0, 1) := by decide +kernel
theorem dX3_sortMixed_31 : decode cX3_sortMixed 31 = .ok (.getfield 11, 3) := by decide +kernel
theorem dX3_sortMixed_34 : decode cX3_sortMixed 34 = .ok (.iload_n 2, 1) := by decide +kernel
theorem dX3_sortMixed_35 : decode cX3_sortMixed 35 = .ok (.iaload, 1) := by decide +kernel
theorem dX3_sortMixed_36 : decode cX3_sortMixed 36 = .ok (.if_icmp .le 39, 3) := by decide +kernel
theorem dX3_sortMixed_39 : decode cX3_sortMixed 39 = .ok (.aload_n 0, 1) := by decide +kernel
theorem dX3_sortMixed_40 : decode cX3_sortMixed 40 = .ok (.getfield 11, 3) := by decide +kernel
theorem dX3_sortMixed_43 : decode cX3_sortMixed 43 = .ok (.iload_n 2, 1) := by decide +kernel
theorem dX3_sortMixed_44 : decode cX3_sortMixed 44 = .ok (.iaload, 1) := by decide +kernel
theorem dX3_sortMixed_45 : decode cX3_sortMixed 45 = .ok (.istore_n 3, 1) := by decide +kernel
theorem dX3_sortMixed_46 : decode cX3_sortMixed 46 = .ok (.aload_n 0, 1) := by decide +kernel
theorem dX3_sortMixed_47 : decode cX3_sortMixed 47 = .ok (.getfield 11, 3) := by decide +kernel
theorem dX3_sortMixed_50 : decode cX3_sortMixed 50 = .ok (.iload_n 2, 1) := by decide +kernel
theorem dX3_sortMixed_51 : decode cX3_sortMixed 51 = .ok (.aload_n 0, 1) := by decide +kernel
theorem dX3_sortMixed_52 : decode cX3_sortMixed 52 = .ok (.getfield 11, 3) := by decide +kernel
theorem dX3_sortMixed_55 : decode cX3_sortMixed 55 = .ok (.iload_n 2, 1) := by decide +kernel
theorem dX3_sortMixed_56 : decode cX3_sortMixed 56 = .ok (.iconst 1, 1) := by decide +kernel
theorem dX3_sortMixed_57 : decode cX3_sortMixed 57 = .ok (.isub, 1) := by decide +kernel
theorem dX3_sortMixed_58 : decode cX3_sortMixed 58 = .ok (.iaload, 1) := by decide +kernel
theorem dX3_sortMixed_59 : decode cX3_sortMixed 59 = .ok (.iastore, 1) := by decide +kernel
theorem dX3_sortMixed_60 : decode cX3_sortMixed 60 = .ok (.aload_n 0, 1) := by decide +kernel
theorem dX3_sortMixed_61 : decode cX3_sortMixed 61 = .ok (.getfield 11, 3) := by decide +kernel
theorem dX3_sortMixed_64 : decode cX3_sortMixed 64 = .ok (.iload_n 2, 1) := by decide +kernel
theorem dX3_sortMixed_65 : decode cX3_sortMixed 65 = .ok (.iconst 1, 1) := by decide +kernel
theorem dX3_sortMixed_66 : decode cX3_sortMixed 66 = .ok (.isub, 1) := by decide +kernel
theorem dX3_sortMixed_67 : decode cX3_sortMixed 67 = .ok (.iload_n 3, 1) := by decide +kernel
theorem dX3_sortMixed_68 : decode cX3_sortMixed 68 = .ok (.iastore, 1) := by decide +kernel
theorem dX3_sortMixed_69 : decode cX3_sortMixed 69 = .ok (.iinc 2 (-1), 3) := by decide +kernel
theorem dX3_sortMixed_72 : decode cX3_sortMixed 72 = .ok (.goto (-54), 3) := by decide +kernel
theorem dX3_sortMixed_75 : decode cX3_sortMixed 75 = .ok (.iinc 1 1, 3) := by decide +kernel
theorem dX3_sortMixed_78 : decode cX3_sortMixed 78 = .ok (.goto (-76), 3) := by decide +kernel
theorem dX3_sortMixed_81 : decode cX3_sortMixed 81 = .ok (.return_, 1) := by decide +kernel
noncomputable def f3_sortMixed_j81 (s3_j81 : OS) : Option (OS) := some s3_j81
noncomputable def f3_sortMixed_j75 (v1_j75 : Int32) (s3_j75 : OS) : Option ((Int32 × OS) ⊕ (OS)) := nm (v1_j75 + (1 : Int32)) fun n_75 => some (Sum.inl (n_75, s3_j75))
noncomputable def f3_sortMixed_l18 (v1_i18 : Int32) : Int32 × OS → Option ((Int32 × OS) ⊕ ((Int32 × OS) ⊕ (OS))) := fun t_18 => if t_18.1 ≤ 0 then (Option.map Sum.inr (f3_sortMixed_j75 v1_i18 t_18.2)) else (chk (inb ((t_18.1 - (1 : Int32))) 6) (nm (t_18.2.1 1 ((t_18.1 - (1 : Int32))).toNatClampNeg) fun y_29 => chk (inb t_18.1 6) (nm (t_18.2.1 1 t_18.1.toNatClampNeg) fun y_35 => if y_29 ≤ y_35 then (Option.map Sum.inr (f3_sortMixed_j75 v1_i18 t_18.2)) else (chk (inb t_18.1 6) (nm (t_18.2.1 1 t_18.1.toNatClampNeg) fun y_44 => chk (inb ((t_18.1 - (1 : Int32))) 6) (nm (t_18.2.1 1 ((t_18.1 - (1 : Int32))).toNatClampNeg) fun y_58 => chk (inb t_18.1 6) (nm (wI t_18.2 1 t_18.1.toNatClampNeg y_58) fun s3_59 => chk (inb ((t_18.1 - (1 : Int32))) 6) (nm (wI s3_59 1 ((t_18.1 - (1 : Int32))).toNatClampNeg y_44) fun s3_68 => nm (t_18.1 + (-1 : Int32)) fun n_69 => some (Sum.inl (n_69, s3_68))))))))))
noncomputable def f3_sortMixed_l2  : Int32 × OS → Option ((Int32 × OS) ⊕ (OS)) := fun t_2 => if (t_2.2.1 0 3) ≤ t_2.1 then (Option.map Sum.inr (f3_sortMixed_j81 t_2.2)) else (if (6 : Int32) ≤ t_2.1 then (Option.map Sum.inr (f3_sortMixed_j81 t_2.2)) else (loop (f3_sortMixed_l18 t_2.1) (t_2.1, t_2.2)))
noncomputable def f3_sortMixed (s3 : OS) : Option (OS) := loop (f3_sortMixed_l2) ((1 : Int32), s3)
set_option maxHeartbeats 4000000 in
set_option maxRecDepth 100000 in
theorem m3_sortMixed (l : Launch) (D : va_G) (ad : Nat → Nat) (cy : Nat → ClassId) (sz : Nat) (s0 s1 s2 s3 s4 s5 s6 s7 s8 s9 s10 : OS) (r : OS) (h : f3_sortMixed s3 = some r) : Met l yX3_sortMixed (wsOf yX3_sortMixed cX3_sortMixed 4 none) (rmL 0) (va_Pc ([.ref (ad 3)] : List Value) (PreG D cy (cellsC ad cy s0 s1 s2 s3 s4 s5 s6 s7 s8 s9 s10) sz (NC ad))) (QcV D ad 67 (cellsC ad cy s0 s1 s2 r s4 s5 s6 s7 s8 s9 s10) sz) 0 0 (Afr ad 67 sz) := by
  refine metG (own := RX3) (by decide) rfl (Nat.le_of_ble_eq_true rfl) fstC ?_ sz
  intro p e s m below meth c ls C0 hw hl
  obtain ⟨hx, hb, hml, hown, hts, hr, hlk, hK, hN⟩ := C0
  have hl : lv_has ls 4 [(0, .ref (ad 3))] := hl
  generalize hQ : MQ below (QcV D ad 67 (cellsC ad cy s0 s1 s2 r s4 s5 s6 s7 s8 s9 s10) s.heap.size) ([.ref (ad 3)] : List Value).toArray s 0 0 (Afr ad 67 s.heap.size) = Q
  obtain ⟨H, hH⟩ : ∃ H : Heap, H = s.heap := ⟨_, rfl⟩
  obtain ⟨locs, hlc⟩ : ∃ L : List Loc, L = [] := ⟨_, rfl⟩
  have hw : Wd D (cellsC ad cy s0 s1 s2 s3 s4 s5 s6 s7 s8 s9 s10) (Afr ad 67 s.heap.size) s.heap H locs := by rw [hH, hlc]; exact hw
  suffices h0 : W p l e (rmL 0) s m ([.ref (ad 3)] : List Value).toArray below meth c H locs 0 0 Q (F0 m 0 ls []) by rw [hH, hlc] at h0; exact h0
  clear hH hlc
  unfold f3_sortMixed at h
  have hJ_81 : ∀ (s3_j81 : OS) (H : Heap) (locs : List Loc) (ls : Array Slot), f3_sortMixed_j81 s3_j81 = some r → Wd D (cellsC ad cy s0 s1 s2 s3_j81 s4 s5 s6 s7 s8 s9 s10) (Afr ad 67 s.heap.size) s.heap H locs → lv_has ls 4 [] → W p l e (rmL 0) s m ([.ref (ad 3)] : List Value).toArray below meth c H locs 0 0 Q (F0 m 81 ls []) := by
    intro s3_j81 H locs ls h hw hl
    unfold f3_sortMixed_j81 at h
    have h := Option.some.inj h
    subst h
    rw [← hQ]
    exact retV hx hb hr hlk hw dX3_sortMixed_81
  refine lv_iconst (v := 1) hx hb dX3_sortMixed_0 (by decide) ?_
  refine lv_istore_n (lv' := [(1, .int ((1 : Int32))), (0, .ref (ad 3))]) hx hb dX3_sortMixed_1 rfl hl (by decide) rfl (fun ls hl => ?_)
  obtain ⟨n_2, hn_2⟩ := loop_e h
  have hL_2 : ∀ (n : Nat) (t_2 : Int32 × OS) (H : Heap) (locs : List Loc) (ls : Array Slot), loopN (f3_sortMixed_l2) n t_2 = some r → Wd D (cellsC ad cy s0 s1 s2 t_2.2 s4 s5 s6 s7 s8 s9 s10) (Afr ad 67 s.heap.size) s.heap H locs → lv_has ls 4 [(1, .int t_2.1), (0, .ref (ad 3))] → W p l e (rmL 0) s m ([.ref (ad 3)] : List Value).toArray below meth c H locs 0 0 Q (F0 m 2 ls []) := by
    intro n
    induction n with
    | zero => intro t_2 H locs ls hn; cases hn
    | succ n ih_2 =>
      intro t_2 H locs ls hn hw hl
      obtain ⟨x_2, h, hx_2⟩ := loopN_e hn
      unfold f3_sortMixed_l2 at h
      have hJ_75 : ∀ (v1_j75 : Int32) (s3_j75 : OS) (H : Heap) (locs : List Loc) (ls : Array Slot), f3_sortMixed_j75 v1_j75 s3_j75 = some x_2 → Wd D (cellsC ad cy s0 s1 s2 s3_j75 s4 s5 s6 s7 s8 s9 s10) (Afr ad 67 s.heap.size) s.heap H locs → lv_has ls 4 [(0, .ref (ad 3)), (1, .int v1_j75)] → W p l e (rmL 0) s m ([.ref (ad 3)] : List Value).toArray below meth c H locs 0 0 Q (F0 m 75 ls []) := by
        intro v1_j75 s3_j75 H locs ls h hw hl
        unfold f3_sortMixed_j75 at h
        obtain ⟨n_75, e_75, h⟩ := nam_e h
        refine lv_iinc (v := n_75) (lv' := [(1, .int n_75), (0, .ref (ad 3))]) hx hb dX3_sortMixed_75 hl (k := 1) rfl (by rw [e_75]; rfl) (by decide) rfl (fun ls hl => ?_)
        refine lv_goto (tgt := 2) hx hb dX3_sortMixed_78 (by decide) ?_
        exact ih_2 (n_75, s3_j75) H locs ls (nx_l hx_2 h) hw (lv_sub hl [0, 1] rfl)
      refine lv_iload_n hx hb dX3_sortMixed_2 rfl (lv_at hl 0 rfl) ?_
      refine lv_aload_n hx hb dX3_sortMixed_3 rfl (lv_at hl 1 rfl) ?_
      refine gX3_21 hx hb hts hown hK hw dX3_sortMixed_4 ?_
      refine lv_icmp_ge (tgt := 81) hx hb dX3_sortMixed_7 (by decide) (fun c_7 => ?_) (fun c_7 => ?_)
      · have h := ite_t c_7 h
        have h := nx_m hx_2 h
        exact hJ_81 t_2.2 H locs ls h hw (lv_sub hl [] rfl)
      · have h := ite_f c_7 h
        refine lv_iload_n hx hb dX3_sortMixed_10 rfl (lv_at hl 0 rfl) ?_
        refine lv_bipush (v := 6) hx hb dX3_sortMixed_11 (by decide) ?_
        refine lv_icmp_ge (tgt := 81) hx hb dX3_sortMixed_13 (by decide) (fun c_13 => ?_) (fun c_13 => ?_)
        · have h := ite_t c_13 h
          have h := nx_m hx_2 h
          exact hJ_81 t_2.2 H locs ls h hw (lv_sub hl [] rfl)
        · have h := ite_f c_13 h
          refine lv_iload_n hx hb dX3_sortMixed_16 rfl (lv_at hl 0 rfl) ?_
          refine lv_istore_n (lv' := [(2, .int t_2.1), (1, .int t_2.1), (0, .ref (ad 3))]) hx hb dX3_sortMixed_17 rfl hl (by decide) rfl (fun ls hl => ?_)
          obtain ⟨n_18, hn_18⟩ := loop_e h
          have hL_18 : ∀ (n : Nat) (t_18 : Int32 × OS) (H : Heap) (locs : List Loc) (ls : Array Slot), loopN (f3_sortMixed_l18 t_2.1) n t_18 = some x_2 → Wd D (cellsC ad cy s0 s1 s2 t_18.2 s4 s5 s6 s7 s8 s9 s10) (Afr ad 67 s.heap.size) s.heap H locs → lv_has ls 4 [(2, .int t_18.1), (1, .int t_2.1), (0, .ref (ad 3))] → W p l e (rmL 0) s m ([.ref (ad 3)] : List Value).toArray below meth c H locs 0 0 Q (F0 m 18 ls []) := by
            intro n
            induction n with
            | zero => intro t_18 H locs ls hn; cases hn
            | succ n ih_18 =>
              intro t_18 H locs ls hn hw hl
              obtain ⟨x_18, h, hx_18⟩ := loopN_e hn
              unfold f3_sortMixed_l18 at h
              refine lv_iload_n hx hb dX3_sortMixed_18 rfl (lv_at hl 0 rfl) ?_
              refine lv_if_le (tgt := 75) hx hb dX3_sortMixed_19 (by decide) (fun c_19 => ?_) (fun c_19 => ?_)
              · have h := ite_t c_19 h
                have h := nx_m hx_18 h
                exact hJ_75 t_2.1 t_18.2 H locs ls h hw (lv_sub hl [2, 1] rfl)
              · have h := ite_f c_19 h
                refine lv_aload_n hx hb dX3_sortMixed_22 rfl (lv_at hl 2 rfl) ?_
                refine gX3_11 hx hb hts hown hK hw dX3_sortMixed_23 ?_
                refine lv_iload_n hx hb dX3_sortMixed_26 rfl (lv_at hl 0 rfl) ?_
                refine lv_iconst (v := 1) hx hb dX3_sortMixed_27 (by decide) ?_
                refine lv_isub hx hb dX3_sortMixed_28 ?_
                obtain ⟨hi_29, h⟩ := chk_e h
                obtain ⟨y_29, e_29, h⟩ := nam_e h
                refine lC33 hx hb hK hw hi_29 e_29 dX3_sortMixed_29 ?_
                refine lv_aload_n hx hb dX3_sortMixed_30 rfl (lv_at hl 2 rfl) ?_
                refine gX3_11 hx hb hts hown hK hw dX3_sortMixed_31 ?_
                refine lv_iload_n hx hb dX3_sortMixed_34 rfl (lv_at hl 0 rfl) ?_
                obtain ⟨hi_35, h⟩ := chk_e h
                obtain ⟨y_35, e_35, h⟩ := nam_e h
                refine lC33 hx hb hK hw hi_35 e_35 dX3_sortMixed_35 ?_
                refine lv_icmp_le (tgt := 75) hx hb dX3_sortMixed_36 (by decide) (fun c_36 => ?_) (fun c_36 => ?_)
                · have h := ite_t c_36 h
                  have h := nx_m hx_18 h
                  exact hJ_75 t_2.1 t_18.2 H locs ls h hw (lv_sub hl [2, 1] rfl)
                · have h := ite_f c_36 h
                  refine lv_aload_n hx hb dX3_sortMixed_39 rfl (lv_at hl 2 rfl) ?_
                  refine gX3_11 hx hb hts hown hK hw dX3_sortMixed_40 ?_
                  refine lv_iload_n hx hb dX3_sortMixed_43 rfl (lv_at hl 0 rfl) ?_
                  obtain ⟨hi_44, h⟩ := chk_e h
                  obtain ⟨y_44, e_44, h⟩ := nam_e h
                  refine lC33 hx hb hK hw hi_44 e_44 dX3_sortMixed_44 ?_
                  refine lv_istore_n (lv' := [(3, .int y_44), (2, .int t_18.1), (1, .int t_2.1), (0, .ref (ad 3))]) hx hb dX3_sortMixed_45 rfl hl (by decide) rfl (fun ls hl => ?_)
                  refine lv_aload_n hx hb dX3_sortMixed_46 rfl (lv_at hl 3 rfl) ?_
                  refine gX3_11 hx hb hts hown hK hw dX3_sortMixed_47 ?_
                  refine lv_iload_n hx hb dX3_sortMixed_50 rfl (lv_at hl 1 rfl) ?_
                  refine lv_aload_n hx hb dX3_sortMixed_51 rfl (lv_at hl 3 rfl) ?_
                  refine gX3_11 hx hb hts hown hK hw dX3_sortMixed_52 ?_
                  refine lv_iload_n hx hb dX3_sortMixed_55 rfl (lv_at hl 1 rfl) ?_
                  refine lv_iconst (v := 1) hx hb dX3_sortMixed_56 (by decide) ?_
                  refine lv_isub hx hb dX3_sortMixed_57 ?_
                  obtain ⟨hi_58, h⟩ := chk_e h
                  obtain ⟨y_58, e_58, h⟩ := nam_e h
                  refine lC33 hx hb hK hw hi_58 e_58 dX3_sortMixed_58 ?_
                  obtain ⟨hi_59, h⟩ := chk_e h
                  obtain ⟨s3_59, e_59, h⟩ := nam_e h
                  refine aC33 hx hb hK hw hi_59 e_59 dX3_sortMixed_59 (fun H locs hw => ?_)
                  refine lv_aload_n hx hb dX3_sortMixed_60 rfl (lv_at hl 3 rfl) ?_
                  refine gX3_11 hx hb hts hown hK hw dX3_sortMixed_61 ?_
                  refine lv_iload_n hx hb dX3_sortMixed_64 rfl (lv_at hl 1 rfl) ?_
                  refine lv_iconst (v := 1) hx hb dX3_sortMixed_65 (by decide) ?_
                  refine lv_isub hx hb dX3_sortMixed_66 ?_
                  refine lv_iload_n hx hb dX3_sortMixed_67 rfl (lv_at hl 0 rfl) ?_
                  obtain ⟨hi_68, h⟩ := chk_e h
                  obtain ⟨s3_68, e_68, h⟩ := nam_e h
                  refine aC33 hx hb hK hw hi_68 e_68 dX3_sortMixed_68 (fun H locs hw => ?_)
                  obtain ⟨n_69, e_69, h⟩ := nam_e h
                  refine lv_iinc (v := n_69) (lv' := [(2, .int n_69), (3, .int y_44), (1, .int t_2.1), (0, .ref (ad 3))]) hx hb dX3_sortMixed_69 hl (k := 1) rfl (by rw [e_69]; rfl) (by decide) rfl (fun ls hl => ?_)
                  refine lv_goto (tgt := 18) hx hb dX3_sortMixed_72 (by decide) ?_
                  exact ih_18 (n_69, s3_68) H locs ls (nx_l hx_18 h) hw (lv_sub hl [0, 2, 3] rfl)
          exact hL_18 n_18 (t_2.1, t_2.2) H locs ls hn_18 hw (lv_sub hl [0, 1, 2] rfl)
  exact hL_2 n_2 ((1 : Int32), s3) H locs ls hn_2 hw (lv_sub hl [0, 1] rfl)
theorem dX3_answer_0 : decode cX3_answer 0 = .ok (.aload_n 1, 1) := by decide +kernel
theorem dX3_answer_1 : decode cX3_answer 1 = .ok (.ifnull 17, 3) := by decide +kernel
theorem dX3_answer_4 : decode cX3_answer 4 = .ok (.aload_n 2, 1) := by decide +kernel
theorem dX3_answer_5 : decode cX3_answer 5 = .ok (.ifnull 13, 3) := by decide +kernel
theorem dX3_answer_8 : decode cX3_answer 8 = .ok (.iload_n 3, 1) := by decide +kernel
theorem dX3_answer_9 : decode cX3_answer 9 = .ok (.ifCond .lt 9, 3) := by decide +kernel
theorem dX3_answer_12 : decode cX3_answer 12 = .ok (.iload_n 3, 1) := by decide +kernel
theorem dX3_answer_13 : decode cX3_answer 13 = .ok (.bipush 6, 2) := by decide +kernel
theorem dX3_answer_15 : decode cX3_answer 15 = .ok (.if_icmp .le 5, 3) := by decide +kernel
theorem dX3_answer_18 : decode cX3_answer 18 = .ok (.iconst (-1), 1) := by decide +kernel
theorem dX3_answer_19 : decode cX3_answer 19 = .ok (.ireturn, 1) := by decide +kernel
theorem dX3_answer_20 : decode cX3_answer 20 = .ok (.aload_n 0, 1) := by decide +kernel
theorem dX3_answer_21 : decode cX3_answer 21 = .ok (.iload_n 3, 1) := by decide +kernel
theorem dX3_answer_22 : decode cX3_answer 22 = .ok (.putfield 21, 3) := by decide +kernel
theorem dX3_answer_25 : decode cX3_answer 25 = .ok (.iconst 0, 1) := by decide +kernel
theorem dX3_answer_26 : decode cX3_answer 26 = .ok (.istore 4, 2) := by decide +kernel
theorem dX3_answer_28 : decode cX3_answer 28 = .ok (.iload 4, 2) := by decide +kernel
theorem dX3_answer_30 : decode cX3_answer 30 = .ok (.iload_n 3, 1) := by decide +kernel
theorem dX3_answer_31 : decode cX3_answer 31 = .ok (.if_icmp .ge 22, 3) := by decide +kernel
theorem dX3_answer_34 : decode cX3_answer 34 = .ok (.aload_n 0, 1) := by decide +kernel
theorem dX3_answer_35 : decode cX3_answer 35 = .ok (.getfield 11, 3) := by decide +kernel
theorem dX3_answer_38 : decode cX3_answer 38 = .ok (.iload 4, 2) := by decide +kernel
theorem dX3_answer_40 : decode cX3_answer 40 = .ok (.aload_n 1, 1) := by decide +kernel
theorem dX3_answer_41 : decode cX3_answer 41 = .ok (.iload 4, 2) := by decide +kernel
theorem dX3_answer_43 : decode cX3_answer 43 = .ok (.invokevirtual 25, 3) := by decide +kernel
theorem dX3_answer_46 : decode cX3_answer 46 = .ok (.iastore, 1) := by decide +kernel
theorem dX3_answer_47 : decode cX3_answer 47 = .ok (.iinc 4 1, 3) := by decide +kernel
theorem dX3_answer_50 : decode cX3_answer 50 = .ok (.goto (-22), 3) := by decide +kernel
theorem dX3_answer_53 : decode cX3_answer 53 = .ok (.aload_n 0, 1) := by decide +kernel
theorem dX3_answer_54 : decode cX3_answer 54 = .ok (.invokevirtual 31, 3) := by decide +kernel
theorem dX3_answer_57 : decode cX3_answer 57 = .ok (.iconst 0, 1) := by decide +kernel
theorem dX3_answer_58 : decode cX3_answer 58 = .ok (.istore 4, 2) := by decide +kernel
theorem dX3_answer_60 : decode cX3_answer 60 = .ok (.iload 4, 2) := by decide +kernel
theorem dX3_answer_62 : decode cX3_answer 62 = .ok (.iload_n 3, 1) := by decide +kernel
theorem dX3_answer_63 : decode cX3_answer 63 = .ok (.if_icmp .ge 59, 3) := by decide +kernel
theorem dX3_answer_66 : decode cX3_answer 66 = .ok (.iload_n 3, 1) := by decide +kernel
theorem dX3_answer_67 : decode cX3_answer 67 = .ok (.iconst 3, 1) := by decide +kernel
theorem dX3_answer_68 : decode cX3_answer 68 = .ok (.iload 4, 2) := by decide +kernel
theorem dX3_answer_70 : decode cX3_answer 70 = .ok (.imul, 1) := by decide +kernel
theorem dX3_answer_71 : decode cX3_answer 71 = .ok (.iadd, 1) := by decide +kernel
theorem dX3_answer_72 : decode cX3_answer 72 = .ok (.istore 5, 2) := by decide +kernel
theorem dX3_answer_74 : decode cX3_answer 74 = .ok (.aload_n 0, 1) := by decide +kernel
theorem dX3_answer_75 : decode cX3_answer 75 = .ok (.getfield 18, 3) := by decide +kernel
theorem dX3_answer_78 : decode cX3_answer 78 = .ok (.iload 4, 2) := by decide +kernel
theorem dX3_answer_80 : decode cX3_answer 80 = .ok (.iconst 0, 1) := by decide +kernel
theorem dX3_answer_81 : decode cX3_answer 81 = .ok (.iastore, 1) := by decide +kernel
theorem dX3_answer_82 : decode cX3_answer 82 = .ok (.aload_n 0, 1) := by decide +kernel
theorem dX3_answer_83 : decode cX3_answer 83 = .ok (.getfield 15, 3) := by decide +kernel
theorem dX3_answer_86 : decode cX3_answer 86 = .ok (.iload 4, 2) := by decide +kernel
theorem dX3_answer_88 : decode cX3_answer 88 = .ok (.aload_n 0, 1) := by decide +kernel
theorem dX3_answer_89 : decode cX3_answer 89 = .ok (.aload_n 2, 1) := by decide +kernel
theorem dX3_answer_90 : decode cX3_answer 90 = .ok (.aload_n 1, 1) := by decide +kernel
theorem dX3_answer_91 : decode cX3_answer 91 = .ok (.iload 5, 2) := by decide +kernel
theorem dX3_answer_93 : decode cX3_answer 93 = .ok (.invokevirtual 25, 3) := by decide +kernel
theorem dX3_answer_96 : decode cX3_answer 96 = .ok (.aload_n 1, 1) := by decide +kernel
theorem dX3_answer_97 : decode cX3_answer 97 = .ok (.iload 5, 2) := by decide +kernel
theorem dX3_answer_99 : decode cX3_answer 99 = .ok (.iconst 1, 1) := by decide +kernel
theorem dX3_answer_100 : decode cX3_answer 100 = .ok (.iadd, 1) := by decide +kernel
theorem dX3_answer_101 : decode cX3_answer 101 = .ok (.invokevirtual 25, 3) := by decide +kernel
theorem dX3_answer_104 : decode cX3_answer 104 = .ok (.aload_n 1, 1) := by decide +kernel
theorem dX3_answer_105 : decode cX3_answer 105 = .ok (.iload 5, 2) := by decide +kernel
theorem dX3_answer_107 : decode cX3_answer 107 = .ok (.iconst 2, 1) := by decide +kernel
theorem dX3_answer_108 : decode cX3_answer 108 = .ok (.iadd, 1) := by decide +kernel
theorem dX3_answer_109 : decode cX3_answer 109 = .ok (.invokevirtual 25, 3) := by decide +kernel
theorem dX3_answer_112 : decode cX3_answer 112 = .ok (.invokevirtual 34, 3) := by decide +kernel
theorem dX3_answer_115 : decode cX3_answer 115 = .ok (.iastore, 1) := by decide +kernel
theorem dX3_answer_116 : decode cX3_answer 116 = .ok (.iinc 4 1, 3) := by decide +kernel
theorem dX3_answer_119 : decode cX3_answer 119 = .ok (.goto (-59), 3) := by decide +kernel
theorem dX3_answer_122 : decode cX3_answer 122 = .ok (.aload_n 0, 1) := by decide +kernel
theorem dX3_answer_123 : decode cX3_answer 123 = .ok (.iconst 0, 1) := by decide +kernel
theorem dX3_answer_124 : decode cX3_answer 124 = .ok (.iconst 0, 1) := by decide +kernel
theorem dX3_answer_125 : decode cX3_answer 125 = .ok (.invokevirtual 38, 3) := by decide +kernel
theorem dX3_answer_128 : decode cX3_answer 128 = .ok (.ireturn, 1) := by decide +kernel
noncomputable def f3_answer_j18 (s3_j18 : OS) (s4_j18 : OS) (s8_j18 : OS) : Option (Int32 × OS) := some ((-1 : Int32), s3_j18)
noncomputable def f3_answer_l60 (v3_i60 : Int32) (s4_i60 : OS) (s8_i60 : OS) : Int32 × OS → Option ((Int32 × OS) ⊕ (Int32 × OS)) := fun t_60 => if v3_i60 ≤ t_60.1 then (Option.map Sum.inr (Option.bind (f3_countAnswers 8 ((0 : Int32)) ((0 : Int32)) t_60.2) fun q_125 => some (q_125.1, q_125.2))) else (nm ((v3_i60 + ((3 : Int32) * t_60.1))) fun n_72 => chk (inb t_60.1 6) (nm (wI t_60.2 3 t_60.1.toNatClampNeg ((0 : Int32))) fun s3_81 => Option.bind (f8_number n_72 s8_i60) fun q_93 => Option.bind (f8_number ((n_72 + (1 : Int32))) s8_i60) fun q_101 => Option.bind (f8_number ((n_72 + (2 : Int32))) s8_i60) fun q_109 => Option.bind (f3_fitting q_93 q_101 q_109 s3_81 s4_i60) fun q_112 => chk (inb t_60.1 6) (nm (wI s3_81 2 t_60.1.toNatClampNeg q_112) fun s3_115 => nm (t_60.1 + (1 : Int32)) fun n_116 => some (Sum.inl (n_116, s3_115)))))
noncomputable def f3_answer_l28 (v3_i28 : Int32) (s4_i28 : OS) (s8_i28 : OS) : Int32 × OS → Option ((Int32 × OS) ⊕ (Int32 × OS)) := fun t_28 => if v3_i28 ≤ t_28.1 then (Option.map Sum.inr (Option.bind (f3_sortMixed t_28.2) fun q_54 => loop (f3_answer_l60 v3_i28 s4_i28 s8_i28) ((0 : Int32), q_54))) else (Option.bind (f8_number t_28.1 s8_i28) fun q_43 => chk (inb t_28.1 6) (nm (wI t_28.2 1 t_28.1.toNatClampNeg q_43) fun s3_46 => nm (t_28.1 + (1 : Int32)) fun n_47 => some (Sum.inl (n_47, s3_46))))
noncomputable def f3_answer (a3 : Int32) (s3 : OS) (s4 : OS) (s8 : OS) : Option (Int32 × OS) := if a3 < 0 then (f3_answer_j18 s3 s4 s8) else (if a3 ≤ (6 : Int32) then (nm (wI s3 0 3 a3) fun s3_22 => loop (f3_answer_l28 a3 s4 s8) ((0 : Int32), s3_22)) else (f3_answer_j18 s3 s4 s8))
set_option maxHeartbeats 4000000 in
set_option maxRecDepth 100000 in
theorem m3_answer (l : Launch) (D : va_G) (ad : Nat → Nat) (cy : Nat → ClassId) (sz : Nat) (s0 s1 s2 s3 s4 s5 s6 s7 s8 s9 s10 : OS) (a3 : Int32) (r : Int32 × OS) (h : f3_answer a3 s3 s4 s8 = some r) : Met l yX3_answer (wsOf yX3_answer cX3_answer 6 (some .int)) (rmL 13) (va_Pc ([.ref (ad 3), .ref (ad 8), .ref (ad 4), .int a3] : List Value) (PreG D cy (cellsC ad cy s0 s1 s2 s3 s4 s5 s6 s7 s8 s9 s10) sz (NC ad))) (QcI D ad 67 (cellsC ad cy s0 s1 s2 r.2 s4 s5 s6 s7 s8 s9 s10) (r.1) sz) 0 0 (Afr ad 67 sz) := by
  refine metG (own := RX3) (by decide) rfl (Nat.le_of_ble_eq_true rfl) fstC ?_ sz
  intro p e s m below meth c ls C0 hw hl
  obtain ⟨hx, hb, hml, hown, hts, hr, hlk, hK, hN⟩ := C0
  have hl : lv_has ls 6 [(0, .ref (ad 3)), (1, .ref (ad 8)), (2, .ref (ad 4)), (3, .int a3)] := hl
  generalize hQ : MQ below (QcI D ad 67 (cellsC ad cy s0 s1 s2 r.2 s4 s5 s6 s7 s8 s9 s10) (r.1) s.heap.size) ([.ref (ad 3), .ref (ad 8), .ref (ad 4), .int a3] : List Value).toArray s 0 0 (Afr ad 67 s.heap.size) = Q
  obtain ⟨H, hH⟩ : ∃ H : Heap, H = s.heap := ⟨_, rfl⟩
  obtain ⟨locs, hlc⟩ : ∃ L : List Loc, L = [] := ⟨_, rfl⟩
  have hw : Wd D (cellsC ad cy s0 s1 s2 s3 s4 s5 s6 s7 s8 s9 s10) (Afr ad 67 s.heap.size) s.heap H locs := by rw [hH, hlc]; exact hw
  suffices h0 : W p l e (rmL 13) s m ([.ref (ad 3), .ref (ad 8), .ref (ad 4), .int a3] : List Value).toArray below meth c H locs 0 0 Q (F0 m 0 ls []) by rw [hH, hlc] at h0; exact h0
  clear hH hlc
  unfold f3_answer at h
  have hJ_18 : ∀ (s3_j18 : OS) (H : Heap) (locs : List Loc) (ls : Array Slot), f3_answer_j18 s3_j18 s4 s8 = some r → Wd D (cellsC ad cy s0 s1 s2 s3_j18 s4 s5 s6 s7 s8 s9 s10) (Afr ad 67 s.heap.size) s.heap H locs → lv_has ls 6 [] → W p l e (rmL 13) s m ([.ref (ad 3), .ref (ad 8), .ref (ad 4), .int a3] : List Value).toArray below meth c H locs 0 0 Q (F0 m 18 ls []) := by
    intro s3_j18 H locs ls h hw hl
    unfold f3_answer_j18 at h
    refine lv_iconst (v := (-1)) hx hb dX3_answer_18 (by decide) ?_
    have h := Option.some.inj h
    subst h
    rw [← hQ]
    exact retI hx hb hr hlk hw rfl dX3_answer_19
  refine lv_aload_n hx hb dX3_answer_0 rfl (lv_at hl 1 rfl) ?_
  refine lv_ifnull hx hb dX3_answer_1 ?_
  refine lv_aload_n hx hb dX3_answer_4 rfl (lv_at hl 2 rfl) ?_
  refine lv_ifnull hx hb dX3_answer_5 ?_
  refine lv_iload_n hx hb dX3_answer_8 rfl (lv_at hl 3 rfl) ?_
  refine lv_if_lt (tgt := 18) hx hb dX3_answer_9 (by decide) (fun c_9 => ?_) (fun c_9 => ?_)
  · have h := ite_t c_9 h
    exact hJ_18 s3 H locs ls h hw (lv_sub hl [] rfl)
  · have h := ite_f c_9 h
    refine lv_iload_n hx hb dX3_answer_12 rfl (lv_at hl 3 rfl) ?_
    refine lv_bipush (v := 6) hx hb dX3_answer_13 (by decide) ?_
    refine lv_icmp_le (tgt := 20) hx hb dX3_answer_15 (by decide) (fun c_15 => ?_) (fun c_15 => ?_)
    · have h := ite_t c_15 h
      refine lv_aload_n hx hb dX3_answer_20 rfl (lv_at hl 0 rfl) ?_
      refine lv_iload_n hx hb dX3_answer_21 rfl (lv_at hl 3 rfl) ?_
      obtain ⟨s3_22, e_22, h⟩ := nam_e h
      refine pX3_21 hx hb hts hown hK hw e_22 dX3_answer_22 (fun H locs hw => ?_)
      refine lv_iconst (v := 0) hx hb dX3_answer_25 (by decide) ?_
      refine lv_istore (lv' := [(4, .int ((0 : Int32))), (0, .ref (ad 3)), (1, .ref (ad 8)), (2, .ref (ad 4)), (3, .int a3)]) hx hb dX3_answer_26 hl (by decide) rfl (fun ls hl => ?_)
      obtain ⟨n_28, hn_28⟩ := loop_e h
      have hL_28 : ∀ (n : Nat) (t_28 : Int32 × OS) (H : Heap) (locs : List Loc) (ls : Array Slot), loopN (f3_answer_l28 a3 s4 s8) n t_28 = some r → Wd D (cellsC ad cy s0 s1 s2 t_28.2 s4 s5 s6 s7 s8 s9 s10) (Afr ad 67 s.heap.size) s.heap H locs → lv_has ls 6 [(4, .int t_28.1), (3, .int a3), (0, .ref (ad 3)), (1, .ref (ad 8)), (2, .ref (ad 4))] → W p l e (rmL 13) s m ([.ref (ad 3), .ref (ad 8), .ref (ad 4), .int a3] : List Value).toArray below meth c H locs 0 0 Q (F0 m 28 ls []) := by
        intro n
        induction n with
        | zero => intro t_28 H locs ls hn; cases hn
        | succ n ih_28 =>
          intro t_28 H locs ls hn hw hl
          obtain ⟨x_28, h, hx_28⟩ := loopN_e hn
          unfold f3_answer_l28 at h
          refine lv_iload hx hb dX3_answer_28 (lv_at hl 0 rfl) ?_
          refine lv_iload_n hx hb dX3_answer_30 rfl (lv_at hl 1 rfl) ?_
          refine lv_icmp_ge (tgt := 53) hx hb dX3_answer_31 (by decide) (fun c_31 => ?_) (fun c_31 => ?_)
          · have h := ite_t c_31 h
            have h := nx_m hx_28 h
            refine lv_aload_n hx hb dX3_answer_53 rfl (lv_at hl 2 rfl) ?_
            obtain ⟨q_54, h_54, h⟩ := bnd_e h
            have pg_54 := preG (av := [.ref (ad 3)]) hK hw.1 hw.2.1 (NC_keep hN hw.2.2) NC_blind
            refine endV (mc := 0) (ms := 0) (va_runV (As := []) (rest := []) ⟨hx, hb, hml, hown, hts⟩ (m3_sortMixed l D ad cy H.size s0 s1 s2 t_28.2 s4 s5 s6 s7 s8 s9 s10 q_54 h_54) (wX3_31 0 hts ⟨Nat.le_of_ble_eq_true rfl, Nat.le_of_ble_eq_true rfl⟩) ⟨pg_54.1, va_recv hK hw.1 (ci := 3) (q0 := 3) rfl eC_3, pg_54.2⟩ rfl rfl hl.1 rfl (lv_room (Nat.le_of_ble_eq_true rfl)) dX3_answer_54 ⟨Nat.le_refl _, Nat.le_refl _⟩) hw.2.2 (afr_in hw.2.2) (fun H locs hw => ?_)
            refine lv_iconst (v := 0) hx hb dX3_answer_57 (by decide) ?_
            refine lv_istore (lv' := [(4, .int ((0 : Int32))), (3, .int a3), (0, .ref (ad 3)), (1, .ref (ad 8)), (2, .ref (ad 4))]) hx hb dX3_answer_58 hl (by decide) rfl (fun ls hl => ?_)
            obtain ⟨n_60, hn_60⟩ := loop_e h
            have hL_60 : ∀ (n : Nat) (t_60 : Int32 × OS) (H : Heap) (locs : List Loc) (ls : Array Slot), loopN (f3_answer_l60 a3 s4 s8) n t_60 = some r → Wd D (cellsC ad cy s0 s1 s2 t_60.2 s4 s5 s6 s7 s8 s9 s10) (Afr ad 67 s.heap.size) s.heap H locs → lv_has ls 6 [(4, .int t_60.1), (3, .int a3), (0, .ref (ad 3)), (1, .ref (ad 8)), (2, .ref (ad 4))] → W p l e (rmL 13) s m ([.ref (ad 3), .ref (ad 8), .ref (ad 4), .int a3] : List Value).toArray below meth c H locs 0 0 Q (F0 m 60 ls []) := by
              intro n
              induction n with
              | zero => intro t_60 H locs ls hn; cases hn
              | succ n ih_60 =>
                intro t_60 H locs ls hn hw hl
                obtain ⟨x_60, h, hx_60⟩ := loopN_e hn
                unfold f3_answer_l60 at h
                refine lv_iload hx hb dX3_answer_60 (lv_at hl 0 rfl) ?_
                refine lv_iload_n hx hb dX3_answer_62 rfl (lv_at hl 1 rfl) ?_
                refine lv_icmp_ge (tgt := 122) hx hb dX3_answer_63 (by decide) (fun c_63 => ?_) (fun c_63 => ?_)
                · have h := ite_t c_63 h
                  have h := nx_m hx_60 h
                  refine lv_aload_n hx hb dX3_answer_122 rfl (lv_at hl 2 rfl) ?_
                  refine lv_iconst (v := 0) hx hb dX3_answer_123 (by decide) ?_
                  refine lv_iconst (v := 0) hx hb dX3_answer_124 (by decide) ?_
                  obtain ⟨q_125, h_125, h⟩ := bnd_e h
                  have pg_125 := preG (av := [.ref (ad 3), .int ((0 : Int32)), .int ((0 : Int32))]) hK hw.1 hw.2.1 (NC_keep hN hw.2.2) NC_blind
                  refine endI (mc := 0) (ms := 0) (va_runV (As := [.int ((0 : Int32)), .int ((0 : Int32))]) (rest := []) ⟨hx, hb, hml, hown, hts⟩ (m3_countAnswers l 8 D ad cy H.size s0 s1 s2 t_60.2 s4 s5 s6 s7 s8 s9 s10 ((0 : Int32)) ((0 : Int32)) q_125 h_125) (wX3_38 12 hts ⟨Nat.le_of_ble_eq_true rfl, Nat.le_of_ble_eq_true rfl⟩) ⟨pg_125.1, va_recv hK hw.1 (ci := 3) (q0 := 3) rfl eC_3, pg_125.2⟩ rfl rfl hl.1 rfl (lv_room (Nat.le_of_ble_eq_true rfl)) dX3_answer_125 ⟨Nat.le_refl _, Nat.le_refl _⟩) hw.2.2 (afr_in hw.2.2) (fun H locs hw => ?_)
                  have h := Option.some.inj h
                  subst h
                  rw [← hQ]
                  exact retI hx hb hr hlk hw rfl dX3_answer_128
                · have h := ite_f c_63 h
                  refine lv_iload_n hx hb dX3_answer_66 rfl (lv_at hl 1 rfl) ?_
                  refine lv_iconst (v := 3) hx hb dX3_answer_67 (by decide) ?_
                  refine lv_iload hx hb dX3_answer_68 (lv_at hl 0 rfl) ?_
                  refine lv_imul hx hb dX3_answer_70 ?_
                  refine lv_iadd hx hb dX3_answer_71 ?_
                  obtain ⟨n_72, e_72, h⟩ := nam_e h
                  refine topI e_72 ?_
                  refine lv_istore (lv' := [(5, .int n_72), (4, .int t_60.1), (3, .int a3), (0, .ref (ad 3)), (1, .ref (ad 8)), (2, .ref (ad 4))]) hx hb dX3_answer_72 hl (by decide) rfl (fun ls hl => ?_)
                  refine lv_aload_n hx hb dX3_answer_74 rfl (lv_at hl 3 rfl) ?_
                  refine gX3_18 hx hb hts hown hK hw dX3_answer_75 ?_
                  refine lv_iload hx hb dX3_answer_78 (lv_at hl 1 rfl) ?_
                  refine lv_iconst (v := 0) hx hb dX3_answer_80 (by decide) ?_
                  obtain ⟨hi_81, h⟩ := chk_e h
                  obtain ⟨s3_81, e_81, h⟩ := nam_e h
                  refine aC35 hx hb hK hw hi_81 e_81 dX3_answer_81 (fun H locs hw => ?_)
                  refine lv_aload_n hx hb dX3_answer_82 rfl (lv_at hl 3 rfl) ?_
                  refine gX3_15 hx hb hts hown hK hw dX3_answer_83 ?_
                  refine lv_iload hx hb dX3_answer_86 (lv_at hl 1 rfl) ?_
                  refine lv_aload_n hx hb dX3_answer_88 rfl (lv_at hl 3 rfl) ?_
                  refine lv_aload_n hx hb dX3_answer_89 rfl (lv_at hl 5 rfl) ?_
                  refine lv_aload_n hx hb dX3_answer_90 rfl (lv_at hl 4 rfl) ?_
                  refine lv_iload hx hb dX3_answer_91 (lv_at hl 0 rfl) ?_
                  obtain ⟨q_93, h_93, h⟩ := bnd_e h
                  have pg_93 := preG (av := [.ref (ad 8), .int n_72]) hK hw.1 hw.2.1 (NC_keep hN hw.2.2) NC_blind
                  refine endI (mc := 0) (ms := 0) (va_runV (As := [.int n_72]) (rest := [.ref (ad 4), .ref (ad 3), .int t_60.1, .ref (ad 34)]) ⟨hx, hb, hml, hown, hts⟩ (m8_number l D ad cy H.size s0 s1 s2 s3_81 s4 s5 s6 s7 s8 s9 s10 n_72 q_93 h_93) (wX3_25 1 hts ⟨Nat.le_of_ble_eq_true rfl, Nat.le_of_ble_eq_true rfl⟩) ⟨pg_93.1, va_recv hK hw.1 (ci := 8) (q0 := 8) rfl eC_8, pg_93.2⟩ rfl rfl hl.1 rfl (lv_room (Nat.le_of_ble_eq_true rfl)) dX3_answer_93 ⟨Nat.le_refl _, Nat.le_refl _⟩) hw.2.2 (afr_in hw.2.2) (fun H locs hw => ?_)
                  refine lv_aload_n hx hb dX3_answer_96 rfl (lv_at hl 4 rfl) ?_
                  refine lv_iload hx hb dX3_answer_97 (lv_at hl 0 rfl) ?_
                  refine lv_iconst (v := 1) hx hb dX3_answer_99 (by decide) ?_
                  refine lv_iadd hx hb dX3_answer_100 ?_
                  obtain ⟨q_101, h_101, h⟩ := bnd_e h
                  have pg_101 := preG (av := [.ref (ad 8), .int ((n_72 + (1 : Int32)))]) hK hw.1 hw.2.1 (NC_keep hN hw.2.2) NC_blind
                  refine endI (mc := 0) (ms := 0) (va_runV (As := [.int ((n_72 + (1 : Int32)))]) (rest := [.int q_93, .ref (ad 4), .ref (ad 3), .int t_60.1, .ref (ad 34)]) ⟨hx, hb, hml, hown, hts⟩ (m8_number l D ad cy H.size s0 s1 s2 s3_81 s4 s5 s6 s7 s8 s9 s10 ((n_72 + (1 : Int32))) q_101 h_101) (wX3_25 1 hts ⟨Nat.le_of_ble_eq_true rfl, Nat.le_of_ble_eq_true rfl⟩) ⟨pg_101.1, va_recv hK hw.1 (ci := 8) (q0 := 8) rfl eC_8, pg_101.2⟩ rfl rfl hl.1 rfl (lv_room (Nat.le_of_ble_eq_true rfl)) dX3_answer_101 ⟨Nat.le_refl _, Nat.le_refl _⟩) hw.2.2 (afr_in hw.2.2) (fun H locs hw => ?_)
                  refine lv_aload_n hx hb dX3_answer_104 rfl (lv_at hl 4 rfl) ?_
                  refine lv_iload hx hb dX3_answer_105 (lv_at hl 0 rfl) ?_
                  refine lv_iconst (v := 2) hx hb dX3_answer_107 (by decide) ?_
                  refine lv_iadd hx hb dX3_answer_108 ?_
                  obtain ⟨q_109, h_109, h⟩ := bnd_e h
                  have pg_109 := preG (av := [.ref (ad 8), .int ((n_72 + (2 : Int32)))]) hK hw.1 hw.2.1 (NC_keep hN hw.2.2) NC_blind
                  refine endI (mc := 0) (ms := 0) (va_runV (As := [.int ((n_72 + (2 : Int32)))]) (rest := [.int q_101, .int q_93, .ref (ad 4), .ref (ad 3), .int t_60.1, .ref (ad 34)]) ⟨hx, hb, hml, hown, hts⟩ (m8_number l D ad cy H.size s0 s1 s2 s3_81 s4 s5 s6 s7 s8 s9 s10 ((n_72 + (2 : Int32))) q_109 h_109) (wX3_25 1 hts ⟨Nat.le_of_ble_eq_true rfl, Nat.le_of_ble_eq_true rfl⟩) ⟨pg_109.1, va_recv hK hw.1 (ci := 8) (q0 := 8) rfl eC_8, pg_109.2⟩ rfl rfl hl.1 rfl (lv_room (Nat.le_of_ble_eq_true rfl)) dX3_answer_109 ⟨Nat.le_refl _, Nat.le_refl _⟩) hw.2.2 (afr_in hw.2.2) (fun H locs hw => ?_)
                  obtain ⟨q_112, h_112, h⟩ := bnd_e h
                  have pg_112 := preG (av := [.ref (ad 3), .ref (ad 4), .int q_93, .int q_101, .int q_109]) hK hw.1 hw.2.1 (NC_keep hN hw.2.2) NC_blind
                  refine endI (mc := 0) (ms := 0) (va_runV (As := [.ref (ad 4), .int q_93, .int q_101, .int q_109]) (rest := [.int t_60.1, .ref (ad 34)]) ⟨hx, hb, hml, hown, hts⟩ (m3_fitting l D ad cy H.size s0 s1 s2 s3_81 s4 s5 s6 s7 s8 s9 s10 q_93 q_101 q_109 q_112 h_112) (wX3_34 2 hts ⟨Nat.le_of_ble_eq_true rfl, Nat.le_of_ble_eq_true rfl⟩) ⟨pg_112.1, va_recv hK hw.1 (ci := 3) (q0 := 3) rfl eC_3, pg_112.2⟩ rfl rfl hl.1 rfl (lv_room (Nat.le_of_ble_eq_true rfl)) dX3_answer_112 ⟨Nat.le_refl _, Nat.le_refl _⟩) hw.2.2 (afr_in hw.2.2) (fun H locs hw => ?_)
                  obtain ⟨hi_115, h⟩ := chk_e h
                  obtain ⟨s3_115, e_115, h⟩ := nam_e h
                  refine aC34 hx hb hK hw hi_115 e_115 dX3_answer_115 (fun H locs hw => ?_)
                  obtain ⟨n_116, e_116, h⟩ := nam_e h
                  refine lv_iinc (v := n_116) (lv' := [(4, .int n_116), (5, .int n_72), (3, .int a3), (0, .ref (ad 3)), (1, .ref (ad 8)), (2, .ref (ad 4))]) hx hb dX3_answer_116 hl (k := 1) rfl (by rw [e_116]; rfl) (by decide) rfl (fun ls hl => ?_)
                  refine lv_goto (tgt := 60) hx hb dX3_answer_119 (by decide) ?_
                  exact ih_60 (n_116, s3_115) H locs ls (nx_l hx_60 h) hw (lv_sub hl [0, 2, 3, 4, 5] rfl)
            exact hL_60 n_60 ((0 : Int32), q_54) H locs ls hn_60 hw (lv_sub hl [0, 1, 2, 3, 4] rfl)
          · have h := ite_f c_31 h
            refine lv_aload_n hx hb dX3_answer_34 rfl (lv_at hl 2 rfl) ?_
            refine gX3_11 hx hb hts hown hK hw dX3_answer_35 ?_
            refine lv_iload hx hb dX3_answer_38 (lv_at hl 0 rfl) ?_
            refine lv_aload_n hx hb dX3_answer_40 rfl (lv_at hl 3 rfl) ?_
            refine lv_iload hx hb dX3_answer_41 (lv_at hl 0 rfl) ?_
            obtain ⟨q_43, h_43, h⟩ := bnd_e h
            have pg_43 := preG (av := [.ref (ad 8), .int t_28.1]) hK hw.1 hw.2.1 (NC_keep hN hw.2.2) NC_blind
            refine endI (mc := 0) (ms := 0) (va_runV (As := [.int t_28.1]) (rest := [.int t_28.1, .ref (ad 33)]) ⟨hx, hb, hml, hown, hts⟩ (m8_number l D ad cy H.size s0 s1 s2 t_28.2 s4 s5 s6 s7 s8 s9 s10 t_28.1 q_43 h_43) (wX3_25 1 hts ⟨Nat.le_of_ble_eq_true rfl, Nat.le_of_ble_eq_true rfl⟩) ⟨pg_43.1, va_recv hK hw.1 (ci := 8) (q0 := 8) rfl eC_8, pg_43.2⟩ rfl rfl hl.1 rfl (lv_room (Nat.le_of_ble_eq_true rfl)) dX3_answer_43 ⟨Nat.le_refl _, Nat.le_refl _⟩) hw.2.2 (afr_in hw.2.2) (fun H locs hw => ?_)
            obtain ⟨hi_46, h⟩ := chk_e h
            obtain ⟨s3_46, e_46, h⟩ := nam_e h
            refine aC33 hx hb hK hw hi_46 e_46 dX3_answer_46 (fun H locs hw => ?_)
            obtain ⟨n_47, e_47, h⟩ := nam_e h
            refine lv_iinc (v := n_47) (lv' := [(4, .int n_47), (3, .int a3), (0, .ref (ad 3)), (1, .ref (ad 8)), (2, .ref (ad 4))]) hx hb dX3_answer_47 hl (k := 0) rfl (by rw [e_47]; rfl) (by decide) rfl (fun ls hl => ?_)
            refine lv_goto (tgt := 28) hx hb dX3_answer_50 (by decide) ?_
            exact ih_28 (n_47, s3_46) H locs ls (nx_l hx_28 h) hw (lv_sub hl [0, 1, 2, 3, 4] rfl)
      exact hL_28 n_28 ((0 : Int32), s3_22) H locs ls hn_28 hw (lv_sub hl [0, 4, 1, 2, 3] rfl)
    · have h := ite_f c_15 h
      exact hJ_18 s3 H locs ls h hw (lv_sub hl [] rfl)
theorem dX3_nthOf_0 : decode cX3_nthOf 0 = .ok (.iconst 0, 1) := by decide +kernel
theorem dX3_nthOf_1 : decode cX3_nthOf 1 = .ok (.istore_n 3, 1) := by decide +kernel
theorem dX3_nthOf_2 : decode cX3_nthOf 2 = .ok (.iconst 0, 1) := by decide +kernel
theorem dX3_nthOf_3 : decode cX3_nthOf 3 = .ok (.istore 4, 2) := by decide +kernel
theorem dX3_nthOf_5 : decode cX3_nthOf 5 = .ok (.iload 4, 2) := by decide +kernel
theorem dX3_nthOf_7 : decode cX3_nthOf 7 = .ok (.bipush 6, 2) := by decide +kernel
theorem dX3_nthOf_9 : decode cX3_nthOf 9 = .ok (.if_icmp .ge 34, 3) := by decide +kernel
theorem dX3_nthOf_12 : decode cX3_nthOf 12 = .ok (.iload_n 1, 1) := by decide +kernel
theorem dX3_nthOf_13 : decode cX3_nthOf 13 = .ok (.iload 4, 2) := by decide +kernel
theorem dX3_nthOf_15 : decode cX3_nthOf 15 = .ok (.ishr, 1) := by decide +kernel
theorem dX3_nthOf_16 : decode cX3_nthOf 16 = .ok (.iconst 1, 1) := by decide +kernel
theorem dX3_nthOf_17 : decode cX3_nthOf 17 = .ok (.iand, 1) := by decide +kernel
theorem dX3_nthOf_18 : decode cX3_nthOf 18 = .ok (.ifCond .eq 19, 3) := by decide +kernel
theorem dX3_nthOf_21 : decode cX3_nthOf 21 = .ok (.iload_n 3, 1) := by decide +kernel
theorem dX3_nthOf_22 : decode cX3_nthOf 22 = .ok (.iload_n 2, 1) := by decide +kernel
theorem dX3_nthOf_23 : decode cX3_nthOf 23 = .ok (.if_icmp .ne 11, 3) := by decide +kernel
theorem dX3_nthOf_26 : decode cX3_nthOf 26 = .ok (.aload_n 0, 1) := by decide +kernel
theorem dX3_nthOf_27 : decode cX3_nthOf 27 = .ok (.getfield 11, 3) := by decide +kernel
theorem dX3_nthOf_30 : decode cX3_nthOf 30 = .ok (.iload 4, 2) := by decide +kernel
theorem dX3_nthOf_32 : decode cX3_nthOf 32 = .ok (.iaload, 1) := by decide +kernel
theorem dX3_nthOf_33 : decode cX3_nthOf 33 = .ok (.ireturn, 1) := by decide +kernel
theorem dX3_nthOf_34 : decode cX3_nthOf 34 = .ok (.iinc 3 1, 3) := by decide +kernel
theorem dX3_nthOf_37 : decode cX3_nthOf 37 = .ok (.iinc 4 1, 3) := by decide +kernel
theorem dX3_nthOf_40 : decode cX3_nthOf 40 = .ok (.goto (-35), 3) := by decide +kernel
theorem dX3_nthOf_43 : decode cX3_nthOf 43 = .ok (.iconst (-1), 1) := by decide +kernel
theorem dX3_nthOf_44 : decode cX3_nthOf 44 = .ok (.ireturn, 1) := by decide +kernel
noncomputable def f3_nthOf_j37 (v1_j37 : Int32) (v2_j37 : Int32) (v3_j37 : Int32) (v4_j37 : Int32) (s3_j37 : OS) : Option ((Int32 × Int32) ⊕ (Int32)) := nm (v4_j37 + (1 : Int32)) fun n_37 => some (Sum.inl (v3_j37, n_37))
noncomputable def f3_nthOf_l5 (v1_i5 : Int32) (v2_i5 : Int32) (s3_i5 : OS) : Int32 × Int32 → Option ((Int32 × Int32) ⊕ (Int32)) := fun t_5 => if (6 : Int32) ≤ t_5.2 then (Option.map Sum.inr (some ((-1 : Int32)))) else (if ((v1_i5 >>> (t_5.2 &&& 31)) &&& (1 : Int32)) = 0 then (f3_nthOf_j37 v1_i5 v2_i5 t_5.1 t_5.2 s3_i5) else (if t_5.1 = v2_i5 then (Option.map Sum.inr (chk (inb t_5.2 6) (nm (s3_i5.1 1 t_5.2.toNatClampNeg) fun y_32 => some y_32))) else (nm (t_5.1 + (1 : Int32)) fun n_34 => f3_nthOf_j37 v1_i5 v2_i5 n_34 t_5.2 s3_i5)))
noncomputable def f3_nthOf (a1 : Int32) (a2 : Int32) (s3 : OS) : Option (Int32) := loop (f3_nthOf_l5 a1 a2 s3) ((0 : Int32), (0 : Int32))
set_option maxHeartbeats 4000000 in
set_option maxRecDepth 100000 in
theorem m3_nthOf (l : Launch) (D : va_G) (ad : Nat → Nat) (cy : Nat → ClassId) (sz : Nat) (s0 s1 s2 s3 s4 s5 s6 s7 s8 s9 s10 : OS) (a1 : Int32) (a2 : Int32) (r : Int32) (h : f3_nthOf a1 a2 s3 = some r) : Met l yX3_nthOf (wsOf yX3_nthOf cX3_nthOf 5 (some .int)) (rmL 0) (va_Pc ([.ref (ad 3), .int a1, .int a2] : List Value) (PreG D cy (cellsC ad cy s0 s1 s2 s3 s4 s5 s6 s7 s8 s9 s10) sz (NC ad))) (QcI D ad 67 (cellsC ad cy s0 s1 s2 s3 s4 s5 s6 s7 s8 s9 s10) (r) sz) 0 0 (Afr ad 67 sz) := by
  refine metG (own := RX3) (by decide) rfl (Nat.le_of_ble_eq_true rfl) fstC ?_ sz
  intro p e s m below meth c ls C0 hw hl
  obtain ⟨hx, hb, hml, hown, hts, hr, hlk, hK, hN⟩ := C0
  have hl : lv_has ls 5 [(0, .ref (ad 3)), (1, .int a1), (2, .int a2)] := hl
  generalize hQ : MQ below (QcI D ad 67 (cellsC ad cy s0 s1 s2 s3 s4 s5 s6 s7 s8 s9 s10) (r) s.heap.size) ([.ref (ad 3), .int a1, .int a2] : List Value).toArray s 0 0 (Afr ad 67 s.heap.size) = Q
  obtain ⟨H, hH⟩ : ∃ H : Heap, H = s.heap := ⟨_, rfl⟩
  obtain ⟨locs, hlc⟩ : ∃ L : List Loc, L = [] := ⟨_, rfl⟩
  have hw : Wd D (cellsC ad cy s0 s1 s2 s3 s4 s5 s6 s7 s8 s9 s10) (Afr ad 67 s.heap.size) s.heap H locs := by rw [hH, hlc]; exact hw
  suffices h0 : W p l e (rmL 0) s m ([.ref (ad 3), .int a1, .int a2] : List Value).toArray below meth c H locs 0 0 Q (F0 m 0 ls []) by rw [hH, hlc] at h0; exact h0
  clear hH hlc
  unfold f3_nthOf at h
  refine lv_iconst (v := 0) hx hb dX3_nthOf_0 (by decide) ?_
  refine lv_istore_n (lv' := [(3, .int ((0 : Int32))), (0, .ref (ad 3)), (1, .int a1), (2, .int a2)]) hx hb dX3_nthOf_1 rfl hl (by decide) rfl (fun ls hl => ?_)
  refine lv_iconst (v := 0) hx hb dX3_nthOf_2 (by decide) ?_
  refine lv_istore (lv' := [(4, .int ((0 : Int32))), (3, .int ((0 : Int32))), (0, .ref (ad 3)), (1, .int a1), (2, .int a2)]) hx hb dX3_nthOf_3 hl (by decide) rfl (fun ls hl => ?_)
  obtain ⟨n_5, hn_5⟩ := loop_e h
  have hL_5 : ∀ (n : Nat) (t_5 : Int32 × Int32) (H : Heap) (locs : List Loc) (ls : Array Slot), loopN (f3_nthOf_l5 a1 a2 s3) n t_5 = some r → Wd D (cellsC ad cy s0 s1 s2 s3 s4 s5 s6 s7 s8 s9 s10) (Afr ad 67 s.heap.size) s.heap H locs → lv_has ls 5 [(3, .int t_5.1), (4, .int t_5.2), (1, .int a1), (2, .int a2), (0, .ref (ad 3))] → W p l e (rmL 0) s m ([.ref (ad 3), .int a1, .int a2] : List Value).toArray below meth c H locs 0 0 Q (F0 m 5 ls []) := by
    intro n
    induction n with
    | zero => intro t_5 H locs ls hn; cases hn
    | succ n ih_5 =>
      intro t_5 H locs ls hn hw hl
      obtain ⟨x_5, h, hx_5⟩ := loopN_e hn
      unfold f3_nthOf_l5 at h
      have hJ_37 : ∀ (v3_j37 : Int32) (v4_j37 : Int32) (H : Heap) (locs : List Loc) (ls : Array Slot), f3_nthOf_j37 a1 a2 v3_j37 v4_j37 s3 = some x_5 → Wd D (cellsC ad cy s0 s1 s2 s3 s4 s5 s6 s7 s8 s9 s10) (Afr ad 67 s.heap.size) s.heap H locs → lv_has ls 5 [(0, .ref (ad 3)), (1, .int a1), (2, .int a2), (3, .int v3_j37), (4, .int v4_j37)] → W p l e (rmL 0) s m ([.ref (ad 3), .int a1, .int a2] : List Value).toArray below meth c H locs 0 0 Q (F0 m 37 ls []) := by
        intro v3_j37 v4_j37 H locs ls h hw hl
        unfold f3_nthOf_j37 at h
        obtain ⟨n_37, e_37, h⟩ := nam_e h
        refine lv_iinc (v := n_37) (lv' := [(4, .int n_37), (0, .ref (ad 3)), (1, .int a1), (2, .int a2), (3, .int v3_j37)]) hx hb dX3_nthOf_37 hl (k := 4) rfl (by rw [e_37]; rfl) (by decide) rfl (fun ls hl => ?_)
        refine lv_goto (tgt := 5) hx hb dX3_nthOf_40 (by decide) ?_
        exact ih_5 (v3_j37, n_37) H locs ls (nx_l hx_5 h) hw (lv_sub hl [4, 0, 2, 3, 1] rfl)
      refine lv_iload hx hb dX3_nthOf_5 (lv_at hl 1 rfl) ?_
      refine lv_bipush (v := 6) hx hb dX3_nthOf_7 (by decide) ?_
      refine lv_icmp_ge (tgt := 43) hx hb dX3_nthOf_9 (by decide) (fun c_9 => ?_) (fun c_9 => ?_)
      · have h := ite_t c_9 h
        have h := nx_m hx_5 h
        refine lv_iconst (v := (-1)) hx hb dX3_nthOf_43 (by decide) ?_
        have h := Option.some.inj h
        subst h
        rw [← hQ]
        exact retI hx hb hr hlk hw rfl dX3_nthOf_44
      · have h := ite_f c_9 h
        refine lv_iload_n hx hb dX3_nthOf_12 rfl (lv_at hl 2 rfl) ?_
        refine lv_iload hx hb dX3_nthOf_13 (lv_at hl 1 rfl) ?_
        refine lv_ishr hx hb dX3_nthOf_15 ?_
        refine lv_iconst (v := 1) hx hb dX3_nthOf_16 (by decide) ?_
        refine lv_iand hx hb dX3_nthOf_17 ?_
        refine lv_if_eq (tgt := 37) hx hb dX3_nthOf_18 (by decide) (fun c_18 => ?_) (fun c_18 => ?_)
        · have h := ite_t c_18 h
          exact hJ_37 t_5.1 t_5.2 H locs ls h hw (lv_sub hl [4, 2, 3, 0, 1] rfl)
        · have h := ite_f c_18 h
          refine lv_iload_n hx hb dX3_nthOf_21 rfl (lv_at hl 0 rfl) ?_
          refine lv_iload_n hx hb dX3_nthOf_22 rfl (lv_at hl 3 rfl) ?_
          refine lv_icmp_ne (tgt := 34) hx hb dX3_nthOf_23 (by decide) (fun c_23 => ?_) (fun c_23 => ?_)
          · have h := ite_f c_23 h
            obtain ⟨n_34, e_34, h⟩ := nam_e h
            refine lv_iinc (v := n_34) (lv' := [(3, .int n_34), (4, .int t_5.2), (1, .int a1), (2, .int a2), (0, .ref (ad 3))]) hx hb dX3_nthOf_34 hl (k := 0) rfl (by rw [e_34]; rfl) (by decide) rfl (fun ls hl => ?_)
            exact hJ_37 n_34 t_5.2 H locs ls h hw (lv_sub hl [4, 2, 3, 0, 1] rfl)
          · have h := ite_t c_23 h
            have h := nx_m hx_5 h
            refine lv_aload_n hx hb dX3_nthOf_26 rfl (lv_at hl 4 rfl) ?_
            refine gX3_11 hx hb hts hown hK hw dX3_nthOf_27 ?_
            refine lv_iload hx hb dX3_nthOf_30 (lv_at hl 1 rfl) ?_
            obtain ⟨hi_32, h⟩ := chk_e h
            obtain ⟨y_32, e_32, h⟩ := nam_e h
            refine lC33 hx hb hK hw hi_32 e_32 dX3_nthOf_32 ?_
            have h := Option.some.inj h
            subst h
            rw [← hQ]
            exact retI hx hb hr hlk hw rfl dX3_nthOf_33
  exact hL_5 n_5 ((0 : Int32), (0 : Int32)) H locs ls hn_5 hw (lv_sub hl [1, 0, 3, 4, 2] rfl)
theorem dX3_tell_0 : decode cX3_tell 0 = .ok (.iload_n 1, 1) := by decide +kernel
theorem dX3_tell_1 : decode cX3_tell 1 = .ok (.ifCond .lt 21, 3) := by decide +kernel
theorem dX3_tell_4 : decode cX3_tell 4 = .ok (.iload_n 1, 1) := by decide +kernel
theorem dX3_tell_5 : decode cX3_tell 5 = .ok (.aload_n 0, 1) := by decide +kernel
theorem dX3_tell_6 : decode cX3_tell 6 = .ok (.getfield 21, 3) := by decide +kernel
theorem dX3_tell_9 : decode cX3_tell 9 = .ok (.if_icmp .ge 13, 3) := by decide +kernel
theorem dX3_tell_12 : decode cX3_tell 12 = .ok (.iload_n 1, 1) := by decide +kernel
theorem dX3_tell_13 : decode cX3_tell 13 = .ok (.bipush 6, 2) := by decide +kernel
theorem dX3_tell_15 : decode cX3_tell 15 = .ok (.if_icmp .ge 7, 3) := by decide +kernel
theorem dX3_tell_18 : decode cX3_tell 18 = .ok (.iload_n 2, 1) := by decide +kernel
theorem dX3_tell_19 : decode cX3_tell 19 = .ok (.ifCond .ge 5, 3) := by decide +kernel
theorem dX3_tell_22 : decode cX3_tell 22 = .ok (.iconst (-1), 1) := by decide +kernel
theorem dX3_tell_23 : decode cX3_tell 23 = .ok (.ireturn, 1) := by decide +kernel
theorem dX3_tell_24 : decode cX3_tell 24 = .ok (.aload_n 0, 1) := by decide +kernel
theorem dX3_tell_25 : decode cX3_tell 25 = .ok (.getfield 18, 3) := by decide +kernel
theorem dX3_tell_28 : decode cX3_tell 28 = .ok (.iload_n 1, 1) := by decide +kernel
theorem dX3_tell_29 : decode cX3_tell 29 = .ok (.iaload, 1) := by decide +kernel
theorem dX3_tell_30 : decode cX3_tell 30 = .ok (.invokestatic 55, 3) := by decide +kernel
theorem dX3_tell_33 : decode cX3_tell 33 = .ok (.istore_n 3, 1) := by decide +kernel
theorem dX3_tell_34 : decode cX3_tell 34 = .ok (.iload_n 2, 1) := by decide +kernel
theorem dX3_tell_35 : decode cX3_tell 35 = .ok (.ifCond .ne 24, 3) := by decide +kernel
theorem dX3_tell_38 : decode cX3_tell 38 = .ok (.iload_n 3, 1) := by decide +kernel
theorem dX3_tell_39 : decode cX3_tell 39 = .ok (.iconst 1, 1) := by decide +kernel
theorem dX3_tell_40 : decode cX3_tell 40 = .ok (.if_icmp .ne 17, 3) := by decide +kernel
theorem dX3_tell_43 : decode cX3_tell 43 = .ok (.aload_n 0, 1) := by decide +kernel
theorem dX3_tell_44 : decode cX3_tell 44 = .ok (.aload_n 0, 1) := by decide +kernel
theorem dX3_tell_45 : decode cX3_tell 45 = .ok (.getfield 18, 3) := by decide +kernel
theorem dX3_tell_48 : decode cX3_tell 48 = .ok (.iload_n 1, 1) := by decide +kernel
theorem dX3_tell_49 : decode cX3_tell 49 = .ok (.iaload, 1) := by decide +kernel
theorem dX3_tell_50 : decode cX3_tell 50 = .ok (.iconst 0, 1) := by decide +kernel
theorem dX3_tell_51 : decode cX3_tell 51 = .ok (.invokevirtual 60, 3) := by decide +kernel
theorem dX3_tell_54 : decode cX3_tell 54 = .ok (.goto 4, 3) := by decide +kernel
theorem dX3_tell_57 : decode cX3_tell 57 = .ok (.iconst (-1), 1) := by decide +kernel
theorem dX3_tell_58 : decode cX3_tell 58 = .ok (.ireturn, 1) := by decide +kernel
theorem dX3_tell_59 : decode cX3_tell 59 = .ok (.iload_n 2, 1) := by decide +kernel
theorem dX3_tell_60 : decode cX3_tell 60 = .ok (.iconst 1, 1) := by decide +kernel
theorem dX3_tell_61 : decode cX3_tell 61 = .ok (.if_icmp .ne 7, 3) := by decide +kernel
theorem dX3_tell_64 : decode cX3_tell 64 = .ok (.iload_n 3, 1) := by decide +kernel
theorem dX3_tell_65 : decode cX3_tell 65 = .ok (.goto 16, 3) := by decide +kernel
theorem dX3_tell_68 : decode cX3_tell 68 = .ok (.aload_n 0, 1) := by decide +kernel
theorem dX3_tell_69 : decode cX3_tell 69 = .ok (.aload_n 0, 1) := by decide +kernel
theorem dX3_tell_70 : decode cX3_tell 70 = .ok (.getfield 18, 3) := by decide +kernel
theorem dX3_tell_73 : decode cX3_tell 73 = .ok (.iload_n 1, 1) := by decide +kernel
theorem dX3_tell_74 : decode cX3_tell 74 = .ok (.iaload, 1) := by decide +kernel
theorem dX3_tell_75 : decode cX3_tell 75 = .ok (.iload_n 2, 1) := by decide +kernel
theorem dX3_tell_76 : decode cX3_tell 76 = .ok (.iconst 2, 1) := by decide +kernel
theorem dX3_tell_77 : decode cX3_tell 77 = .ok (.isub, 1) := by decide +kernel
theorem dX3_tell_78 : decode cX3_tell 78 = .ok (.invokevirtual 60, 3) := by decide +kernel
theorem dX3_tell_81 : decode cX3_tell 81 = .ok (.ireturn, 1) := by decide +kernel
noncomputable def f3_tell_j81 (k0_j81 : Int32) (s3_j81 : OS) : Option (Int32) := some k0_j81
noncomputable def f3_tell_j58 (k0_j58 : Int32) (s3_j58 : OS) : Option (Int32) := some k0_j58
noncomputable def f3_tell_j22 (s3_j22 : OS) : Option (Int32) := some ((-1 : Int32))
noncomputable def f3_tell (a1 : Int32) (a2 : Int32) (s3 : OS) : Option (Int32) := if a1 < 0 then (f3_tell_j22 s3) else (if (s3.1 0 3) ≤ a1 then (f3_tell_j22 s3) else (if (6 : Int32) ≤ a1 then (f3_tell_j22 s3) else (if 0 ≤ a2 then (chk (inb a1 6) (nm (s3.1 3 a1.toNatClampNeg) fun y_29 => Option.bind (fJ6_bitCount_0f7a4 y_29) fun q_30 => if a2 = 0 then (if q_30 = (1 : Int32) then (chk (inb a1 6) (nm (s3.1 3 a1.toNatClampNeg) fun y_49 => Option.bind (f3_nthOf y_49 ((0 : Int32)) s3) fun q_51 => f3_tell_j58 q_51 s3)) else (f3_tell_j58 ((-1 : Int32)) s3)) else (if a2 = (1 : Int32) then (f3_tell_j81 q_30 s3) else (chk (inb a1 6) (nm (s3.1 3 a1.toNatClampNeg) fun y_74 => Option.bind (f3_nthOf y_74 ((a2 - (2 : Int32))) s3) fun q_78 => f3_tell_j81 q_78 s3))))) else (f3_tell_j22 s3))))
set_option maxHeartbeats 4000000 in
set_option maxRecDepth 100000 in
theorem m3_tell (l : Launch) (D : va_G) (ad : Nat → Nat) (cy : Nat → ClassId) (sz : Nat) (s0 s1 s2 s3 s4 s5 s6 s7 s8 s9 s10 : OS) (a1 : Int32) (a2 : Int32) (r : Int32) (h : f3_tell a1 a2 s3 = some r) : Met l yX3_tell (wsOf yX3_tell cX3_tell 4 (some .int)) (rmL 1) (va_Pc ([.ref (ad 3), .int a1, .int a2] : List Value) (PreG D cy (cellsC ad cy s0 s1 s2 s3 s4 s5 s6 s7 s8 s9 s10) sz (NC ad))) (QcI D ad 67 (cellsC ad cy s0 s1 s2 s3 s4 s5 s6 s7 s8 s9 s10) (r) sz) 0 0 (Afr ad 67 sz) := by
  refine metG (own := RX3) (by decide) rfl (Nat.le_of_ble_eq_true rfl) fstC ?_ sz
  intro p e s m below meth c ls C0 hw hl
  obtain ⟨hx, hb, hml, hown, hts, hr, hlk, hK, hN⟩ := C0
  have hl : lv_has ls 4 [(0, .ref (ad 3)), (1, .int a1), (2, .int a2)] := hl
  generalize hQ : MQ below (QcI D ad 67 (cellsC ad cy s0 s1 s2 s3 s4 s5 s6 s7 s8 s9 s10) (r) s.heap.size) ([.ref (ad 3), .int a1, .int a2] : List Value).toArray s 0 0 (Afr ad 67 s.heap.size) = Q
  obtain ⟨H, hH⟩ : ∃ H : Heap, H = s.heap := ⟨_, rfl⟩
  obtain ⟨locs, hlc⟩ : ∃ L : List Loc, L = [] := ⟨_, rfl⟩
  have hw : Wd D (cellsC ad cy s0 s1 s2 s3 s4 s5 s6 s7 s8 s9 s10) (Afr ad 67 s.heap.size) s.heap H locs := by rw [hH, hlc]; exact hw
  suffices h0 : W p l e (rmL 1) s m ([.ref (ad 3), .int a1, .int a2] : List Value).toArray below meth c H locs 0 0 Q (F0 m 0 ls []) by rw [hH, hlc] at h0; exact h0
  clear hH hlc
  unfold f3_tell at h
  have hJ_81 : ∀ (k0_j81 : Int32) (H : Heap) (locs : List Loc) (ls : Array Slot), f3_tell_j81 k0_j81 s3 = some r → Wd D (cellsC ad cy s0 s1 s2 s3 s4 s5 s6 s7 s8 s9 s10) (Afr ad 67 s.heap.size) s.heap H locs → lv_has ls 4 [] → W p l e (rmL 1) s m ([.ref (ad 3), .int a1, .int a2] : List Value).toArray below meth c H locs 0 0 Q (F0 m 81 ls [.int k0_j81]) := by
    intro k0_j81 H locs ls h hw hl
    unfold f3_tell_j81 at h
    have h := Option.some.inj h
    subst h
    rw [← hQ]
    exact retI hx hb hr hlk hw rfl dX3_tell_81
  have hJ_58 : ∀ (k0_j58 : Int32) (H : Heap) (locs : List Loc) (ls : Array Slot), f3_tell_j58 k0_j58 s3 = some r → Wd D (cellsC ad cy s0 s1 s2 s3 s4 s5 s6 s7 s8 s9 s10) (Afr ad 67 s.heap.size) s.heap H locs → lv_has ls 4 [] → W p l e (rmL 1) s m ([.ref (ad 3), .int a1, .int a2] : List Value).toArray below meth c H locs 0 0 Q (F0 m 58 ls [.int k0_j58]) := by
    intro k0_j58 H locs ls h hw hl
    unfold f3_tell_j58 at h
    have h := Option.some.inj h
    subst h
    rw [← hQ]
    exact retI hx hb hr hlk hw rfl dX3_tell_58
  have hJ_22 : ∀  (H : Heap) (locs : List Loc) (ls : Array Slot), f3_tell_j22 s3 = some r → Wd D (cellsC ad cy s0 s1 s2 s3 s4 s5 s6 s7 s8 s9 s10) (Afr ad 67 s.heap.size) s.heap H locs → lv_has ls 4 [] → W p l e (rmL 1) s m ([.ref (ad 3), .int a1, .int a2] : List Value).toArray below meth c H locs 0 0 Q (F0 m 22 ls []) := by
    intro  H locs ls h hw hl
    unfold f3_tell_j22 at h
    refine lv_iconst (v := (-1)) hx hb dX3_tell_22 (by decide) ?_
    have h := Option.some.inj h
    subst h
    rw [← hQ]
    exact retI hx hb hr hlk hw rfl dX3_tell_23
  refine lv_iload_n hx hb dX3_tell_0 rfl (lv_at hl 1 rfl) ?_
  refine lv_if_lt (tgt := 22) hx hb dX3_tell_1 (by decide) (fun c_1 => ?_) (fun c_1 => ?_)
  · have h := ite_t c_1 h
    exact hJ_22  H locs ls h hw (lv_sub hl [] rfl)
  · have h := ite_f c_1 h
    refine lv_iload_n hx hb dX3_tell_4 rfl (lv_at hl 1 rfl) ?_
    refine lv_aload_n hx hb dX3_tell_5 rfl (lv_at hl 0 rfl) ?_
    refine gX3_21 hx hb hts hown hK hw dX3_tell_6 ?_
    refine lv_icmp_ge (tgt := 22) hx hb dX3_tell_9 (by decide) (fun c_9 => ?_) (fun c_9 => ?_)
    · have h := ite_t c_9 h
      exact hJ_22  H locs ls h hw (lv_sub hl [] rfl)
    · have h := ite_f c_9 h
      refine lv_iload_n hx hb dX3_tell_12 rfl (lv_at hl 1 rfl) ?_
      refine lv_bipush (v := 6) hx hb dX3_tell_13 (by decide) ?_
      refine lv_icmp_ge (tgt := 22) hx hb dX3_tell_15 (by decide) (fun c_15 => ?_) (fun c_15 => ?_)
      · have h := ite_t c_15 h
        exact hJ_22  H locs ls h hw (lv_sub hl [] rfl)
      · have h := ite_f c_15 h
        refine lv_iload_n hx hb dX3_tell_18 rfl (lv_at hl 2 rfl) ?_
        refine lv_if_ge (tgt := 24) hx hb dX3_tell_19 (by decide) (fun c_19 => ?_) (fun c_19 => ?_)
        · have h := ite_t c_19 h
          refine lv_aload_n hx hb dX3_tell_24 rfl (lv_at hl 0 rfl) ?_
          refine gX3_18 hx hb hts hown hK hw dX3_tell_25 ?_
          refine lv_iload_n hx hb dX3_tell_28 rfl (lv_at hl 1 rfl) ?_
          obtain ⟨hi_29, h⟩ := chk_e h
          obtain ⟨y_29, e_29, h⟩ := nam_e h
          refine lC35 hx hb hK hw hi_29 e_29 dX3_tell_29 ?_
          obtain ⟨q_30, h_30, h⟩ := bnd_e h
          have pg_30 := preG (av := [.int y_29]) hK hw.1 hw.2.1 (NC_keep hN hw.2.2) NC_blind
          refine endI (mc := 0) (ms := 0) (va_runS (As := [.int y_29]) (rest := []) ⟨hx, hb, hml, hown, hts⟩ (mJ6_bitCount_0f7a4 l D ad cy H.size s0 s1 s2 s3 s4 s5 s6 s7 s8 s9 s10 y_29 q_30 h_30) (wX3_55 0 hts ⟨Nat.le_of_ble_eq_true rfl, Nat.le_of_ble_eq_true rfl⟩) pg_30 rfl rfl hl.1 rfl (lv_room (Nat.le_of_ble_eq_true rfl)) dX3_tell_30 ⟨Nat.le_refl _, Nat.le_refl _⟩) hw.2.2 (afr_in hw.2.2) (fun H locs hw => ?_)
          refine lv_istore_n (lv' := [(3, .int q_30), (0, .ref (ad 3)), (1, .int a1), (2, .int a2)]) hx hb dX3_tell_33 rfl hl (by decide) rfl (fun ls hl => ?_)
          refine lv_iload_n hx hb dX3_tell_34 rfl (lv_at hl 3 rfl) ?_
          refine lv_if_ne (tgt := 59) hx hb dX3_tell_35 (by decide) (fun c_35 => ?_) (fun c_35 => ?_)
          · have h := ite_f c_35 h
            refine lv_iload_n hx hb dX3_tell_59 rfl (lv_at hl 3 rfl) ?_
            refine lv_iconst (v := 1) hx hb dX3_tell_60 (by decide) ?_
            refine lv_icmp_ne (tgt := 68) hx hb dX3_tell_61 (by decide) (fun c_61 => ?_) (fun c_61 => ?_)
            · have h := ite_f c_61 h
              refine lv_aload_n hx hb dX3_tell_68 rfl (lv_at hl 1 rfl) ?_
              refine lv_aload_n hx hb dX3_tell_69 rfl (lv_at hl 1 rfl) ?_
              refine gX3_18 hx hb hts hown hK hw dX3_tell_70 ?_
              refine lv_iload_n hx hb dX3_tell_73 rfl (lv_at hl 2 rfl) ?_
              obtain ⟨hi_74, h⟩ := chk_e h
              obtain ⟨y_74, e_74, h⟩ := nam_e h
              refine lC35 hx hb hK hw hi_74 e_74 dX3_tell_74 ?_
              refine lv_iload_n hx hb dX3_tell_75 rfl (lv_at hl 3 rfl) ?_
              refine lv_iconst (v := 2) hx hb dX3_tell_76 (by decide) ?_
              refine lv_isub hx hb dX3_tell_77 ?_
              obtain ⟨q_78, h_78, h⟩ := bnd_e h
              have pg_78 := preG (av := [.ref (ad 3), .int y_74, .int ((a2 - (2 : Int32)))]) hK hw.1 hw.2.1 (NC_keep hN hw.2.2) NC_blind
              refine endI (mc := 0) (ms := 0) (va_runV (As := [.int y_74, .int ((a2 - (2 : Int32)))]) (rest := []) ⟨hx, hb, hml, hown, hts⟩ (m3_nthOf l D ad cy H.size s0 s1 s2 s3 s4 s5 s6 s7 s8 s9 s10 y_74 ((a2 - (2 : Int32))) q_78 h_78) (wX3_60 0 hts ⟨Nat.le_of_ble_eq_true rfl, Nat.le_of_ble_eq_true rfl⟩) ⟨pg_78.1, va_recv hK hw.1 (ci := 3) (q0 := 3) rfl eC_3, pg_78.2⟩ rfl rfl hl.1 rfl (lv_room (Nat.le_of_ble_eq_true rfl)) dX3_tell_78 ⟨Nat.le_refl _, Nat.le_refl _⟩) hw.2.2 (afr_in hw.2.2) (fun H locs hw => ?_)
              exact hJ_81 q_78 H locs ls h hw (lv_sub hl [] rfl)
            · have h := ite_t c_61 h
              refine lv_iload_n hx hb dX3_tell_64 rfl (lv_at hl 0 rfl) ?_
              refine lv_goto (tgt := 81) hx hb dX3_tell_65 (by decide) ?_
              exact hJ_81 q_30 H locs ls h hw (lv_sub hl [] rfl)
          · have h := ite_t c_35 h
            refine lv_iload_n hx hb dX3_tell_38 rfl (lv_at hl 0 rfl) ?_
            refine lv_iconst (v := 1) hx hb dX3_tell_39 (by decide) ?_
            refine lv_icmp_ne (tgt := 57) hx hb dX3_tell_40 (by decide) (fun c_40 => ?_) (fun c_40 => ?_)
            · have h := ite_f c_40 h
              refine lv_iconst (v := (-1)) hx hb dX3_tell_57 (by decide) ?_
              exact hJ_58 ((-1 : Int32)) H locs ls h hw (lv_sub hl [] rfl)
            · have h := ite_t c_40 h
              refine lv_aload_n hx hb dX3_tell_43 rfl (lv_at hl 1 rfl) ?_
              refine lv_aload_n hx hb dX3_tell_44 rfl (lv_at hl 1 rfl) ?_
              refine gX3_18 hx hb hts hown hK hw dX3_tell_45 ?_
              refine lv_iload_n hx hb dX3_tell_48 rfl (lv_at hl 2 rfl) ?_
              obtain ⟨hi_49, h⟩ := chk_e h
              obtain ⟨y_49, e_49, h⟩ := nam_e h
              refine lC35 hx hb hK hw hi_49 e_49 dX3_tell_49 ?_
              refine lv_iconst (v := 0) hx hb dX3_tell_50 (by decide) ?_
              obtain ⟨q_51, h_51, h⟩ := bnd_e h
              have pg_51 := preG (av := [.ref (ad 3), .int y_49, .int ((0 : Int32))]) hK hw.1 hw.2.1 (NC_keep hN hw.2.2) NC_blind
              refine endI (mc := 0) (ms := 0) (va_runV (As := [.int y_49, .int ((0 : Int32))]) (rest := []) ⟨hx, hb, hml, hown, hts⟩ (m3_nthOf l D ad cy H.size s0 s1 s2 s3 s4 s5 s6 s7 s8 s9 s10 y_49 ((0 : Int32)) q_51 h_51) (wX3_60 0 hts ⟨Nat.le_of_ble_eq_true rfl, Nat.le_of_ble_eq_true rfl⟩) ⟨pg_51.1, va_recv hK hw.1 (ci := 3) (q0 := 3) rfl eC_3, pg_51.2⟩ rfl rfl hl.1 rfl (lv_room (Nat.le_of_ble_eq_true rfl)) dX3_tell_51 ⟨Nat.le_refl _, Nat.le_refl _⟩) hw.2.2 (afr_in hw.2.2) (fun H locs hw => ?_)
              refine lv_goto (tgt := 58) hx hb dX3_tell_54 (by decide) ?_
              exact hJ_58 q_51 H locs ls h hw (lv_sub hl [] rfl)
        · have h := ite_f c_19 h
          exact hJ_22  H locs ls h hw (lv_sub hl [] rfl)
theorem dX0_add_0 : decode cX0_add 0 = .ok (.aload_n 0, 1) := by decide +kernel
theorem dX0_add_1 : decode cX0_add 1 = .ok (.getfield 40, 3) := by decide +kernel
theorem dX0_add_4 : decode cX0_add 4 = .ok (.istore 4, 2) := by decide +kernel
theorem dX0_add_6 : decode cX0_add 6 = .ok (.iload 4, 2) := by decide +kernel
theorem dX0_add_8 : decode cX0_add 8 = .ok (.ifCond .lt 10, 3) := by decide +kernel
theorem dX0_add_11 : decode cX0_add 11 = .ok (.iload 4, 2) := by decide +kernel
theorem dX0_add_13 : decode cX0_add 13 = .ok (.bipush 6, 2) := by decide +kernel
theorem dX0_add_15 : decode cX0_add 15 = .ok (.if_icmp .lt 5, 3) := by decide +kernel
theorem dX0_add_18 : decode cX0_add 18 = .ok (.iconst (-1), 1) := by decide +kernel
theorem dX0_add_19 : decode cX0_add 19 = .ok (.ireturn, 1) := by decide +kernel
theorem dX0_add_20 : decode cX0_add 20 = .ok (.aload_n 0, 1) := by decide +kernel
theorem dX0_add_21 : decode cX0_add 21 = .ok (.getfield 11, 3) := by decide +kernel
theorem dX0_add_24 : decode cX0_add 24 = .ok (.iload 4, 2) := by decide +kernel
theorem dX0_add_26 : decode cX0_add 26 = .ok (.iload_n 1, 1) := by decide +kernel
theorem dX0_add_27 : decode cX0_add 27 = .ok (.iastore, 1) := by decide +kernel
theorem dX0_add_28 : decode cX0_add 28 = .ok (.aload_n 0, 1) := by decide +kernel
theorem dX0_add_29 : decode cX0_add 29 = .ok (.getfield 15, 3) := by decide +kernel
theorem dX0_add_32 : decode cX0_add 32 = .ok (.iload 4, 2) := by decide +kernel
theorem dX0_add_34 : decode cX0_add 34 = .ok (.iload_n 2, 1) := by decide +kernel
theorem dX0_add_35 : decode cX0_add 35 = .ok (.iastore, 1) := by decide +kernel
theorem dX0_add_36 : decode cX0_add 36 = .ok (.aload_n 0, 1) := by decide +kernel
theorem dX0_add_37 : decode cX0_add 37 = .ok (.getfield 18, 3) := by decide +kernel
theorem dX0_add_40 : decode cX0_add 40 = .ok (.iload 4, 2) := by decide +kernel
theorem dX0_add_42 : decode cX0_add 42 = .ok (.iload_n 3, 1) := by decide +kernel
theorem dX0_add_43 : decode cX0_add 43 = .ok (.iastore, 1) := by decide +kernel
theorem dX0_add_44 : decode cX0_add 44 = .ok (.aload_n 0, 1) := by decide +kernel
theorem dX0_add_45 : decode cX0_add 45 = .ok (.dup, 1) := by decide +kernel
theorem dX0_add_46 : decode cX0_add 46 = .ok (.getfield 40, 3) := by decide +kernel
theorem dX0_add_49 : decode cX0_add 49 = .ok (.iconst 1, 1) := by decide +kernel
theorem dX0_add_50 : decode cX0_add 50 = .ok (.iadd, 1) := by decide +kernel
theorem dX0_add_51 : decode cX0_add 51 = .ok (.putfield 40, 3) := by decide +kernel
theorem dX0_add_54 : decode cX0_add 54 = .ok (.iload 4, 2) := by decide +kernel
theorem dX0_add_56 : decode cX0_add 56 = .ok (.ireturn, 1) := by decide +kernel
def f0_add_j18 (s0_j18 : OS) : Option (Int32 × OS) := some ((-1 : Int32), s0_j18)
def f0_add (a1 : Int32) (a2 : Int32) (a3 : Int32) (s0 : OS) : Option (Int32 × OS) := nm ((s0.1 0 9)) fun n_4 => if n_4 < 0 then (f0_add_j18 s0) else (if n_4 < (6 : Int32) then (chk (inb n_4 6) (nm (wI s0 1 n_4.toNatClampNeg a1) fun s0_27 => chk (inb n_4 6) (nm (wI s0_27 2 n_4.toNatClampNeg a2) fun s0_35 => chk (inb n_4 6) (nm (wI s0_35 3 n_4.toNatClampNeg a3) fun s0_43 => nm (wI s0_43 0 9 (((s0_43.1 0 9) + (1 : Int32)))) fun s0_51 => some (n_4, s0_51))))) else (f0_add_j18 s0))
set_option maxHeartbeats 4000000 in
set_option maxRecDepth 100000 in
theorem m0_add (l : Launch) (D : va_G) (ad : Nat → Nat) (cy : Nat → ClassId) (sz : Nat) (s0 s1 s2 s3 s4 s5 s6 s7 s8 s9 s10 : OS) (a1 : Int32) (a2 : Int32) (a3 : Int32) (r : Int32 × OS) (h : f0_add a1 a2 a3 s0 = some r) : Met l yX0_add (wsOf yX0_add cX0_add 5 (some .int)) (rmL 0) (va_Pc ([.ref (ad 0), .int a1, .int a2, .int a3] : List Value) (PreG D cy (cellsC ad cy s0 s1 s2 s3 s4 s5 s6 s7 s8 s9 s10) sz (NC ad))) (QcI D ad 67 (cellsC ad cy r.2 s1 s2 s3 s4 s5 s6 s7 s8 s9 s10) (r.1) sz) 0 0 (Afr ad 67 sz) := by
  refine metG (own := RX0) (by decide) rfl (Nat.le_of_ble_eq_true rfl) fstC ?_ sz
  intro p e s m below meth c ls C0 hw hl
  obtain ⟨hx, hb, hml, hown, hts, hr, hlk, hK, hN⟩ := C0
  have hl : lv_has ls 5 [(0, .ref (ad 0)), (1, .int a1), (2, .int a2), (3, .int a3)] := hl
  generalize hQ : MQ below (QcI D ad 67 (cellsC ad cy r.2 s1 s2 s3 s4 s5 s6 s7 s8 s9 s10) (r.1) s.heap.size) ([.ref (ad 0), .int a1, .int a2, .int a3] : List Value).toArray s 0 0 (Afr ad 67 s.heap.size) = Q
  obtain ⟨H, hH⟩ : ∃ H : Heap, H = s.heap := ⟨_, rfl⟩
  obtain ⟨locs, hlc⟩ : ∃ L : List Loc, L = [] := ⟨_, rfl⟩
  have hw : Wd D (cellsC ad cy s0 s1 s2 s3 s4 s5 s6 s7 s8 s9 s10) (Afr ad 67 s.heap.size) s.heap H locs := by rw [hH, hlc]; exact hw
  suffices h0 : W p l e (rmL 0) s m ([.ref (ad 0), .int a1, .int a2, .int a3] : List Value).toArray below meth c H locs 0 0 Q (F0 m 0 ls []) by rw [hH, hlc] at h0; exact h0
  clear hH hlc
  unfold f0_add at h
  have hJ_18 : ∀ (s0_j18 : OS) (H : Heap) (locs : List Loc) (ls : Array Slot), f0_add_j18 s0_j18 = some r → Wd D (cellsC ad cy s0_j18 s1 s2 s3 s4 s5 s6 s7 s8 s9 s10) (Afr ad 67 s.heap.size) s.heap H locs → lv_has ls 5 [] → W p l e (rmL 0) s m ([.ref (ad 0), .int a1, .int a2, .int a3] : List Value).toArray below meth c H locs 0 0 Q (F0 m 18 ls []) := by
    intro s0_j18 H locs ls h hw hl
    unfold f0_add_j18 at h
    refine lv_iconst (v := (-1)) hx hb dX0_add_18 (by decide) ?_
    have h := Option.some.inj h
    subst h
    rw [← hQ]
    exact retI hx hb hr hlk hw rfl dX0_add_19
  refine lv_aload_n hx hb dX0_add_0 rfl (lv_at hl 0 rfl) ?_
  refine gX0_40 hx hb hts hown hK hw dX0_add_1 ?_
  obtain ⟨n_4, e_4, h⟩ := nam_e h
  refine topI e_4 ?_
  refine lv_istore (lv' := [(4, .int n_4), (0, .ref (ad 0)), (1, .int a1), (2, .int a2), (3, .int a3)]) hx hb dX0_add_4 hl (by decide) rfl (fun ls hl => ?_)
  refine lv_iload hx hb dX0_add_6 (lv_at hl 0 rfl) ?_
  refine lv_if_lt (tgt := 18) hx hb dX0_add_8 (by decide) (fun c_8 => ?_) (fun c_8 => ?_)
  · have h := ite_t c_8 h
    exact hJ_18 s0 H locs ls h hw (lv_sub hl [] rfl)
  · have h := ite_f c_8 h
    refine lv_iload hx hb dX0_add_11 (lv_at hl 0 rfl) ?_
    refine lv_bipush (v := 6) hx hb dX0_add_13 (by decide) ?_
    refine lv_icmp_lt (tgt := 20) hx hb dX0_add_15 (by decide) (fun c_15 => ?_) (fun c_15 => ?_)
    · have h := ite_t c_15 h
      refine lv_aload_n hx hb dX0_add_20 rfl (lv_at hl 1 rfl) ?_
      refine gX0_11 hx hb hts hown hK hw dX0_add_21 ?_
      refine lv_iload hx hb dX0_add_24 (lv_at hl 0 rfl) ?_
      refine lv_iload_n hx hb dX0_add_26 rfl (lv_at hl 2 rfl) ?_
      obtain ⟨hi_27, h⟩ := chk_e h
      obtain ⟨s0_27, e_27, h⟩ := nam_e h
      refine aC11 hx hb hK hw hi_27 e_27 dX0_add_27 (fun H locs hw => ?_)
      refine lv_aload_n hx hb dX0_add_28 rfl (lv_at hl 1 rfl) ?_
      refine gX0_15 hx hb hts hown hK hw dX0_add_29 ?_
      refine lv_iload hx hb dX0_add_32 (lv_at hl 0 rfl) ?_
      refine lv_iload_n hx hb dX0_add_34 rfl (lv_at hl 3 rfl) ?_
      obtain ⟨hi_35, h⟩ := chk_e h
      obtain ⟨s0_35, e_35, h⟩ := nam_e h
      refine aC12 hx hb hK hw hi_35 e_35 dX0_add_35 (fun H locs hw => ?_)
      refine lv_aload_n hx hb dX0_add_36 rfl (lv_at hl 1 rfl) ?_
      refine gX0_18 hx hb hts hown hK hw dX0_add_37 ?_
      refine lv_iload hx hb dX0_add_40 (lv_at hl 0 rfl) ?_
      refine lv_iload_n hx hb dX0_add_42 rfl (lv_at hl 4 rfl) ?_
      obtain ⟨hi_43, h⟩ := chk_e h
      obtain ⟨s0_43, e_43, h⟩ := nam_e h
      refine aC13 hx hb hK hw hi_43 e_43 dX0_add_43 (fun H locs hw => ?_)
      refine lv_aload_n hx hb dX0_add_44 rfl (lv_at hl 1 rfl) ?_
      refine lv_dup hx hb dX0_add_45 rfl ?_
      refine gX0_40 hx hb hts hown hK hw dX0_add_46 ?_
      refine lv_iconst (v := 1) hx hb dX0_add_49 (by decide) ?_
      refine lv_iadd hx hb dX0_add_50 ?_
      obtain ⟨s0_51, e_51, h⟩ := nam_e h
      refine pX0_40 hx hb hts hown hK hw e_51 dX0_add_51 (fun H locs hw => ?_)
      refine lv_iload hx hb dX0_add_54 (lv_at hl 0 rfl) ?_
      have h := Option.some.inj h
      subst h
      rw [← hQ]
      exact retI hx hb hr hlk hw rfl dX0_add_56
    · have h := ite_f c_15 h
      exact hJ_18 s0 H locs ls h hw (lv_sub hl [] rfl)
theorem dX0_addToStock_0 : decode cX0_addToStock 0 = .ok (.aload_n 0, 1) := by decide +kernel
theorem dX0_addToStock_1 : decode cX0_addToStock 1 = .ok (.getfield 44, 3) := by decide +kernel
theorem dX0_addToStock_4 : decode cX0_addToStock 4 = .ok (.ifCond .lt 41, 3) := by decide +kernel
theorem dX0_addToStock_7 : decode cX0_addToStock 7 = .ok (.aload_n 0, 1) := by decide +kernel
theorem dX0_addToStock_8 : decode cX0_addToStock 8 = .ok (.getfield 44, 3) := by decide +kernel
theorem dX0_addToStock_11 : decode cX0_addToStock 11 = .ok (.iconst 4, 1) := by decide +kernel
theorem dX0_addToStock_12 : decode cX0_addToStock 12 = .ok (.if_icmp .ge 33, 3) := by decide +kernel
theorem dX0_addToStock_15 : decode cX0_addToStock 15 = .ok (.aload_n 0, 1) := by decide +kernel
theorem dX0_addToStock_16 : decode cX0_addToStock 16 = .ok (.getfield 21, 3) := by decide +kernel
theorem dX0_addToStock_19 : decode cX0_addToStock 19 = .ok (.aload_n 0, 1) := by decide +kernel
theorem dX0_addToStock_20 : decode cX0_addToStock 20 = .ok (.getfield 44, 3) := by decide +kernel
theorem dX0_addToStock_23 : decode cX0_addToStock 23 = .ok (.iload_n 1, 1) := by decide +kernel
theorem dX0_addToStock_24 : decode cX0_addToStock 24 = .ok (.iastore, 1) := by decide +kernel
theorem dX0_addToStock_25 : decode cX0_addToStock 25 = .ok (.aload_n 0, 1) := by decide +kernel
theorem dX0_addToStock_26 : decode cX0_addToStock 26 = .ok (.getfield 24, 3) := by decide +kernel
theorem dX0_addToStock_29 : decode cX0_addToStock 29 = .ok (.aload_n 0, 1) := by decide +kernel
theorem dX0_addToStock_30 : decode cX0_addToStock 30 = .ok (.getfield 44, 3) := by decide +kernel
theorem dX0_addToStock_33 : decode cX0_addToStock 33 = .ok (.iload_n 2, 1) := by decide +kernel
theorem dX0_addToStock_34 : decode cX0_addToStock 34 = .ok (.iastore, 1) := by decide +kernel
theorem dX0_addToStock_35 : decode cX0_addToStock 35 = .ok (.aload_n 0, 1) := by decide +kernel
theorem dX0_addToStock_36 : decode cX0_addToStock 36 = .ok (.dup, 1) := by decide +kernel
theorem dX0_addToStock_37 : decode cX0_addToStock 37 = .ok (.getfield 44, 3) := by decide +kernel
theorem dX0_addToStock_40 : decode cX0_addToStock 40 = .ok (.iconst 1, 1) := by decide +kernel
theorem dX0_addToStock_41 : decode cX0_addToStock 41 = .ok (.iadd, 1) := by decide +kernel
theorem dX0_addToStock_42 : decode cX0_addToStock 42 = .ok (.putfield 44, 3) := by decide +kernel
theorem dX0_addToStock_45 : decode cX0_addToStock 45 = .ok (.return_, 1) := by decide +kernel
def f0_addToStock_j45 (s0_j45 : OS) : Option (OS) := some s0_j45
def f0_addToStock (a1 : Int32) (a2 : Int32) (s0 : OS) : Option (OS) := if (s0.1 0 10) < 0 then (f0_addToStock_j45 s0) else (if (4 : Int32) ≤ (s0.1 0 10) then (f0_addToStock_j45 s0) else (chk (inb ((s0.1 0 10)) 4) (nm (wI s0 4 ((s0.1 0 10)).toNatClampNeg a1) fun s0_24 => chk (inb ((s0_24.1 0 10)) 4) (nm (wI s0_24 5 ((s0_24.1 0 10)).toNatClampNeg a2) fun s0_34 => nm (wI s0_34 0 10 (((s0_34.1 0 10) + (1 : Int32)))) fun s0_42 => f0_addToStock_j45 s0_42))))
set_option maxHeartbeats 4000000 in
set_option maxRecDepth 100000 in
theorem m0_addToStock (l : Launch) (D : va_G) (ad : Nat → Nat) (cy : Nat → ClassId) (sz : Nat) (s0 s1 s2 s3 s4 s5 s6 s7 s8 s9 s10 : OS) (a1 : Int32) (a2 : Int32) (r : OS) (h : f0_addToStock a1 a2 s0 = some r) : Met l yX0_addToStock (wsOf yX0_addToStock cX0_addToStock 3 none) (rmL 0) (va_Pc ([.ref (ad 0), .int a1, .int a2] : List Value) (PreG D cy (cellsC ad cy s0 s1 s2 s3 s4 s5 s6 s7 s8 s9 s10) sz (NC ad))) (QcV D ad 67 (cellsC ad cy r s1 s2 s3 s4 s5 s6 s7 s8 s9 s10) sz) 0 0 (Afr ad 67 sz) := by
  refine metG (own := RX0) (by decide) rfl (Nat.le_of_ble_eq_true rfl) fstC ?_ sz
  intro p e s m below meth c ls C0 hw hl
  obtain ⟨hx, hb, hml, hown, hts, hr, hlk, hK, hN⟩ := C0
  have hl : lv_has ls 3 [(0, .ref (ad 0)), (1, .int a1), (2, .int a2)] := hl
  generalize hQ : MQ below (QcV D ad 67 (cellsC ad cy r s1 s2 s3 s4 s5 s6 s7 s8 s9 s10) s.heap.size) ([.ref (ad 0), .int a1, .int a2] : List Value).toArray s 0 0 (Afr ad 67 s.heap.size) = Q
  obtain ⟨H, hH⟩ : ∃ H : Heap, H = s.heap := ⟨_, rfl⟩
  obtain ⟨locs, hlc⟩ : ∃ L : List Loc, L = [] := ⟨_, rfl⟩
  have hw : Wd D (cellsC ad cy s0 s1 s2 s3 s4 s5 s6 s7 s8 s9 s10) (Afr ad 67 s.heap.size) s.heap H locs := by rw [hH, hlc]; exact hw
  suffices h0 : W p l e (rmL 0) s m ([.ref (ad 0), .int a1, .int a2] : List Value).toArray below meth c H locs 0 0 Q (F0 m 0 ls []) by rw [hH, hlc] at h0; exact h0
  clear hH hlc
  unfold f0_addToStock at h
  have hJ_45 : ∀ (s0_j45 : OS) (H : Heap) (locs : List Loc) (ls : Array Slot), f0_addToStock_j45 s0_j45 = some r → Wd D (cellsC ad cy s0_j45 s1 s2 s3 s4 s5 s6 s7 s8 s9 s10) (Afr ad 67 s.heap.size) s.heap H locs → lv_has ls 3 [] → W p l e (rmL 0) s m ([.ref (ad 0), .int a1, .int a2] : List Value).toArray below meth c H locs 0 0 Q (F0 m 45 ls []) := by
    intro s0_j45 H locs ls h hw hl
    unfold f0_addToStock_j45 at h
    have h := Option.some.inj h
    subst h
    rw [← hQ]
    exact retV hx hb hr hlk hw dX0_addToStock_45
  refine lv_aload_n hx hb dX0_addToStock_0 rfl (lv_at hl 0 rfl) ?_
  refine gX0_44 hx hb hts hown hK hw dX0_addToStock_1 ?_
  refine lv_if_lt (tgt := 45) hx hb dX0_addToStock_4 (by decide) (fun c_4 => ?_) (fun c_4 => ?_)
  · have h := ite_t c_4 h
    exact hJ_45 s0 H locs ls h hw (lv_sub hl [] rfl)
  · have h := ite_f c_4 h
    refine lv_aload_n hx hb dX0_addToStock_7 rfl (lv_at hl 0 rfl) ?_
    refine gX0_44 hx hb hts hown hK hw dX0_addToStock_8 ?_
    refine lv_iconst (v := 4) hx hb dX0_addToStock_11 (by decide) ?_
    refine lv_icmp_ge (tgt := 45) hx hb dX0_addToStock_12 (by decide) (fun c_12 => ?_) (fun c_12 => ?_)
    · have h := ite_t c_12 h
      exact hJ_45 s0 H locs ls h hw (lv_sub hl [] rfl)
    · have h := ite_f c_12 h
      refine lv_aload_n hx hb dX0_addToStock_15 rfl (lv_at hl 0 rfl) ?_
      refine gX0_21 hx hb hts hown hK hw dX0_addToStock_16 ?_
      refine lv_aload_n hx hb dX0_addToStock_19 rfl (lv_at hl 0 rfl) ?_
      refine gX0_44 hx hb hts hown hK hw dX0_addToStock_20 ?_
      refine lv_iload_n hx hb dX0_addToStock_23 rfl (lv_at hl 1 rfl) ?_
      obtain ⟨hi_24, h⟩ := chk_e h
      obtain ⟨s0_24, e_24, h⟩ := nam_e h
      refine aC14 hx hb hK hw hi_24 e_24 dX0_addToStock_24 (fun H locs hw => ?_)
      refine lv_aload_n hx hb dX0_addToStock_25 rfl (lv_at hl 0 rfl) ?_
      refine gX0_24 hx hb hts hown hK hw dX0_addToStock_26 ?_
      refine lv_aload_n hx hb dX0_addToStock_29 rfl (lv_at hl 0 rfl) ?_
      refine gX0_44 hx hb hts hown hK hw dX0_addToStock_30 ?_
      refine lv_iload_n hx hb dX0_addToStock_33 rfl (lv_at hl 2 rfl) ?_
      obtain ⟨hi_34, h⟩ := chk_e h
      obtain ⟨s0_34, e_34, h⟩ := nam_e h
      refine aC15 hx hb hK hw hi_34 e_34 dX0_addToStock_34 (fun H locs hw => ?_)
      refine lv_aload_n hx hb dX0_addToStock_35 rfl (lv_at hl 0 rfl) ?_
      refine lv_dup hx hb dX0_addToStock_36 rfl ?_
      refine gX0_44 hx hb hts hown hK hw dX0_addToStock_37 ?_
      refine lv_iconst (v := 1) hx hb dX0_addToStock_40 (by decide) ?_
      refine lv_iadd hx hb dX0_addToStock_41 ?_
      obtain ⟨s0_42, e_42, h⟩ := nam_e h
      refine pX0_44 hx hb hts hown hK hw e_42 dX0_addToStock_42 (fun H locs hw => ?_)
      exact hJ_45 s0_42 H locs ls h hw (lv_sub hl [] rfl)
theorem dX0_has_0 : decode cX0_has 0 = .ok (.iload_n 1, 1) := by decide +kernel
theorem dX0_has_1 : decode cX0_has 1 = .ok (.ifCond .lt 21, 3) := by decide +kernel
theorem dX0_has_4 : decode cX0_has 4 = .ok (.iload_n 1, 1) := by decide +kernel
theorem dX0_has_5 : decode cX0_has 5 = .ok (.aload_n 0, 1) := by decide +kernel
theorem dX0_has_6 : decode cX0_has 6 = .ok (.getfield 40, 3) := by decide +kernel
theorem dX0_has_9 : decode cX0_has 9 = .ok (.if_icmp .ge 13, 3) := by decide +kernel
theorem dX0_has_12 : decode cX0_has 12 = .ok (.iload_n 1, 1) := by decide +kernel
theorem dX0_has_13 : decode cX0_has 13 = .ok (.bipush 6, 2) := by decide +kernel
theorem dX0_has_15 : decode cX0_has 15 = .ok (.if_icmp .ge 7, 3) := by decide +kernel
theorem dX0_has_18 : decode cX0_has 18 = .ok (.iconst 1, 1) := by decide +kernel
theorem dX0_has_19 : decode cX0_has 19 = .ok (.goto 4, 3) := by decide +kernel
theorem dX0_has_22 : decode cX0_has 22 = .ok (.iconst 0, 1) := by decide +kernel
theorem dX0_has_23 : decode cX0_has 23 = .ok (.ireturn, 1) := by decide +kernel
def f0_has_j23 (k0_j23 : Int32) (s0_j23 : OS) : Option (Int32) := chk (isB k0_j23) (some k0_j23)
def f0_has_j22 (s0_j22 : OS) : Option (Int32) := f0_has_j23 ((0 : Int32)) s0_j22
def f0_has (a1 : Int32) (s0 : OS) : Option (Int32) := if a1 < 0 then (f0_has_j22 s0) else (if (s0.1 0 9) ≤ a1 then (f0_has_j22 s0) else (if (6 : Int32) ≤ a1 then (f0_has_j22 s0) else (f0_has_j23 ((1 : Int32)) s0)))
set_option maxHeartbeats 4000000 in
set_option maxRecDepth 100000 in
theorem m0_has (l : Launch) (D : va_G) (ad : Nat → Nat) (cy : Nat → ClassId) (sz : Nat) (s0 s1 s2 s3 s4 s5 s6 s7 s8 s9 s10 : OS) (a1 : Int32) (r : Int32) (h : f0_has a1 s0 = some r) : Met l yX0_has (wsOf yX0_has cX0_has 2 (some .boolean)) (rmL 0) (va_Pc ([.ref (ad 0), .int a1] : List Value) (PreG D cy (cellsC ad cy s0 s1 s2 s3 s4 s5 s6 s7 s8 s9 s10) sz (NC ad))) (QcI D ad 67 (cellsC ad cy s0 s1 s2 s3 s4 s5 s6 s7 s8 s9 s10) (r) sz) 0 0 (Afr ad 67 sz) := by
  refine metG (own := RX0) (by decide) rfl (Nat.le_of_ble_eq_true rfl) fstC ?_ sz
  intro p e s m below meth c ls C0 hw hl
  obtain ⟨hx, hb, hml, hown, hts, hr, hlk, hK, hN⟩ := C0
  have hl : lv_has ls 2 [(0, .ref (ad 0)), (1, .int a1)] := hl
  generalize hQ : MQ below (QcI D ad 67 (cellsC ad cy s0 s1 s2 s3 s4 s5 s6 s7 s8 s9 s10) (r) s.heap.size) ([.ref (ad 0), .int a1] : List Value).toArray s 0 0 (Afr ad 67 s.heap.size) = Q
  obtain ⟨H, hH⟩ : ∃ H : Heap, H = s.heap := ⟨_, rfl⟩
  obtain ⟨locs, hlc⟩ : ∃ L : List Loc, L = [] := ⟨_, rfl⟩
  have hw : Wd D (cellsC ad cy s0 s1 s2 s3 s4 s5 s6 s7 s8 s9 s10) (Afr ad 67 s.heap.size) s.heap H locs := by rw [hH, hlc]; exact hw
  suffices h0 : W p l e (rmL 0) s m ([.ref (ad 0), .int a1] : List Value).toArray below meth c H locs 0 0 Q (F0 m 0 ls []) by rw [hH, hlc] at h0; exact h0
  clear hH hlc
  unfold f0_has at h
  have hJ_23 : ∀ (k0_j23 : Int32) (H : Heap) (locs : List Loc) (ls : Array Slot), f0_has_j23 k0_j23 s0 = some r → Wd D (cellsC ad cy s0 s1 s2 s3 s4 s5 s6 s7 s8 s9 s10) (Afr ad 67 s.heap.size) s.heap H locs → lv_has ls 2 [] → W p l e (rmL 0) s m ([.ref (ad 0), .int a1] : List Value).toArray below meth c H locs 0 0 Q (F0 m 23 ls [.int k0_j23]) := by
    intro k0_j23 H locs ls h hw hl
    unfold f0_has_j23 at h
    obtain ⟨hz_23, h⟩ := chk_e h
    have h := Option.some.inj h
    subst h
    rw [← hQ]
    exact retI hx hb hr hlk hw (narB hz_23) dX0_has_23
  have hJ_22 : ∀  (H : Heap) (locs : List Loc) (ls : Array Slot), f0_has_j22 s0 = some r → Wd D (cellsC ad cy s0 s1 s2 s3 s4 s5 s6 s7 s8 s9 s10) (Afr ad 67 s.heap.size) s.heap H locs → lv_has ls 2 [] → W p l e (rmL 0) s m ([.ref (ad 0), .int a1] : List Value).toArray below meth c H locs 0 0 Q (F0 m 22 ls []) := by
    intro  H locs ls h hw hl
    unfold f0_has_j22 at h
    refine lv_iconst (v := 0) hx hb dX0_has_22 (by decide) ?_
    exact hJ_23 ((0 : Int32)) H locs ls h hw (lv_sub hl [] rfl)
  refine lv_iload_n hx hb dX0_has_0 rfl (lv_at hl 1 rfl) ?_
  refine lv_if_lt (tgt := 22) hx hb dX0_has_1 (by decide) (fun c_1 => ?_) (fun c_1 => ?_)
  · have h := ite_t c_1 h
    exact hJ_22  H locs ls h hw (lv_sub hl [] rfl)
  · have h := ite_f c_1 h
    refine lv_iload_n hx hb dX0_has_4 rfl (lv_at hl 1 rfl) ?_
    refine lv_aload_n hx hb dX0_has_5 rfl (lv_at hl 0 rfl) ?_
    refine gX0_40 hx hb hts hown hK hw dX0_has_6 ?_
    refine lv_icmp_ge (tgt := 22) hx hb dX0_has_9 (by decide) (fun c_9 => ?_) (fun c_9 => ?_)
    · have h := ite_t c_9 h
      exact hJ_22  H locs ls h hw (lv_sub hl [] rfl)
    · have h := ite_f c_9 h
      refine lv_iload_n hx hb dX0_has_12 rfl (lv_at hl 1 rfl) ?_
      refine lv_bipush (v := 6) hx hb dX0_has_13 (by decide) ?_
      refine lv_icmp_ge (tgt := 22) hx hb dX0_has_15 (by decide) (fun c_15 => ?_) (fun c_15 => ?_)
      · have h := ite_t c_15 h
        exact hJ_22  H locs ls h hw (lv_sub hl [] rfl)
      · have h := ite_f c_15 h
        refine lv_iconst (v := 1) hx hb dX0_has_18 (by decide) ?_
        refine lv_goto (tgt := 23) hx hb dX0_has_19 (by decide) ?_
        exact hJ_23 ((1 : Int32)) H locs ls h hw (lv_sub hl [] rfl)
theorem dX0_canServe_0 : decode cX0_canServe 0 = .ok (.iload_n 2, 1) := by decide +kernel
theorem dX0_canServe_1 : decode cX0_canServe 1 = .ok (.iconst 4, 1) := by decide +kernel
theorem dX0_canServe_2 : decode cX0_canServe 2 = .ok (.if_icmp .ne 5, 3) := by decide +kernel
theorem dX0_canServe_5 : decode cX0_canServe 5 = .ok (.iconst 1, 1) := by decide +kernel
theorem dX0_canServe_6 : decode cX0_canServe 6 = .ok (.ireturn, 1) := by decide +kernel
theorem dX0_canServe_7 : decode cX0_canServe 7 = .ok (.aload_n 0, 1) := by decide +kernel
theorem dX0_canServe_8 : decode cX0_canServe 8 = .ok (.iload_n 1, 1) := by decide +kernel
theorem dX0_canServe_9 : decode cX0_canServe 9 = .ok (.invokevirtual 75, 3) := by decide +kernel
theorem dX0_canServe_12 : decode cX0_canServe 12 = .ok (.ifCond .eq 20, 3) := by decide +kernel
theorem dX0_canServe_15 : decode cX0_canServe 15 = .ok (.iload_n 2, 1) := by decide +kernel
theorem dX0_canServe_16 : decode cX0_canServe 16 = .ok (.ifCond .lt 16, 3) := by decide +kernel
theorem dX0_canServe_19 : decode cX0_canServe 19 = .ok (.iload_n 2, 1) := by decide +kernel
theorem dX0_canServe_20 : decode cX0_canServe 20 = .ok (.aload_n 0, 1) := by decide +kernel
theorem dX0_canServe_21 : decode cX0_canServe 21 = .ok (.getfield 44, 3) := by decide +kernel
theorem dX0_canServe_24 : decode cX0_canServe 24 = .ok (.if_icmp .ge 8, 3) := by decide +kernel
theorem dX0_canServe_27 : decode cX0_canServe 27 = .ok (.iload_n 2, 1) := by decide +kernel
theorem dX0_canServe_28 : decode cX0_canServe 28 = .ok (.iconst 4, 1) := by decide +kernel
theorem dX0_canServe_29 : decode cX0_canServe 29 = .ok (.if_icmp .lt 5, 3) := by decide +kernel
theorem dX0_canServe_32 : decode cX0_canServe 32 = .ok (.iconst 0, 1) := by decide +kernel
theorem dX0_canServe_33 : decode cX0_canServe 33 = .ok (.ireturn, 1) := by decide +kernel
theorem dX0_canServe_34 : decode cX0_canServe 34 = .ok (.aload_n 0, 1) := by decide +kernel
theorem dX0_canServe_35 : decode cX0_canServe 35 = .ok (.getfield 36, 3) := by decide +kernel
theorem dX0_canServe_38 : decode cX0_canServe 38 = .ok (.iload_n 2, 1) := by decide +kernel
theorem dX0_canServe_39 : decode cX0_canServe 39 = .ok (.laload, 1) := by decide +kernel
theorem dX0_canServe_40 : decode cX0_canServe 40 = .ok (.aload_n 0, 1) := by decide +kernel
theorem dX0_canServe_41 : decode cX0_canServe 41 = .ok (.getfield 11, 3) := by decide +kernel
theorem dX0_canServe_44 : decode cX0_canServe 44 = .ok (.iload_n 1, 1) := by decide +kernel
theorem dX0_canServe_45 : decode cX0_canServe 45 = .ok (.iaload, 1) := by decide +kernel
theorem dX0_canServe_46 : decode cX0_canServe 46 = .ok (.i2l, 1) := by decide +kernel
theorem dX0_canServe_47 : decode cX0_canServe 47 = .ok (.ladd, 1) := by decide +kernel
theorem dX0_canServe_48 : decode cX0_canServe 48 = .ok (.aload_n 0, 1) := by decide +kernel
theorem dX0_canServe_49 : decode cX0_canServe 49 = .ok (.getfield 33, 3) := by decide +kernel
theorem dX0_canServe_52 : decode cX0_canServe 52 = .ok (.iload_n 2, 1) := by decide +kernel
theorem dX0_canServe_53 : decode cX0_canServe 53 = .ok (.iaload, 1) := by decide +kernel
theorem dX0_canServe_54 : decode cX0_canServe 54 = .ok (.i2l, 1) := by decide +kernel
theorem dX0_canServe_55 : decode cX0_canServe 55 = .ok (.aload_n 0, 1) := by decide +kernel
theorem dX0_canServe_56 : decode cX0_canServe 56 = .ok (.getfield 47, 3) := by decide +kernel
theorem dX0_canServe_59 : decode cX0_canServe 59 = .ok (.i2l, 1) := by decide +kernel
theorem dX0_canServe_60 : decode cX0_canServe 60 = .ok (.lmul, 1) := by decide +kernel
theorem dX0_canServe_61 : decode cX0_canServe 61 = .ok (.ladd, 1) := by decide +kernel
theorem dX0_canServe_62 : decode cX0_canServe 62 = .ok (.lstore_n 3, 1) := by decide +kernel
theorem dX0_canServe_63 : decode cX0_canServe 63 = .ok (.aload_n 0, 1) := by decide +kernel
theorem dX0_canServe_64 : decode cX0_canServe 64 = .ok (.getfield 24, 3) := by decide +kernel
theorem dX0_canServe_67 : decode cX0_canServe 67 = .ok (.iload_n 2, 1) := by decide +kernel
theorem dX0_canServe_68 : decode cX0_canServe 68 = .ok (.iaload, 1) := by decide +kernel
theorem dX0_canServe_69 : decode cX0_canServe 69 = .ok (.aload_n 0, 1) := by decide +kernel
theorem dX0_canServe_70 : decode cX0_canServe 70 = .ok (.getfield 18, 3) := by decide +kernel
theorem dX0_canServe_73 : decode cX0_canServe 73 = .ok (.iload_n 1, 1) := by decide +kernel
theorem dX0_canServe_74 : decode cX0_canServe 74 = .ok (.iaload, 1) := by decide +kernel
theorem dX0_canServe_75 : decode cX0_canServe 75 = .ok (.iand, 1) := by decide +kernel
theorem dX0_canServe_76 : decode cX0_canServe 76 = .ok (.ifCond .ne 19, 3) := by decide +kernel
theorem dX0_canServe_79 : decode cX0_canServe 79 = .ok (.lload_n 3, 1) := by decide +kernel
theorem dX0_canServe_80 : decode cX0_canServe 80 = .ok (.aload_n 0, 1) := by decide +kernel
theorem dX0_canServe_81 : decode cX0_canServe 81 = .ok (.getfield 21, 3) := by decide +kernel
theorem dX0_canServe_84 : decode cX0_canServe 84 = .ok (.iload_n 2, 1) := by decide +kernel
theorem dX0_canServe_85 : decode cX0_canServe 85 = .ok (.iaload, 1) := by decide +kernel
theorem dX0_canServe_86 : decode cX0_canServe 86 = .ok (.i2l, 1) := by decide +kernel
theorem dX0_canServe_87 : decode cX0_canServe 87 = .ok (.lcmp, 1) := by decide +kernel
theorem dX0_canServe_88 : decode cX0_canServe 88 = .ok (.ifCond .gt 7, 3) := by decide +kernel
theorem dX0_canServe_91 : decode cX0_canServe 91 = .ok (.iconst 1, 1) := by decide +kernel
theorem dX0_canServe_92 : decode cX0_canServe 92 = .ok (.goto 4, 3) := by decide +kernel
theorem dX0_canServe_95 : decode cX0_canServe 95 = .ok (.iconst 0, 1) := by decide +kernel
theorem dX0_canServe_96 : decode cX0_canServe 96 = .ok (.ireturn, 1) := by decide +kernel
def f0_canServe_j96 (k0_j96 : Int32) (s0_j96 : OS) : Option (Int32) := chk (isB k0_j96) (some k0_j96)
def f0_canServe_j95 (s0_j95 : OS) : Option (Int32) := f0_canServe_j96 ((0 : Int32)) s0_j95
def f0_canServe_j32 (s0_j32 : OS) : Option (Int32) := some ((0 : Int32))
def f0_canServe (a1 : Int32) (a2 : Int32) (s0 : OS) : Option (Int32) := if a2 = (4 : Int32) then (some ((1 : Int32))) else (Option.bind (f0_has a1 s0) fun q_9 => if q_9 = 0 then (f0_canServe_j32 s0) else (if a2 < 0 then (f0_canServe_j32 s0) else (if (s0.1 0 10) ≤ a2 then (f0_canServe_j32 s0) else (if a2 < (4 : Int32) then (chk (inb a2 4) (nm (s0.2 9 a2.toNatClampNeg) fun y_39 => chk (inb a1 6) (nm (s0.1 1 a1.toNatClampNeg) fun y_45 => chk (inb a2 4) (nm (s0.1 8 a2.toNatClampNeg) fun y_53 => nm (((y_39 + (y_45).toInt64) + ((y_53).toInt64 * ((s0.1 0 11)).toInt64))) fun n_62 => chk (inb a2 4) (nm (s0.1 5 a2.toNatClampNeg) fun y_68 => chk (inb a1 6) (nm (s0.1 3 a1.toNatClampNeg) fun y_74 => if (y_68 &&& y_74) = 0 then (chk (inb a2 4) (nm (s0.1 4 a2.toNatClampNeg) fun y_85 => if 0 < (lg_cmp n_62 ((y_85).toInt64)) then (f0_canServe_j95 s0) else (f0_canServe_j96 ((1 : Int32)) s0))) else (f0_canServe_j95 s0))))))) else (f0_canServe_j32 s0)))))
set_option maxHeartbeats 4000000 in
set_option maxRecDepth 100000 in
theorem m0_canServe (l : Launch) (D : va_G) (ad : Nat → Nat) (cy : Nat → ClassId) (sz : Nat) (s0 s1 s2 s3 s4 s5 s6 s7 s8 s9 s10 : OS) (a1 : Int32) (a2 : Int32) (r : Int32) (h : f0_canServe a1 a2 s0 = some r) : Met l yX0_canServe (wsOf yX0_canServe cX0_canServe 5 (some .boolean)) (rmL 1) (va_Pc ([.ref (ad 0), .int a1, .int a2] : List Value) (PreG D cy (cellsC ad cy s0 s1 s2 s3 s4 s5 s6 s7 s8 s9 s10) sz (NC ad))) (QcI D ad 67 (cellsC ad cy s0 s1 s2 s3 s4 s5 s6 s7 s8 s9 s10) (r) sz) 0 0 (Afr ad 67 sz) := by
  refine metG (own := RX0) (by decide) rfl (Nat.le_of_ble_eq_true rfl) fstC ?_ sz
  intro p e s m below meth c ls C0 hw hl
  obtain ⟨hx, hb, hml, hown, hts, hr, hlk, hK, hN⟩ := C0
  have hl : lv_has ls 5 [(0, .ref (ad 0)), (1, .int a1), (2, .int a2)] := hl
  generalize hQ : MQ below (QcI D ad 67 (cellsC ad cy s0 s1 s2 s3 s4 s5 s6 s7 s8 s9 s10) (r) s.heap.size) ([.ref (ad 0), .int a1, .int a2] : List Value).toArray s 0 0 (Afr ad 67 s.heap.size) = Q
  obtain ⟨H, hH⟩ : ∃ H : Heap, H = s.heap := ⟨_, rfl⟩
  obtain ⟨locs, hlc⟩ : ∃ L : List Loc, L = [] := ⟨_, rfl⟩
  have hw : Wd D (cellsC ad cy s0 s1 s2 s3 s4 s5 s6 s7 s8 s9 s10) (Afr ad 67 s.heap.size) s.heap H locs := by rw [hH, hlc]; exact hw
  suffices h0 : W p l e (rmL 1) s m ([.ref (ad 0), .int a1, .int a2] : List Value).toArray below meth c H locs 0 0 Q (F0 m 0 ls []) by rw [hH, hlc] at h0; exact h0
  clear hH hlc
  unfold f0_canServe at h
  have hJ_96 : ∀ (k0_j96 : Int32) (H : Heap) (locs : List Loc) (ls : Array Slot), f0_canServe_j96 k0_j96 s0 = some r → Wd D (cellsC ad cy s0 s1 s2 s3 s4 s5 s6 s7 s8 s9 s10) (Afr ad 67 s.heap.size) s.heap H locs → lv_has ls 5 [] → W p l e (rmL 1) s m ([.ref (ad 0), .int a1, .int a2] : List Value).toArray below meth c H locs 0 0 Q (F0 m 96 ls [.int k0_j96]) := by
    intro k0_j96 H locs ls h hw hl
    unfold f0_canServe_j96 at h
    obtain ⟨hz_96, h⟩ := chk_e h
    have h := Option.some.inj h
    subst h
    rw [← hQ]
    exact retI hx hb hr hlk hw (narB hz_96) dX0_canServe_96
  have hJ_95 : ∀  (H : Heap) (locs : List Loc) (ls : Array Slot), f0_canServe_j95 s0 = some r → Wd D (cellsC ad cy s0 s1 s2 s3 s4 s5 s6 s7 s8 s9 s10) (Afr ad 67 s.heap.size) s.heap H locs → lv_has ls 5 [] → W p l e (rmL 1) s m ([.ref (ad 0), .int a1, .int a2] : List Value).toArray below meth c H locs 0 0 Q (F0 m 95 ls []) := by
    intro  H locs ls h hw hl
    unfold f0_canServe_j95 at h
    refine lv_iconst (v := 0) hx hb dX0_canServe_95 (by decide) ?_
    exact hJ_96 ((0 : Int32)) H locs ls h hw (lv_sub hl [] rfl)
  have hJ_32 : ∀  (H : Heap) (locs : List Loc) (ls : Array Slot), f0_canServe_j32 s0 = some r → Wd D (cellsC ad cy s0 s1 s2 s3 s4 s5 s6 s7 s8 s9 s10) (Afr ad 67 s.heap.size) s.heap H locs → lv_has ls 5 [] → W p l e (rmL 1) s m ([.ref (ad 0), .int a1, .int a2] : List Value).toArray below meth c H locs 0 0 Q (F0 m 32 ls []) := by
    intro  H locs ls h hw hl
    unfold f0_canServe_j32 at h
    refine lv_iconst (v := 0) hx hb dX0_canServe_32 (by decide) ?_
    have h := Option.some.inj h
    subst h
    rw [← hQ]
    exact retI hx hb hr hlk hw (narB (v := (0 : Int32)) (by decide)) dX0_canServe_33
  refine lv_iload_n hx hb dX0_canServe_0 rfl (lv_at hl 2 rfl) ?_
  refine lv_iconst (v := 4) hx hb dX0_canServe_1 (by decide) ?_
  refine lv_icmp_ne (tgt := 7) hx hb dX0_canServe_2 (by decide) (fun c_2 => ?_) (fun c_2 => ?_)
  · have h := ite_f c_2 h
    refine lv_aload_n hx hb dX0_canServe_7 rfl (lv_at hl 0 rfl) ?_
    refine lv_iload_n hx hb dX0_canServe_8 rfl (lv_at hl 1 rfl) ?_
    obtain ⟨q_9, h_9, h⟩ := bnd_e h
    have pg_9 := preG (av := [.ref (ad 0), .int a1]) hK hw.1 hw.2.1 (NC_keep hN hw.2.2) NC_blind
    refine endI (mc := 0) (ms := 0) (va_runV (As := [.int a1]) (rest := []) ⟨hx, hb, hml, hown, hts⟩ (m0_has l D ad cy H.size s0 s1 s2 s3 s4 s5 s6 s7 s8 s9 s10 a1 q_9 h_9) (wX0_75 0 hts ⟨Nat.le_of_ble_eq_true rfl, Nat.le_of_ble_eq_true rfl⟩) ⟨pg_9.1, va_recv hK hw.1 (ci := 0) (q0 := 0) rfl eC_0, pg_9.2⟩ rfl rfl hl.1 rfl (lv_room (Nat.le_of_ble_eq_true rfl)) dX0_canServe_9 ⟨Nat.le_refl _, Nat.le_refl _⟩) hw.2.2 (afr_in hw.2.2) (fun H locs hw => ?_)
    refine lv_if_eq (tgt := 32) hx hb dX0_canServe_12 (by decide) (fun c_12 => ?_) (fun c_12 => ?_)
    · have h := ite_t c_12 h
      exact hJ_32  H locs ls h hw (lv_sub hl [] rfl)
    · have h := ite_f c_12 h
      refine lv_iload_n hx hb dX0_canServe_15 rfl (lv_at hl 2 rfl) ?_
      refine lv_if_lt (tgt := 32) hx hb dX0_canServe_16 (by decide) (fun c_16 => ?_) (fun c_16 => ?_)
      · have h := ite_t c_16 h
        exact hJ_32  H locs ls h hw (lv_sub hl [] rfl)
      · have h := ite_f c_16 h
        refine lv_iload_n hx hb dX0_canServe_19 rfl (lv_at hl 2 rfl) ?_
        refine lv_aload_n hx hb dX0_canServe_20 rfl (lv_at hl 0 rfl) ?_
        refine gX0_44 hx hb hts hown hK hw dX0_canServe_21 ?_
        refine lv_icmp_ge (tgt := 32) hx hb dX0_canServe_24 (by decide) (fun c_24 => ?_) (fun c_24 => ?_)
        · have h := ite_t c_24 h
          exact hJ_32  H locs ls h hw (lv_sub hl [] rfl)
        · have h := ite_f c_24 h
          refine lv_iload_n hx hb dX0_canServe_27 rfl (lv_at hl 2 rfl) ?_
          refine lv_iconst (v := 4) hx hb dX0_canServe_28 (by decide) ?_
          refine lv_icmp_lt (tgt := 34) hx hb dX0_canServe_29 (by decide) (fun c_29 => ?_) (fun c_29 => ?_)
          · have h := ite_t c_29 h
            refine lv_aload_n hx hb dX0_canServe_34 rfl (lv_at hl 0 rfl) ?_
            refine gX0_36 hx hb hts hown hK hw dX0_canServe_35 ?_
            refine lv_iload_n hx hb dX0_canServe_38 rfl (lv_at hl 2 rfl) ?_
            obtain ⟨hi_39, h⟩ := chk_e h
            obtain ⟨y_39, e_39, h⟩ := nam_e h
            refine lC19 hx hb hK hw hi_39 e_39 dX0_canServe_39 ?_
            refine lv_aload_n hx hb dX0_canServe_40 rfl (lv_at hl 0 rfl) ?_
            refine gX0_11 hx hb hts hown hK hw dX0_canServe_41 ?_
            refine lv_iload_n hx hb dX0_canServe_44 rfl (lv_at hl 1 rfl) ?_
            obtain ⟨hi_45, h⟩ := chk_e h
            obtain ⟨y_45, e_45, h⟩ := nam_e h
            refine lC11 hx hb hK hw hi_45 e_45 dX0_canServe_45 ?_
            refine lv_i2l hx hb dX0_canServe_46 rfl ?_
            refine lv_ladd hx hb dX0_canServe_47 ?_
            refine lv_aload_n hx hb dX0_canServe_48 rfl (lv_at hl 0 rfl) ?_
            refine gX0_33 hx hb hts hown hK hw dX0_canServe_49 ?_
            refine lv_iload_n hx hb dX0_canServe_52 rfl (lv_at hl 2 rfl) ?_
            obtain ⟨hi_53, h⟩ := chk_e h
            obtain ⟨y_53, e_53, h⟩ := nam_e h
            refine lC18 hx hb hK hw hi_53 e_53 dX0_canServe_53 ?_
            refine lv_i2l hx hb dX0_canServe_54 rfl ?_
            refine lv_aload_n hx hb dX0_canServe_55 rfl (lv_at hl 0 rfl) ?_
            refine gX0_47 hx hb hts hown hK hw dX0_canServe_56 ?_
            refine lv_i2l hx hb dX0_canServe_59 rfl ?_
            refine lv_lmul hx hb dX0_canServe_60 ?_
            refine lv_ladd hx hb dX0_canServe_61 ?_
            obtain ⟨n_62, e_62, h⟩ := nam_e h
            refine topL e_62 ?_
            refine lv_lstore_n (lv' := [(3, .long n_62), (0, .ref (ad 0)), (1, .int a1), (2, .int a2)]) hx hb dX0_canServe_62 rfl hl (by decide) rfl (fun ls hl => ?_)
            refine lv_aload_n hx hb dX0_canServe_63 rfl (lv_at hl 1 rfl) ?_
            refine gX0_24 hx hb hts hown hK hw dX0_canServe_64 ?_
            refine lv_iload_n hx hb dX0_canServe_67 rfl (lv_at hl 3 rfl) ?_
            obtain ⟨hi_68, h⟩ := chk_e h
            obtain ⟨y_68, e_68, h⟩ := nam_e h
            refine lC15 hx hb hK hw hi_68 e_68 dX0_canServe_68 ?_
            refine lv_aload_n hx hb dX0_canServe_69 rfl (lv_at hl 1 rfl) ?_
            refine gX0_18 hx hb hts hown hK hw dX0_canServe_70 ?_
            refine lv_iload_n hx hb dX0_canServe_73 rfl (lv_at hl 2 rfl) ?_
            obtain ⟨hi_74, h⟩ := chk_e h
            obtain ⟨y_74, e_74, h⟩ := nam_e h
            refine lC13 hx hb hK hw hi_74 e_74 dX0_canServe_74 ?_
            refine lv_iand hx hb dX0_canServe_75 ?_
            refine lv_if_ne (tgt := 95) hx hb dX0_canServe_76 (by decide) (fun c_76 => ?_) (fun c_76 => ?_)
            · have h := ite_f c_76 h
              exact hJ_95  H locs ls h hw (lv_sub hl [] rfl)
            · have h := ite_t c_76 h
              refine lv_lload_n hx hb dX0_canServe_79 rfl (lv_at hl 0 rfl) ?_
              refine lv_aload_n hx hb dX0_canServe_80 rfl (lv_at hl 1 rfl) ?_
              refine gX0_21 hx hb hts hown hK hw dX0_canServe_81 ?_
              refine lv_iload_n hx hb dX0_canServe_84 rfl (lv_at hl 3 rfl) ?_
              obtain ⟨hi_85, h⟩ := chk_e h
              obtain ⟨y_85, e_85, h⟩ := nam_e h
              refine lC14 hx hb hK hw hi_85 e_85 dX0_canServe_85 ?_
              refine lv_i2l hx hb dX0_canServe_86 rfl ?_
              refine W.lcmp hx hb dX0_canServe_87 ?_
              refine lv_if_gt (tgt := 95) hx hb dX0_canServe_88 (by decide) (fun c_88 => ?_) (fun c_88 => ?_)
              · have h := ite_t c_88 h
                exact hJ_95  H locs ls h hw (lv_sub hl [] rfl)
              · have h := ite_f c_88 h
                refine lv_iconst (v := 1) hx hb dX0_canServe_91 (by decide) ?_
                refine lv_goto (tgt := 96) hx hb dX0_canServe_92 (by decide) ?_
                exact hJ_96 ((1 : Int32)) H locs ls h hw (lv_sub hl [] rfl)
          · have h := ite_f c_29 h
            exact hJ_32  H locs ls h hw (lv_sub hl [] rfl)
  · have h := ite_t c_2 h
    refine lv_iconst (v := 1) hx hb dX0_canServe_5 (by decide) ?_
    have h := Option.some.inj h
    subst h
    rw [← hQ]
    exact retI hx hb hr hlk hw (narB (v := (1 : Int32)) (by decide)) dX0_canServe_6
theorem dX0_emptyStock_0 : decode cX0_emptyStock 0 = .ok (.aload_n 0, 1) := by decide +kernel
theorem dX0_emptyStock_1 : decode cX0_emptyStock 1 = .ok (.iconst 0, 1) := by decide +kernel
theorem dX0_emptyStock_2 : decode cX0_emptyStock 2 = .ok (.putfield 44, 3) := by decide +kernel
theorem dX0_emptyStock_5 : decode cX0_emptyStock 5 = .ok (.return_, 1) := by decide +kernel
def f0_emptyStock (s0 : OS) : Option (OS) := nm (wI s0 0 10 ((0 : Int32))) fun s0_2 => some s0_2
set_option maxHeartbeats 4000000 in
set_option maxRecDepth 100000 in
theorem m0_emptyStock (l : Launch) (D : va_G) (ad : Nat → Nat) (cy : Nat → ClassId) (sz : Nat) (s0 s1 s2 s3 s4 s5 s6 s7 s8 s9 s10 : OS) (r : OS) (h : f0_emptyStock s0 = some r) : Met l yX0_emptyStock (wsOf yX0_emptyStock cX0_emptyStock 1 none) (rmL 0) (va_Pc ([.ref (ad 0)] : List Value) (PreG D cy (cellsC ad cy s0 s1 s2 s3 s4 s5 s6 s7 s8 s9 s10) sz (NC ad))) (QcV D ad 67 (cellsC ad cy r s1 s2 s3 s4 s5 s6 s7 s8 s9 s10) sz) 0 0 (Afr ad 67 sz) := by
  refine metG (own := RX0) (by decide) rfl (Nat.le_of_ble_eq_true rfl) fstC ?_ sz
  intro p e s m below meth c ls C0 hw hl
  obtain ⟨hx, hb, hml, hown, hts, hr, hlk, hK, hN⟩ := C0
  have hl : lv_has ls 1 [(0, .ref (ad 0))] := hl
  generalize hQ : MQ below (QcV D ad 67 (cellsC ad cy r s1 s2 s3 s4 s5 s6 s7 s8 s9 s10) s.heap.size) ([.ref (ad 0)] : List Value).toArray s 0 0 (Afr ad 67 s.heap.size) = Q
  obtain ⟨H, hH⟩ : ∃ H : Heap, H = s.heap := ⟨_, rfl⟩
  obtain ⟨locs, hlc⟩ : ∃ L : List Loc, L = [] := ⟨_, rfl⟩
  have hw : Wd D (cellsC ad cy s0 s1 s2 s3 s4 s5 s6 s7 s8 s9 s10) (Afr ad 67 s.heap.size) s.heap H locs := by rw [hH, hlc]; exact hw
  suffices h0 : W p l e (rmL 0) s m ([.ref (ad 0)] : List Value).toArray below meth c H locs 0 0 Q (F0 m 0 ls []) by rw [hH, hlc] at h0; exact h0
  clear hH hlc
  unfold f0_emptyStock at h
  refine lv_aload_n hx hb dX0_emptyStock_0 rfl (lv_at hl 0 rfl) ?_
  refine lv_iconst (v := 0) hx hb dX0_emptyStock_1 (by decide) ?_
  obtain ⟨s0_2, e_2, h⟩ := nam_e h
  refine pX0_44 hx hb hts hown hK hw e_2 dX0_emptyStock_2 (fun H locs hw => ?_)
  have h := Option.some.inj h
  subst h
  rw [← hQ]
  exact retV hx hb hr hlk hw dX0_emptyStock_5
theorem dX0_lossesOfRow_0 : decode cX0_lossesOfRow 0 = .ok (.iconst 0, 1) := by decide +kernel
theorem dX0_lossesOfRow_1 : decode cX0_lossesOfRow 1 = .ok (.istore_n 1, 1) := by decide +kernel
theorem dX0_lossesOfRow_2 : decode cX0_lossesOfRow 2 = .ok (.iconst 0, 1) := by decide +kernel
theorem dX0_lossesOfRow_3 : decode cX0_lossesOfRow 3 = .ok (.istore_n 2, 1) := by decide +kernel
theorem dX0_lossesOfRow_4 : decode cX0_lossesOfRow 4 = .ok (.iload_n 2, 1) := by decide +kernel
theorem dX0_lossesOfRow_5 : decode cX0_lossesOfRow 5 = .ok (.iconst 4, 1) := by decide +kernel
theorem dX0_lossesOfRow_6 : decode cX0_lossesOfRow 6 = .ok (.if_icmp .ge 103, 3) := by decide +kernel
theorem dX0_lossesOfRow_9 : decode cX0_lossesOfRow 9 = .ok (.aload_n 0, 1) := by decide +kernel
theorem dX0_lossesOfRow_10 : decode cX0_lossesOfRow 10 = .ok (.getfield 33, 3) := by decide +kernel
theorem dX0_lossesOfRow_13 : decode cX0_lossesOfRow 13 = .ok (.iload_n 2, 1) := by decide +kernel
theorem dX0_lossesOfRow_14 : decode cX0_lossesOfRow 14 = .ok (.iaload, 1) := by decide +kernel
theorem dX0_lossesOfRow_15 : decode cX0_lossesOfRow 15 = .ok (.ifCond .le 88, 3) := by decide +kernel
theorem dX0_lossesOfRow_18 : decode cX0_lossesOfRow 18 = .ok (.aload_n 0, 1) := by decide +kernel
theorem dX0_lossesOfRow_19 : decode cX0_lossesOfRow 19 = .ok (.getfield 33, 3) := by decide +kernel
theorem dX0_lossesOfRow_22 : decode cX0_lossesOfRow 22 = .ok (.iload_n 2, 1) := by decide +kernel
theorem dX0_lossesOfRow_23 : decode cX0_lossesOfRow 23 = .ok (.iaload, 1) := by decide +kernel
theorem dX0_lossesOfRow_24 : decode cX0_lossesOfRow 24 = .ok (.iconst 1, 1) := by decide +kernel
theorem dX0_lossesOfRow_25 : decode cX0_lossesOfRow 25 = .ok (.isub, 1) := by decide +kernel
theorem dX0_lossesOfRow_26 : decode cX0_lossesOfRow 26 = .ok (.i2l, 1) := by decide +kernel
theorem dX0_lossesOfRow_27 : decode cX0_lossesOfRow 27 = .ok (.aload_n 0, 1) := by decide +kernel
theorem dX0_lossesOfRow_28 : decode cX0_lossesOfRow 28 = .ok (.getfield 47, 3) := by decide +kernel
theorem dX0_lossesOfRow_31 : decode cX0_lossesOfRow 31 = .ok (.i2l, 1) := by decide +kernel
theorem dX0_lossesOfRow_32 : decode cX0_lossesOfRow 32 = .ok (.lmul, 1) := by decide +kernel
theorem dX0_lossesOfRow_33 : decode cX0_lossesOfRow 33 = .ok (.lstore_n 3, 1) := by decide +kernel
theorem dX0_lossesOfRow_34 : decode cX0_lossesOfRow 34 = .ok (.aload_n 0, 1) := by decide +kernel
theorem dX0_lossesOfRow_35 : decode cX0_lossesOfRow 35 = .ok (.getfield 21, 3) := by decide +kernel
theorem dX0_lossesOfRow_38 : decode cX0_lossesOfRow 38 = .ok (.iload_n 2, 1) := by decide +kernel
theorem dX0_lossesOfRow_39 : decode cX0_lossesOfRow 39 = .ok (.iaload, 1) := by decide +kernel
theorem dX0_lossesOfRow_40 : decode cX0_lossesOfRow 40 = .ok (.i2l, 1) := by decide +kernel
theorem dX0_lossesOfRow_41 : decode cX0_lossesOfRow 41 = .ok (.aload_n 0, 1) := by decide +kernel
theorem dX0_lossesOfRow_42 : decode cX0_lossesOfRow 42 = .ok (.getfield 36, 3) := by decide +kernel
theorem dX0_lossesOfRow_45 : decode cX0_lossesOfRow 45 = .ok (.iload_n 2, 1) := by decide +kernel
theorem dX0_lossesOfRow_46 : decode cX0_lossesOfRow 46 = .ok (.laload, 1) := by decide +kernel
theorem dX0_lossesOfRow_47 : decode cX0_lossesOfRow 47 = .ok (.lsub, 1) := by decide +kernel
theorem dX0_lossesOfRow_48 : decode cX0_lossesOfRow 48 = .ok (.lload_n 3, 1) := by decide +kernel
theorem dX0_lossesOfRow_49 : decode cX0_lossesOfRow 49 = .ok (.lsub, 1) := by decide +kernel
theorem dX0_lossesOfRow_50 : decode cX0_lossesOfRow 50 = .ok (.lstore 5, 2) := by decide +kernel
theorem dX0_lossesOfRow_52 : decode cX0_lossesOfRow 52 = .ok (.lload 5, 2) := by decide +kernel
theorem dX0_lossesOfRow_54 : decode cX0_lossesOfRow 54 = .ok (.lconst 0, 1) := by decide +kernel
theorem dX0_lossesOfRow_55 : decode cX0_lossesOfRow 55 = .ok (.lcmp, 1) := by decide +kernel
theorem dX0_lossesOfRow_56 : decode cX0_lossesOfRow 56 = .ok (.ifCond .ne 7, 3) := by decide +kernel
theorem dX0_lossesOfRow_59 : decode cX0_lossesOfRow 59 = .ok (.iconst 1, 1) := by decide +kernel
theorem dX0_lossesOfRow_60 : decode cX0_lossesOfRow 60 = .ok (.goto 4, 3) := by decide +kernel
theorem dX0_lossesOfRow_63 : decode cX0_lossesOfRow 63 = .ok (.iconst 0, 1) := by decide +kernel
theorem dX0_lossesOfRow_64 : decode cX0_lossesOfRow 64 = .ok (.istore 7, 2) := by decide +kernel
theorem dX0_lossesOfRow_66 : decode cX0_lossesOfRow 66 = .ok (.iload 7, 2) := by decide +kernel
theorem dX0_lossesOfRow_68 : decode cX0_lossesOfRow 68 = .ok (.ifCond .ne 16, 3) := by decide +kernel
theorem dX0_lossesOfRow_71 : decode cX0_lossesOfRow 71 = .ok (.lload 5, 2) := by decide +kernel
theorem dX0_lossesOfRow_73 : decode cX0_lossesOfRow 73 = .ok (.aload_n 0, 1) := by decide +kernel
theorem dX0_lossesOfRow_74 : decode cX0_lossesOfRow 74 = .ok (.getfield 47, 3) := by decide +kernel
theorem dX0_lossesOfRow_77 : decode cX0_lossesOfRow 77 = .ok (.i2l, 1) := by decide +kernel
theorem dX0_lossesOfRow_78 : decode cX0_lossesOfRow 78 = .ok (.lcmp, 1) := by decide +kernel
theorem dX0_lossesOfRow_79 : decode cX0_lossesOfRow 79 = .ok (.ifCond .ge 5, 3) := by decide +kernel
theorem dX0_lossesOfRow_82 : decode cX0_lossesOfRow 82 = .ok (.iconst (-1), 1) := by decide +kernel
theorem dX0_lossesOfRow_83 : decode cX0_lossesOfRow 83 = .ok (.ireturn, 1) := by decide +kernel
theorem dX0_lossesOfRow_84 : decode cX0_lossesOfRow 84 = .ok (.iload_n 1, 1) := by decide +kernel
theorem dX0_lossesOfRow_85 : decode cX0_lossesOfRow 85 = .ok (.lload_n 3, 1) := by decide +kernel
theorem dX0_lossesOfRow_86 : decode cX0_lossesOfRow 86 = .ok (.l2i, 1) := by decide +kernel
theorem dX0_lossesOfRow_87 : decode cX0_lossesOfRow 87 = .ok (.iload 7, 2) := by decide +kernel
theorem dX0_lossesOfRow_89 : decode cX0_lossesOfRow 89 = .ok (.ifCond .eq 7, 3) := by decide +kernel
theorem dX0_lossesOfRow_92 : decode cX0_lossesOfRow 92 = .ok (.iconst 0, 1) := by decide +kernel
theorem dX0_lossesOfRow_93 : decode cX0_lossesOfRow 93 = .ok (.goto 7, 3) := by decide +kernel
theorem dX0_lossesOfRow_96 : decode cX0_lossesOfRow 96 = .ok (.aload_n 0, 1) := by decide +kernel
theorem dX0_lossesOfRow_97 : decode cX0_lossesOfRow 97 = .ok (.getfield 47, 3) := by decide +kernel
theorem dX0_lossesOfRow_100 : decode cX0_lossesOfRow 100 = .ok (.iadd, 1) := by decide +kernel
theorem dX0_lossesOfRow_101 : decode cX0_lossesOfRow 101 = .ok (.iadd, 1) := by decide +kernel
theorem dX0_lossesOfRow_102 : decode cX0_lossesOfRow 102 = .ok (.istore_n 1, 1) := by decide +kernel
theorem dX0_lossesOfRow_103 : decode cX0_lossesOfRow 103 = .ok (.iinc 2 1, 3) := by decide +kernel
theorem dX0_lossesOfRow_106 : decode cX0_lossesOfRow 106 = .ok (.goto (-102), 3) := by decide +kernel
theorem dX0_lossesOfRow_109 : decode cX0_lossesOfRow 109 = .ok (.iload_n 1, 1) := by decide +kernel
theorem dX0_lossesOfRow_110 : decode cX0_lossesOfRow 110 = .ok (.ireturn, 1) := by decide +kernel
noncomputable def f0_lossesOfRow_j103 (v1_j103 : Int32) (v2_j103 : Int32) (s0_j103 : OS) : Option ((Int32 × Int32) ⊕ (Int32)) := nm (v2_j103 + (1 : Int32)) fun n_103 => some (Sum.inl (v1_j103, n_103))
noncomputable def f0_lossesOfRow_j100 (v2_j100 : Int32) (k0_j100 : Int32) (k1_j100 : Int32) (k2_j100 : Int32) (s0_j100 : OS) : Option ((Int32 × Int32) ⊕ (Int32)) := nm ((k0_j100 + (k1_j100 + k2_j100))) fun n_102 => f0_lossesOfRow_j103 n_102 v2_j100 s0_j100
noncomputable def f0_lossesOfRow_j84 (v1_j84 : Int32) (v2_j84 : Int32) (v3_j84 : Int64) (v7_j84 : Int32) (s0_j84 : OS) : Option ((Int32 × Int32) ⊕ (Int32)) := if v7_j84 = 0 then (f0_lossesOfRow_j100 v2_j84 v1_j84 ((v3_j84).toInt32) ((s0_j84.1 0 11)) s0_j84) else (f0_lossesOfRow_j100 v2_j84 v1_j84 ((v3_j84).toInt32) ((0 : Int32)) s0_j84)
noncomputable def f0_lossesOfRow_j64 (v1_j64 : Int32) (v2_j64 : Int32) (v3_j64 : Int64) (v5_j64 : Int64) (k0_j64 : Int32) (s0_j64 : OS) : Option ((Int32 × Int32) ⊕ (Int32)) := if k0_j64 = 0 then (if 0 ≤ (lg_cmp v5_j64 (((s0_j64.1 0 11)).toInt64)) then (f0_lossesOfRow_j84 v1_j64 v2_j64 v3_j64 k0_j64 s0_j64) else (Option.map Sum.inr (some ((-1 : Int32))))) else (f0_lossesOfRow_j84 v1_j64 v2_j64 v3_j64 k0_j64 s0_j64)
noncomputable def f0_lossesOfRow_l4 (s0_i4 : OS) : Int32 × Int32 → Option ((Int32 × Int32) ⊕ (Int32)) := fun t_4 => if (4 : Int32) ≤ t_4.2 then (Option.map Sum.inr (some t_4.1)) else (chk (inb t_4.2 4) (nm (s0_i4.1 8 t_4.2.toNatClampNeg) fun y_14 => if y_14 ≤ 0 then (f0_lossesOfRow_j103 t_4.1 t_4.2 s0_i4) else (chk (inb t_4.2 4) (nm (s0_i4.1 8 t_4.2.toNatClampNeg) fun y_23 => nm ((((y_23 - (1 : Int32))).toInt64 * ((s0_i4.1 0 11)).toInt64)) fun n_33 => chk (inb t_4.2 4) (nm (s0_i4.1 4 t_4.2.toNatClampNeg) fun y_39 => chk (inb t_4.2 4) (nm (s0_i4.2 9 t_4.2.toNatClampNeg) fun y_46 => nm ((((y_39).toInt64 - y_46) - n_33)) fun n_50 => if (lg_cmp n_50 ((0 : Int64))) = 0 then (f0_lossesOfRow_j64 t_4.1 t_4.2 n_33 n_50 ((1 : Int32)) s0_i4) else (f0_lossesOfRow_j64 t_4.1 t_4.2 n_33 n_50 ((0 : Int32)) s0_i4)))))))
noncomputable def f0_lossesOfRow (s0 : OS) : Option (Int32) := loop (f0_lossesOfRow_l4 s0) ((0 : Int32), (0 : Int32))
set_option maxHeartbeats 4000000 in
set_option maxRecDepth 100000 in
theorem m0_lossesOfRow (l : Launch) (D : va_G) (ad : Nat → Nat) (cy : Nat → ClassId) (sz : Nat) (s0 s1 s2 s3 s4 s5 s6 s7 s8 s9 s10 : OS) (r : Int32) (h : f0_lossesOfRow s0 = some r) : Met l yX0_lossesOfRow (wsOf yX0_lossesOfRow cX0_lossesOfRow 8 (some .int)) (rmL 0) (va_Pc ([.ref (ad 0)] : List Value) (PreG D cy (cellsC ad cy s0 s1 s2 s3 s4 s5 s6 s7 s8 s9 s10) sz (NC ad))) (QcI D ad 67 (cellsC ad cy s0 s1 s2 s3 s4 s5 s6 s7 s8 s9 s10) (r) sz) 0 0 (Afr ad 67 sz) := by
  refine metG (own := RX0) (by decide) rfl (Nat.le_of_ble_eq_true rfl) fstC ?_ sz
  intro p e s m below meth c ls C0 hw hl
  obtain ⟨hx, hb, hml, hown, hts, hr, hlk, hK, hN⟩ := C0
  have hl : lv_has ls 8 [(0, .ref (ad 0))] := hl
  generalize hQ : MQ below (QcI D ad 67 (cellsC ad cy s0 s1 s2 s3 s4 s5 s6 s7 s8 s9 s10) (r) s.heap.size) ([.ref (ad 0)] : List Value).toArray s 0 0 (Afr ad 67 s.heap.size) = Q
  obtain ⟨H, hH⟩ : ∃ H : Heap, H = s.heap := ⟨_, rfl⟩
  obtain ⟨locs, hlc⟩ : ∃ L : List Loc, L = [] := ⟨_, rfl⟩
  have hw : Wd D (cellsC ad cy s0 s1 s2 s3 s4 s5 s6 s7 s8 s9 s10) (Afr ad 67 s.heap.size) s.heap H locs := by rw [hH, hlc]; exact hw
  suffices h0 : W p l e (rmL 0) s m ([.ref (ad 0)] : List Value).toArray below meth c H locs 0 0 Q (F0 m 0 ls []) by rw [hH, hlc] at h0; exact h0
  clear hH hlc
  unfold f0_lossesOfRow at h
  refine lv_iconst (v := 0) hx hb dX0_lossesOfRow_0 (by decide) ?_
  refine lv_istore_n (lv' := [(1, .int ((0 : Int32))), (0, .ref (ad 0))]) hx hb dX0_lossesOfRow_1 rfl hl (by decide) rfl (fun ls hl => ?_)
  refine lv_iconst (v := 0) hx hb dX0_lossesOfRow_2 (by decide) ?_
  refine lv_istore_n (lv' := [(2, .int ((0 : Int32))), (1, .int ((0 : Int32))), (0, .ref (ad 0))]) hx hb dX0_lossesOfRow_3 rfl hl (by decide) rfl (fun ls hl => ?_)
  obtain ⟨n_4, hn_4⟩ := loop_e h
  have hL_4 : ∀ (n : Nat) (t_4 : Int32 × Int32) (H : Heap) (locs : List Loc) (ls : Array Slot), loopN (f0_lossesOfRow_l4 s0) n t_4 = some r → Wd D (cellsC ad cy s0 s1 s2 s3 s4 s5 s6 s7 s8 s9 s10) (Afr ad 67 s.heap.size) s.heap H locs → lv_has ls 8 [(1, .int t_4.1), (2, .int t_4.2), (0, .ref (ad 0))] → W p l e (rmL 0) s m ([.ref (ad 0)] : List Value).toArray below meth c H locs 0 0 Q (F0 m 4 ls []) := by
    intro n
    induction n with
    | zero => intro t_4 H locs ls hn; cases hn
    | succ n ih_4 =>
      intro t_4 H locs ls hn hw hl
      obtain ⟨x_4, h, hx_4⟩ := loopN_e hn
      unfold f0_lossesOfRow_l4 at h
      have hJ_103 : ∀ (v1_j103 : Int32) (v2_j103 : Int32) (H : Heap) (locs : List Loc) (ls : Array Slot), f0_lossesOfRow_j103 v1_j103 v2_j103 s0 = some x_4 → Wd D (cellsC ad cy s0 s1 s2 s3 s4 s5 s6 s7 s8 s9 s10) (Afr ad 67 s.heap.size) s.heap H locs → lv_has ls 8 [(0, .ref (ad 0)), (1, .int v1_j103), (2, .int v2_j103)] → W p l e (rmL 0) s m ([.ref (ad 0)] : List Value).toArray below meth c H locs 0 0 Q (F0 m 103 ls []) := by
        intro v1_j103 v2_j103 H locs ls h hw hl
        unfold f0_lossesOfRow_j103 at h
        obtain ⟨n_103, e_103, h⟩ := nam_e h
        refine lv_iinc (v := n_103) (lv' := [(2, .int n_103), (0, .ref (ad 0)), (1, .int v1_j103)]) hx hb dX0_lossesOfRow_103 hl (k := 2) rfl (by rw [e_103]; rfl) (by decide) rfl (fun ls hl => ?_)
        refine lv_goto (tgt := 4) hx hb dX0_lossesOfRow_106 (by decide) ?_
        exact ih_4 (v1_j103, n_103) H locs ls (nx_l hx_4 h) hw (lv_sub hl [2, 0, 1] rfl)
      have hJ_100 : ∀ (v2_j100 : Int32) (k0_j100 : Int32) (k1_j100 : Int32) (k2_j100 : Int32) (H : Heap) (locs : List Loc) (ls : Array Slot), f0_lossesOfRow_j100 v2_j100 k0_j100 k1_j100 k2_j100 s0 = some x_4 → Wd D (cellsC ad cy s0 s1 s2 s3 s4 s5 s6 s7 s8 s9 s10) (Afr ad 67 s.heap.size) s.heap H locs → lv_has ls 8 [(0, .ref (ad 0)), (2, .int v2_j100)] → W p l e (rmL 0) s m ([.ref (ad 0)] : List Value).toArray below meth c H locs 0 0 Q (F0 m 100 ls [.int k2_j100, .int k1_j100, .int k0_j100]) := by
        intro v2_j100 k0_j100 k1_j100 k2_j100 H locs ls h hw hl
        unfold f0_lossesOfRow_j100 at h
        refine lv_iadd hx hb dX0_lossesOfRow_100 ?_
        refine lv_iadd hx hb dX0_lossesOfRow_101 ?_
        obtain ⟨n_102, e_102, h⟩ := nam_e h
        refine topI e_102 ?_
        refine lv_istore_n (lv' := [(1, .int n_102), (0, .ref (ad 0)), (2, .int v2_j100)]) hx hb dX0_lossesOfRow_102 rfl hl (by decide) rfl (fun ls hl => ?_)
        exact hJ_103 n_102 v2_j100 H locs ls h hw (lv_sub hl [1, 0, 2] rfl)
      have hJ_84 : ∀ (v1_j84 : Int32) (v2_j84 : Int32) (v3_j84 : Int64) (v7_j84 : Int32) (H : Heap) (locs : List Loc) (ls : Array Slot), f0_lossesOfRow_j84 v1_j84 v2_j84 v3_j84 v7_j84 s0 = some x_4 → Wd D (cellsC ad cy s0 s1 s2 s3 s4 s5 s6 s7 s8 s9 s10) (Afr ad 67 s.heap.size) s.heap H locs → lv_has ls 8 [(0, .ref (ad 0)), (1, .int v1_j84), (2, .int v2_j84), (3, .long v3_j84), (7, .int v7_j84)] → W p l e (rmL 0) s m ([.ref (ad 0)] : List Value).toArray below meth c H locs 0 0 Q (F0 m 84 ls []) := by
        intro v1_j84 v2_j84 v3_j84 v7_j84 H locs ls h hw hl
        unfold f0_lossesOfRow_j84 at h
        refine lv_iload_n hx hb dX0_lossesOfRow_84 rfl (lv_at hl 1 rfl) ?_
        refine lv_lload_n hx hb dX0_lossesOfRow_85 rfl (lv_at hl 3 rfl) ?_
        refine lv_l2i hx hb dX0_lossesOfRow_86 rfl ?_
        refine lv_iload hx hb dX0_lossesOfRow_87 (lv_at hl 4 rfl) ?_
        refine lv_if_eq (tgt := 96) hx hb dX0_lossesOfRow_89 (by decide) (fun c_89 => ?_) (fun c_89 => ?_)
        · have h := ite_t c_89 h
          refine lv_aload_n hx hb dX0_lossesOfRow_96 rfl (lv_at hl 0 rfl) ?_
          refine gX0_47 hx hb hts hown hK hw dX0_lossesOfRow_97 ?_
          exact hJ_100 v2_j84 v1_j84 ((v3_j84).toInt32) ((s0.1 0 11)) H locs ls h hw (lv_sub hl [0, 2] rfl)
        · have h := ite_f c_89 h
          refine lv_iconst (v := 0) hx hb dX0_lossesOfRow_92 (by decide) ?_
          refine lv_goto (tgt := 100) hx hb dX0_lossesOfRow_93 (by decide) ?_
          exact hJ_100 v2_j84 v1_j84 ((v3_j84).toInt32) ((0 : Int32)) H locs ls h hw (lv_sub hl [0, 2] rfl)
      have hJ_64 : ∀ (v1_j64 : Int32) (v2_j64 : Int32) (v3_j64 : Int64) (v5_j64 : Int64) (k0_j64 : Int32) (H : Heap) (locs : List Loc) (ls : Array Slot), f0_lossesOfRow_j64 v1_j64 v2_j64 v3_j64 v5_j64 k0_j64 s0 = some x_4 → Wd D (cellsC ad cy s0 s1 s2 s3 s4 s5 s6 s7 s8 s9 s10) (Afr ad 67 s.heap.size) s.heap H locs → lv_has ls 8 [(0, .ref (ad 0)), (1, .int v1_j64), (2, .int v2_j64), (3, .long v3_j64), (5, .long v5_j64)] → W p l e (rmL 0) s m ([.ref (ad 0)] : List Value).toArray below meth c H locs 0 0 Q (F0 m 64 ls [.int k0_j64]) := by
        intro v1_j64 v2_j64 v3_j64 v5_j64 k0_j64 H locs ls h hw hl
        unfold f0_lossesOfRow_j64 at h
        refine lv_istore (lv' := [(7, .int k0_j64), (0, .ref (ad 0)), (1, .int v1_j64), (2, .int v2_j64), (3, .long v3_j64), (5, .long v5_j64)]) hx hb dX0_lossesOfRow_64 hl (by decide) rfl (fun ls hl => ?_)
        refine lv_iload hx hb dX0_lossesOfRow_66 (lv_at hl 0 rfl) ?_
        refine lv_if_ne (tgt := 84) hx hb dX0_lossesOfRow_68 (by decide) (fun c_68 => ?_) (fun c_68 => ?_)
        · have h := ite_f c_68 h
          exact hJ_84 v1_j64 v2_j64 v3_j64 k0_j64 H locs ls h hw (lv_sub hl [1, 2, 3, 4, 0] rfl)
        · have h := ite_t c_68 h
          refine lv_lload hx hb dX0_lossesOfRow_71 (lv_at hl 5 rfl) ?_
          refine lv_aload_n hx hb dX0_lossesOfRow_73 rfl (lv_at hl 1 rfl) ?_
          refine gX0_47 hx hb hts hown hK hw dX0_lossesOfRow_74 ?_
          refine lv_i2l hx hb dX0_lossesOfRow_77 rfl ?_
          refine W.lcmp hx hb dX0_lossesOfRow_78 ?_
          refine lv_if_ge (tgt := 84) hx hb dX0_lossesOfRow_79 (by decide) (fun c_79 => ?_) (fun c_79 => ?_)
          · have h := ite_t c_79 h
            exact hJ_84 v1_j64 v2_j64 v3_j64 k0_j64 H locs ls h hw (lv_sub hl [1, 2, 3, 4, 0] rfl)
          · have h := ite_f c_79 h
            have h := nx_m hx_4 h
            refine lv_iconst (v := (-1)) hx hb dX0_lossesOfRow_82 (by decide) ?_
            have h := Option.some.inj h
            subst h
            rw [← hQ]
            exact retI hx hb hr hlk hw rfl dX0_lossesOfRow_83
      refine lv_iload_n hx hb dX0_lossesOfRow_4 rfl (lv_at hl 1 rfl) ?_
      refine lv_iconst (v := 4) hx hb dX0_lossesOfRow_5 (by decide) ?_
      refine lv_icmp_ge (tgt := 109) hx hb dX0_lossesOfRow_6 (by decide) (fun c_6 => ?_) (fun c_6 => ?_)
      · have h := ite_t c_6 h
        have h := nx_m hx_4 h
        refine lv_iload_n hx hb dX0_lossesOfRow_109 rfl (lv_at hl 0 rfl) ?_
        have h := Option.some.inj h
        subst h
        rw [← hQ]
        exact retI hx hb hr hlk hw rfl dX0_lossesOfRow_110
      · have h := ite_f c_6 h
        refine lv_aload_n hx hb dX0_lossesOfRow_9 rfl (lv_at hl 2 rfl) ?_
        refine gX0_33 hx hb hts hown hK hw dX0_lossesOfRow_10 ?_
        refine lv_iload_n hx hb dX0_lossesOfRow_13 rfl (lv_at hl 1 rfl) ?_
        obtain ⟨hi_14, h⟩ := chk_e h
        obtain ⟨y_14, e_14, h⟩ := nam_e h
        refine lC18 hx hb hK hw hi_14 e_14 dX0_lossesOfRow_14 ?_
        refine lv_if_le (tgt := 103) hx hb dX0_lossesOfRow_15 (by decide) (fun c_15 => ?_) (fun c_15 => ?_)
        · have h := ite_t c_15 h
          exact hJ_103 t_4.1 t_4.2 H locs ls h hw (lv_sub hl [2, 0, 1] rfl)
        · have h := ite_f c_15 h
          refine lv_aload_n hx hb dX0_lossesOfRow_18 rfl (lv_at hl 2 rfl) ?_
          refine gX0_33 hx hb hts hown hK hw dX0_lossesOfRow_19 ?_
          refine lv_iload_n hx hb dX0_lossesOfRow_22 rfl (lv_at hl 1 rfl) ?_
          obtain ⟨hi_23, h⟩ := chk_e h
          obtain ⟨y_23, e_23, h⟩ := nam_e h
          refine lC18 hx hb hK hw hi_23 e_23 dX0_lossesOfRow_23 ?_
          refine lv_iconst (v := 1) hx hb dX0_lossesOfRow_24 (by decide) ?_
          refine lv_isub hx hb dX0_lossesOfRow_25 ?_
          refine lv_i2l hx hb dX0_lossesOfRow_26 rfl ?_
          refine lv_aload_n hx hb dX0_lossesOfRow_27 rfl (lv_at hl 2 rfl) ?_
          refine gX0_47 hx hb hts hown hK hw dX0_lossesOfRow_28 ?_
          refine lv_i2l hx hb dX0_lossesOfRow_31 rfl ?_
          refine lv_lmul hx hb dX0_lossesOfRow_32 ?_
          obtain ⟨n_33, e_33, h⟩ := nam_e h
          refine topL e_33 ?_
          refine lv_lstore_n (lv' := [(3, .long n_33), (1, .int t_4.1), (2, .int t_4.2), (0, .ref (ad 0))]) hx hb dX0_lossesOfRow_33 rfl hl (by decide) rfl (fun ls hl => ?_)
          refine lv_aload_n hx hb dX0_lossesOfRow_34 rfl (lv_at hl 3 rfl) ?_
          refine gX0_21 hx hb hts hown hK hw dX0_lossesOfRow_35 ?_
          refine lv_iload_n hx hb dX0_lossesOfRow_38 rfl (lv_at hl 2 rfl) ?_
          obtain ⟨hi_39, h⟩ := chk_e h
          obtain ⟨y_39, e_39, h⟩ := nam_e h
          refine lC14 hx hb hK hw hi_39 e_39 dX0_lossesOfRow_39 ?_
          refine lv_i2l hx hb dX0_lossesOfRow_40 rfl ?_
          refine lv_aload_n hx hb dX0_lossesOfRow_41 rfl (lv_at hl 3 rfl) ?_
          refine gX0_36 hx hb hts hown hK hw dX0_lossesOfRow_42 ?_
          refine lv_iload_n hx hb dX0_lossesOfRow_45 rfl (lv_at hl 2 rfl) ?_
          obtain ⟨hi_46, h⟩ := chk_e h
          obtain ⟨y_46, e_46, h⟩ := nam_e h
          refine lC19 hx hb hK hw hi_46 e_46 dX0_lossesOfRow_46 ?_
          refine lv_lsub hx hb dX0_lossesOfRow_47 ?_
          refine lv_lload_n hx hb dX0_lossesOfRow_48 rfl (lv_at hl 0 rfl) ?_
          refine lv_lsub hx hb dX0_lossesOfRow_49 ?_
          obtain ⟨n_50, e_50, h⟩ := nam_e h
          refine topL e_50 ?_
          refine lv_lstore (lv' := [(5, .long n_50), (3, .long n_33), (1, .int t_4.1), (2, .int t_4.2), (0, .ref (ad 0))]) hx hb dX0_lossesOfRow_50 hl (by decide) rfl (fun ls hl => ?_)
          refine lv_lload hx hb dX0_lossesOfRow_52 (lv_at hl 0 rfl) ?_
          refine lv_lconst (v := 0) hx hb dX0_lossesOfRow_54 (by decide) ?_
          refine W.lcmp hx hb dX0_lossesOfRow_55 ?_
          refine lv_if_ne (tgt := 63) hx hb dX0_lossesOfRow_56 (by decide) (fun c_56 => ?_) (fun c_56 => ?_)
          · have h := ite_f c_56 h
            refine lv_iconst (v := 0) hx hb dX0_lossesOfRow_63 (by decide) ?_
            exact hJ_64 t_4.1 t_4.2 n_33 n_50 ((0 : Int32)) H locs ls h hw (lv_sub hl [4, 2, 3, 1, 0] rfl)
          · have h := ite_t c_56 h
            refine lv_iconst (v := 1) hx hb dX0_lossesOfRow_59 (by decide) ?_
            refine lv_goto (tgt := 64) hx hb dX0_lossesOfRow_60 (by decide) ?_
            exact hJ_64 t_4.1 t_4.2 n_33 n_50 ((1 : Int32)) H locs ls h hw (lv_sub hl [4, 2, 3, 1, 0] rfl)
  exact hL_4 n_4 ((0 : Int32), (0 : Int32)) H locs ls hn_4 hw (lv_sub hl [1, 0, 2] rfl)
theorem dX0_keepIfBetter_0 : decode cX0_keepIfBetter 0 = .ok (.aload_n 0, 1) := by decide +kernel
theorem dX0_keepIfBetter_1 : decode cX0_keepIfBetter 1 = .ok (.invokevirtual 67, 3) := by decide +kernel
theorem dX0_keepIfBetter_4 : decode cX0_keepIfBetter 4 = .ok (.istore_n 2, 1) := by decide +kernel
theorem dX0_keepIfBetter_5 : decode cX0_keepIfBetter 5 = .ok (.iload_n 2, 1) := by decide +kernel
theorem dX0_keepIfBetter_6 : decode cX0_keepIfBetter 6 = .ok (.iconst (-1), 1) := by decide +kernel
theorem dX0_keepIfBetter_7 : decode cX0_keepIfBetter 7 = .ok (.if_icmp .eq 27, 3) := by decide +kernel
theorem dX0_keepIfBetter_10 : decode cX0_keepIfBetter 10 = .ok (.iload_n 1, 1) := by decide +kernel
theorem dX0_keepIfBetter_11 : decode cX0_keepIfBetter 11 = .ok (.aload_n 0, 1) := by decide +kernel
theorem dX0_keepIfBetter_12 : decode cX0_keepIfBetter 12 = .ok (.getfield 50, 3) := by decide +kernel
theorem dX0_keepIfBetter_15 : decode cX0_keepIfBetter 15 = .ok (.if_icmp .lt 19, 3) := by decide +kernel
theorem dX0_keepIfBetter_18 : decode cX0_keepIfBetter 18 = .ok (.iload_n 1, 1) := by decide +kernel
theorem dX0_keepIfBetter_19 : decode cX0_keepIfBetter 19 = .ok (.aload_n 0, 1) := by decide +kernel
theorem dX0_keepIfBetter_20 : decode cX0_keepIfBetter 20 = .ok (.getfield 50, 3) := by decide +kernel
theorem dX0_keepIfBetter_23 : decode cX0_keepIfBetter 23 = .ok (.if_icmp .ne 12, 3) := by decide +kernel
theorem dX0_keepIfBetter_26 : decode cX0_keepIfBetter 26 = .ok (.iload_n 2, 1) := by decide +kernel
theorem dX0_keepIfBetter_27 : decode cX0_keepIfBetter 27 = .ok (.aload_n 0, 1) := by decide +kernel
theorem dX0_keepIfBetter_28 : decode cX0_keepIfBetter 28 = .ok (.getfield 53, 3) := by decide +kernel
theorem dX0_keepIfBetter_31 : decode cX0_keepIfBetter 31 = .ok (.if_icmp .lt 4, 3) := by decide +kernel
theorem dX0_keepIfBetter_34 : decode cX0_keepIfBetter 34 = .ok (.return_, 1) := by decide +kernel
theorem dX0_keepIfBetter_35 : decode cX0_keepIfBetter 35 = .ok (.aload_n 0, 1) := by decide +kernel
theorem dX0_keepIfBetter_36 : decode cX0_keepIfBetter 36 = .ok (.iload_n 1, 1) := by decide +kernel
theorem dX0_keepIfBetter_37 : decode cX0_keepIfBetter 37 = .ok (.putfield 50, 3) := by decide +kernel
theorem dX0_keepIfBetter_40 : decode cX0_keepIfBetter 40 = .ok (.aload_n 0, 1) := by decide +kernel
theorem dX0_keepIfBetter_41 : decode cX0_keepIfBetter 41 = .ok (.iload_n 2, 1) := by decide +kernel
theorem dX0_keepIfBetter_42 : decode cX0_keepIfBetter 42 = .ok (.putfield 53, 3) := by decide +kernel
theorem dX0_keepIfBetter_45 : decode cX0_keepIfBetter 45 = .ok (.iconst 0, 1) := by decide +kernel
theorem dX0_keepIfBetter_46 : decode cX0_keepIfBetter 46 = .ok (.istore_n 3, 1) := by decide +kernel
theorem dX0_keepIfBetter_47 : decode cX0_keepIfBetter 47 = .ok (.iload_n 3, 1) := by decide +kernel
theorem dX0_keepIfBetter_48 : decode cX0_keepIfBetter 48 = .ok (.bipush 6, 2) := by decide +kernel
theorem dX0_keepIfBetter_50 : decode cX0_keepIfBetter 50 = .ok (.if_icmp .ge 21, 3) := by decide +kernel
theorem dX0_keepIfBetter_53 : decode cX0_keepIfBetter 53 = .ok (.aload_n 0, 1) := by decide +kernel
theorem dX0_keepIfBetter_54 : decode cX0_keepIfBetter 54 = .ok (.getfield 30, 3) := by decide +kernel
theorem dX0_keepIfBetter_57 : decode cX0_keepIfBetter 57 = .ok (.iload_n 3, 1) := by decide +kernel
theorem dX0_keepIfBetter_58 : decode cX0_keepIfBetter 58 = .ok (.aload_n 0, 1) := by decide +kernel
theorem dX0_keepIfBetter_59 : decode cX0_keepIfBetter 59 = .ok (.getfield 27, 3) := by decide +kernel
theorem dX0_keepIfBetter_62 : decode cX0_keepIfBetter 62 = .ok (.iload_n 3, 1) := by decide +kernel
theorem dX0_keepIfBetter_63 : decode cX0_keepIfBetter 63 = .ok (.iaload, 1) := by decide +kernel
theorem dX0_keepIfBetter_64 : decode cX0_keepIfBetter 64 = .ok (.iastore, 1) := by decide +kernel
theorem dX0_keepIfBetter_65 : decode cX0_keepIfBetter 65 = .ok (.iinc 3 1, 3) := by decide +kernel
theorem dX0_keepIfBetter_68 : decode cX0_keepIfBetter 68 = .ok (.goto (-21), 3) := by decide +kernel
theorem dX0_keepIfBetter_71 : decode cX0_keepIfBetter 71 = .ok (.return_, 1) := by decide +kernel
noncomputable def f0_keepIfBetter_l47  : Int32 × OS → Option ((Int32 × OS) ⊕ (OS)) := fun t_47 => if (6 : Int32) ≤ t_47.1 then (Option.map Sum.inr (some t_47.2)) else (chk (inb t_47.1 6) (nm (t_47.2.1 6 t_47.1.toNatClampNeg) fun y_63 => chk (inb t_47.1 6) (nm (wI t_47.2 7 t_47.1.toNatClampNeg y_63) fun s0_64 => nm (t_47.1 + (1 : Int32)) fun n_65 => some (Sum.inl (n_65, s0_64)))))
noncomputable def f0_keepIfBetter_j35 (v1_j35 : Int32) (v2_j35 : Int32) (s0_j35 : OS) : Option (OS) := nm (wI s0_j35 0 12 v1_j35) fun s0_37 => nm (wI s0_37 0 13 v2_j35) fun s0_42 => loop (f0_keepIfBetter_l47) ((0 : Int32), s0_42)
noncomputable def f0_keepIfBetter_j34 (s0_j34 : OS) : Option (OS) := some s0_j34
noncomputable def f0_keepIfBetter (a1 : Int32) (s0 : OS) : Option (OS) := Option.bind (f0_lossesOfRow s0) fun q_1 => if q_1 = (-1 : Int32) then (f0_keepIfBetter_j34 s0) else (if a1 < (s0.1 0 12) then (f0_keepIfBetter_j34 s0) else (if a1 = (s0.1 0 12) then (if q_1 < (s0.1 0 13) then (f0_keepIfBetter_j35 a1 q_1 s0) else (f0_keepIfBetter_j34 s0)) else (f0_keepIfBetter_j35 a1 q_1 s0)))
set_option maxHeartbeats 4000000 in
set_option maxRecDepth 100000 in
theorem m0_keepIfBetter (l : Launch) (D : va_G) (ad : Nat → Nat) (cy : Nat → ClassId) (sz : Nat) (s0 s1 s2 s3 s4 s5 s6 s7 s8 s9 s10 : OS) (a1 : Int32) (r : OS) (h : f0_keepIfBetter a1 s0 = some r) : Met l yX0_keepIfBetter (wsOf yX0_keepIfBetter cX0_keepIfBetter 4 none) (rmL 1) (va_Pc ([.ref (ad 0), .int a1] : List Value) (PreG D cy (cellsC ad cy s0 s1 s2 s3 s4 s5 s6 s7 s8 s9 s10) sz (NC ad))) (QcV D ad 67 (cellsC ad cy r s1 s2 s3 s4 s5 s6 s7 s8 s9 s10) sz) 0 0 (Afr ad 67 sz) := by
  refine metG (own := RX0) (by decide) rfl (Nat.le_of_ble_eq_true rfl) fstC ?_ sz
  intro p e s m below meth c ls C0 hw hl
  obtain ⟨hx, hb, hml, hown, hts, hr, hlk, hK, hN⟩ := C0
  have hl : lv_has ls 4 [(0, .ref (ad 0)), (1, .int a1)] := hl
  generalize hQ : MQ below (QcV D ad 67 (cellsC ad cy r s1 s2 s3 s4 s5 s6 s7 s8 s9 s10) s.heap.size) ([.ref (ad 0), .int a1] : List Value).toArray s 0 0 (Afr ad 67 s.heap.size) = Q
  obtain ⟨H, hH⟩ : ∃ H : Heap, H = s.heap := ⟨_, rfl⟩
  obtain ⟨locs, hlc⟩ : ∃ L : List Loc, L = [] := ⟨_, rfl⟩
  have hw : Wd D (cellsC ad cy s0 s1 s2 s3 s4 s5 s6 s7 s8 s9 s10) (Afr ad 67 s.heap.size) s.heap H locs := by rw [hH, hlc]; exact hw
  suffices h0 : W p l e (rmL 1) s m ([.ref (ad 0), .int a1] : List Value).toArray below meth c H locs 0 0 Q (F0 m 0 ls []) by rw [hH, hlc] at h0; exact h0
  clear hH hlc
  unfold f0_keepIfBetter at h
  have hJ_35 : ∀ (v1_j35 : Int32) (v2_j35 : Int32) (s0_j35 : OS) (H : Heap) (locs : List Loc) (ls : Array Slot), f0_keepIfBetter_j35 v1_j35 v2_j35 s0_j35 = some r → Wd D (cellsC ad cy s0_j35 s1 s2 s3 s4 s5 s6 s7 s8 s9 s10) (Afr ad 67 s.heap.size) s.heap H locs → lv_has ls 4 [(0, .ref (ad 0)), (1, .int v1_j35), (2, .int v2_j35)] → W p l e (rmL 1) s m ([.ref (ad 0), .int a1] : List Value).toArray below meth c H locs 0 0 Q (F0 m 35 ls []) := by
    intro v1_j35 v2_j35 s0_j35 H locs ls h hw hl
    unfold f0_keepIfBetter_j35 at h
    refine lv_aload_n hx hb dX0_keepIfBetter_35 rfl (lv_at hl 0 rfl) ?_
    refine lv_iload_n hx hb dX0_keepIfBetter_36 rfl (lv_at hl 1 rfl) ?_
    obtain ⟨s0_37, e_37, h⟩ := nam_e h
    refine pX0_50 hx hb hts hown hK hw e_37 dX0_keepIfBetter_37 (fun H locs hw => ?_)
    refine lv_aload_n hx hb dX0_keepIfBetter_40 rfl (lv_at hl 0 rfl) ?_
    refine lv_iload_n hx hb dX0_keepIfBetter_41 rfl (lv_at hl 2 rfl) ?_
    obtain ⟨s0_42, e_42, h⟩ := nam_e h
    refine pX0_53 hx hb hts hown hK hw e_42 dX0_keepIfBetter_42 (fun H locs hw => ?_)
    refine lv_iconst (v := 0) hx hb dX0_keepIfBetter_45 (by decide) ?_
    refine lv_istore_n (lv' := [(3, .int ((0 : Int32))), (0, .ref (ad 0)), (1, .int v1_j35), (2, .int v2_j35)]) hx hb dX0_keepIfBetter_46 rfl hl (by decide) rfl (fun ls hl => ?_)
    obtain ⟨n_47, hn_47⟩ := loop_e h
    have hL_47 : ∀ (n : Nat) (t_47 : Int32 × OS) (H : Heap) (locs : List Loc) (ls : Array Slot), loopN (f0_keepIfBetter_l47) n t_47 = some r → Wd D (cellsC ad cy t_47.2 s1 s2 s3 s4 s5 s6 s7 s8 s9 s10) (Afr ad 67 s.heap.size) s.heap H locs → lv_has ls 4 [(3, .int t_47.1), (0, .ref (ad 0))] → W p l e (rmL 1) s m ([.ref (ad 0), .int a1] : List Value).toArray below meth c H locs 0 0 Q (F0 m 47 ls []) := by
      intro n
      induction n with
      | zero => intro t_47 H locs ls hn; cases hn
      | succ n ih_47 =>
        intro t_47 H locs ls hn hw hl
        obtain ⟨x_47, h, hx_47⟩ := loopN_e hn
        unfold f0_keepIfBetter_l47 at h
        refine lv_iload_n hx hb dX0_keepIfBetter_47 rfl (lv_at hl 0 rfl) ?_
        refine lv_bipush (v := 6) hx hb dX0_keepIfBetter_48 (by decide) ?_
        refine lv_icmp_ge (tgt := 71) hx hb dX0_keepIfBetter_50 (by decide) (fun c_50 => ?_) (fun c_50 => ?_)
        · have h := ite_t c_50 h
          have h := nx_m hx_47 h
          have h := Option.some.inj h
          subst h
          rw [← hQ]
          exact retV hx hb hr hlk hw dX0_keepIfBetter_71
        · have h := ite_f c_50 h
          refine lv_aload_n hx hb dX0_keepIfBetter_53 rfl (lv_at hl 1 rfl) ?_
          refine gX0_30 hx hb hts hown hK hw dX0_keepIfBetter_54 ?_
          refine lv_iload_n hx hb dX0_keepIfBetter_57 rfl (lv_at hl 0 rfl) ?_
          refine lv_aload_n hx hb dX0_keepIfBetter_58 rfl (lv_at hl 1 rfl) ?_
          refine gX0_27 hx hb hts hown hK hw dX0_keepIfBetter_59 ?_
          refine lv_iload_n hx hb dX0_keepIfBetter_62 rfl (lv_at hl 0 rfl) ?_
          obtain ⟨hi_63, h⟩ := chk_e h
          obtain ⟨y_63, e_63, h⟩ := nam_e h
          refine lC16 hx hb hK hw hi_63 e_63 dX0_keepIfBetter_63 ?_
          obtain ⟨hi_64, h⟩ := chk_e h
          obtain ⟨s0_64, e_64, h⟩ := nam_e h
          refine aC17 hx hb hK hw hi_64 e_64 dX0_keepIfBetter_64 (fun H locs hw => ?_)
          obtain ⟨n_65, e_65, h⟩ := nam_e h
          refine lv_iinc (v := n_65) (lv' := [(3, .int n_65), (0, .ref (ad 0))]) hx hb dX0_keepIfBetter_65 hl (k := 0) rfl (by rw [e_65]; rfl) (by decide) rfl (fun ls hl => ?_)
          refine lv_goto (tgt := 47) hx hb dX0_keepIfBetter_68 (by decide) ?_
          exact ih_47 (n_65, s0_64) H locs ls (nx_l hx_47 h) hw (lv_sub hl [0, 1] rfl)
    exact hL_47 n_47 ((0 : Int32), s0_42) H locs ls hn_47 hw (lv_sub hl [0, 1] rfl)
  have hJ_34 : ∀ (s0_j34 : OS) (H : Heap) (locs : List Loc) (ls : Array Slot), f0_keepIfBetter_j34 s0_j34 = some r → Wd D (cellsC ad cy s0_j34 s1 s2 s3 s4 s5 s6 s7 s8 s9 s10) (Afr ad 67 s.heap.size) s.heap H locs → lv_has ls 4 [] → W p l e (rmL 1) s m ([.ref (ad 0), .int a1] : List Value).toArray below meth c H locs 0 0 Q (F0 m 34 ls []) := by
    intro s0_j34 H locs ls h hw hl
    unfold f0_keepIfBetter_j34 at h
    have h := Option.some.inj h
    subst h
    rw [← hQ]
    exact retV hx hb hr hlk hw dX0_keepIfBetter_34
  refine lv_aload_n hx hb dX0_keepIfBetter_0 rfl (lv_at hl 0 rfl) ?_
  obtain ⟨q_1, h_1, h⟩ := bnd_e h
  have pg_1 := preG (av := [.ref (ad 0)]) hK hw.1 hw.2.1 (NC_keep hN hw.2.2) NC_blind
  refine endI (mc := 0) (ms := 0) (va_runV (As := []) (rest := []) ⟨hx, hb, hml, hown, hts⟩ (m0_lossesOfRow l D ad cy H.size s0 s1 s2 s3 s4 s5 s6 s7 s8 s9 s10 q_1 h_1) (wX0_67 0 hts ⟨Nat.le_of_ble_eq_true rfl, Nat.le_of_ble_eq_true rfl⟩) ⟨pg_1.1, va_recv hK hw.1 (ci := 0) (q0 := 0) rfl eC_0, pg_1.2⟩ rfl rfl hl.1 rfl (lv_room (Nat.le_of_ble_eq_true rfl)) dX0_keepIfBetter_1 ⟨Nat.le_refl _, Nat.le_refl _⟩) hw.2.2 (afr_in hw.2.2) (fun H locs hw => ?_)
  refine lv_istore_n (lv' := [(2, .int q_1), (0, .ref (ad 0)), (1, .int a1)]) hx hb dX0_keepIfBetter_4 rfl hl (by decide) rfl (fun ls hl => ?_)
  refine lv_iload_n hx hb dX0_keepIfBetter_5 rfl (lv_at hl 0 rfl) ?_
  refine lv_iconst (v := (-1)) hx hb dX0_keepIfBetter_6 (by decide) ?_
  refine lv_icmp_eq (tgt := 34) hx hb dX0_keepIfBetter_7 (by decide) (fun c_7 => ?_) (fun c_7 => ?_)
  · have h := ite_t c_7 h
    exact hJ_34 s0 H locs ls h hw (lv_sub hl [] rfl)
  · have h := ite_f c_7 h
    refine lv_iload_n hx hb dX0_keepIfBetter_10 rfl (lv_at hl 2 rfl) ?_
    refine lv_aload_n hx hb dX0_keepIfBetter_11 rfl (lv_at hl 1 rfl) ?_
    refine gX0_50 hx hb hts hown hK hw dX0_keepIfBetter_12 ?_
    refine lv_icmp_lt (tgt := 34) hx hb dX0_keepIfBetter_15 (by decide) (fun c_15 => ?_) (fun c_15 => ?_)
    · have h := ite_t c_15 h
      exact hJ_34 s0 H locs ls h hw (lv_sub hl [] rfl)
    · have h := ite_f c_15 h
      refine lv_iload_n hx hb dX0_keepIfBetter_18 rfl (lv_at hl 2 rfl) ?_
      refine lv_aload_n hx hb dX0_keepIfBetter_19 rfl (lv_at hl 1 rfl) ?_
      refine gX0_50 hx hb hts hown hK hw dX0_keepIfBetter_20 ?_
      refine lv_icmp_ne (tgt := 35) hx hb dX0_keepIfBetter_23 (by decide) (fun c_23 => ?_) (fun c_23 => ?_)
      · have h := ite_f c_23 h
        exact hJ_35 a1 q_1 s0 H locs ls h hw (lv_sub hl [1, 2, 0] rfl)
      · have h := ite_t c_23 h
        refine lv_iload_n hx hb dX0_keepIfBetter_26 rfl (lv_at hl 0 rfl) ?_
        refine lv_aload_n hx hb dX0_keepIfBetter_27 rfl (lv_at hl 1 rfl) ?_
        refine gX0_53 hx hb hts hown hK hw dX0_keepIfBetter_28 ?_
        refine lv_icmp_lt (tgt := 35) hx hb dX0_keepIfBetter_31 (by decide) (fun c_31 => ?_) (fun c_31 => ?_)
        · have h := ite_t c_31 h
          exact hJ_35 a1 q_1 s0 H locs ls h hw (lv_sub hl [1, 2, 0] rfl)
        · have h := ite_f c_31 h
          exact hJ_34 s0 H locs ls h hw (lv_sub hl [] rfl)
theorem dX0_serve_0 : decode cX0_serve 0 = .ok (.aload_n 0, 1) := by decide +kernel
theorem dX0_serve_1 : decode cX0_serve 1 = .ok (.iload_n 1, 1) := by decide +kernel
theorem dX0_serve_2 : decode cX0_serve 2 = .ok (.invokevirtual 75, 3) := by decide +kernel
theorem dX0_serve_5 : decode cX0_serve 5 = .ok (.ifCond .ne 4, 3) := by decide +kernel
theorem dX0_serve_8 : decode cX0_serve 8 = .ok (.return_, 1) := by decide +kernel
theorem dX0_serve_9 : decode cX0_serve 9 = .ok (.aload_n 0, 1) := by decide +kernel
theorem dX0_serve_10 : decode cX0_serve 10 = .ok (.getfield 27, 3) := by decide +kernel
theorem dX0_serve_13 : decode cX0_serve 13 = .ok (.iload_n 1, 1) := by decide +kernel
theorem dX0_serve_14 : decode cX0_serve 14 = .ok (.iload_n 2, 1) := by decide +kernel
theorem dX0_serve_15 : decode cX0_serve 15 = .ok (.iastore, 1) := by decide +kernel
theorem dX0_serve_16 : decode cX0_serve 16 = .ok (.iload_n 2, 1) := by decide +kernel
theorem dX0_serve_17 : decode cX0_serve 17 = .ok (.ifCond .lt 34, 3) := by decide +kernel
theorem dX0_serve_20 : decode cX0_serve 20 = .ok (.iload_n 2, 1) := by decide +kernel
theorem dX0_serve_21 : decode cX0_serve 21 = .ok (.iconst 4, 1) := by decide +kernel
theorem dX0_serve_22 : decode cX0_serve 22 = .ok (.if_icmp .ge 29, 3) := by decide +kernel
theorem dX0_serve_25 : decode cX0_serve 25 = .ok (.aload_n 0, 1) := by decide +kernel
theorem dX0_serve_26 : decode cX0_serve 26 = .ok (.getfield 33, 3) := by decide +kernel
theorem dX0_serve_29 : decode cX0_serve 29 = .ok (.iload_n 2, 1) := by decide +kernel
theorem dX0_serve_30 : decode cX0_serve 30 = .ok (.dup2, 1) := by decide +kernel
theorem dX0_serve_31 : decode cX0_serve 31 = .ok (.iaload, 1) := by decide +kernel
theorem dX0_serve_32 : decode cX0_serve 32 = .ok (.iconst 1, 1) := by decide +kernel
theorem dX0_serve_33 : decode cX0_serve 33 = .ok (.iadd, 1) := by decide +kernel
theorem dX0_serve_34 : decode cX0_serve 34 = .ok (.iastore, 1) := by decide +kernel
theorem dX0_serve_35 : decode cX0_serve 35 = .ok (.aload_n 0, 1) := by decide +kernel
theorem dX0_serve_36 : decode cX0_serve 36 = .ok (.getfield 36, 3) := by decide +kernel
theorem dX0_serve_39 : decode cX0_serve 39 = .ok (.iload_n 2, 1) := by decide +kernel
theorem dX0_serve_40 : decode cX0_serve 40 = .ok (.dup2, 1) := by decide +kernel
theorem dX0_serve_41 : decode cX0_serve 41 = .ok (.laload, 1) := by decide +kernel
theorem dX0_serve_42 : decode cX0_serve 42 = .ok (.aload_n 0, 1) := by decide +kernel
theorem dX0_serve_43 : decode cX0_serve 43 = .ok (.getfield 11, 3) := by decide +kernel
theorem dX0_serve_46 : decode cX0_serve 46 = .ok (.iload_n 1, 1) := by decide +kernel
theorem dX0_serve_47 : decode cX0_serve 47 = .ok (.iaload, 1) := by decide +kernel
theorem dX0_serve_48 : decode cX0_serve 48 = .ok (.i2l, 1) := by decide +kernel
theorem dX0_serve_49 : decode cX0_serve 49 = .ok (.ladd, 1) := by decide +kernel
theorem dX0_serve_50 : decode cX0_serve 50 = .ok (.lastore, 1) := by decide +kernel
theorem dX0_serve_51 : decode cX0_serve 51 = .ok (.return_, 1) := by decide +kernel
def f0_serve_j51 (s0_j51 : OS) : Option (OS) := some s0_j51
def f0_serve (a1 : Int32) (a2 : Int32) (s0 : OS) : Option (OS) := Option.bind (f0_has a1 s0) fun q_2 => if q_2 = 0 then (some s0) else (chk (inb a1 6) (nm (wI s0 6 a1.toNatClampNeg a2) fun s0_15 => if a2 < 0 then (f0_serve_j51 s0_15) else (if (4 : Int32) ≤ a2 then (f0_serve_j51 s0_15) else (chk (inb a2 4) (nm (s0_15.1 8 a2.toNatClampNeg) fun y_31 => chk (inb a2 4) (nm (wI s0_15 8 a2.toNatClampNeg ((y_31 + (1 : Int32)))) fun s0_34 => chk (inb a2 4) (nm (s0_34.2 9 a2.toNatClampNeg) fun y_41 => chk (inb a1 6) (nm (s0_34.1 1 a1.toNatClampNeg) fun y_47 => chk (inb a2 4) (nm (wL s0_34 9 a2.toNatClampNeg ((y_41 + (y_47).toInt64))) fun s0_50 => f0_serve_j51 s0_50)))))))))
set_option maxHeartbeats 4000000 in
set_option maxRecDepth 100000 in
theorem m0_serve (l : Launch) (D : va_G) (ad : Nat → Nat) (cy : Nat → ClassId) (sz : Nat) (s0 s1 s2 s3 s4 s5 s6 s7 s8 s9 s10 : OS) (a1 : Int32) (a2 : Int32) (r : OS) (h : f0_serve a1 a2 s0 = some r) : Met l yX0_serve (wsOf yX0_serve cX0_serve 3 none) (rmL 1) (va_Pc ([.ref (ad 0), .int a1, .int a2] : List Value) (PreG D cy (cellsC ad cy s0 s1 s2 s3 s4 s5 s6 s7 s8 s9 s10) sz (NC ad))) (QcV D ad 67 (cellsC ad cy r s1 s2 s3 s4 s5 s6 s7 s8 s9 s10) sz) 0 0 (Afr ad 67 sz) := by
  refine metG (own := RX0) (by decide) rfl (Nat.le_of_ble_eq_true rfl) fstC ?_ sz
  intro p e s m below meth c ls C0 hw hl
  obtain ⟨hx, hb, hml, hown, hts, hr, hlk, hK, hN⟩ := C0
  have hl : lv_has ls 3 [(0, .ref (ad 0)), (1, .int a1), (2, .int a2)] := hl
  generalize hQ : MQ below (QcV D ad 67 (cellsC ad cy r s1 s2 s3 s4 s5 s6 s7 s8 s9 s10) s.heap.size) ([.ref (ad 0), .int a1, .int a2] : List Value).toArray s 0 0 (Afr ad 67 s.heap.size) = Q
  obtain ⟨H, hH⟩ : ∃ H : Heap, H = s.heap := ⟨_, rfl⟩
  obtain ⟨locs, hlc⟩ : ∃ L : List Loc, L = [] := ⟨_, rfl⟩
  have hw : Wd D (cellsC ad cy s0 s1 s2 s3 s4 s5 s6 s7 s8 s9 s10) (Afr ad 67 s.heap.size) s.heap H locs := by rw [hH, hlc]; exact hw
  suffices h0 : W p l e (rmL 1) s m ([.ref (ad 0), .int a1, .int a2] : List Value).toArray below meth c H locs 0 0 Q (F0 m 0 ls []) by rw [hH, hlc] at h0; exact h0
  clear hH hlc
  unfold f0_serve at h
  have hJ_51 : ∀ (s0_j51 : OS) (H : Heap) (locs : List Loc) (ls : Array Slot), f0_serve_j51 s0_j51 = some r → Wd D (cellsC ad cy s0_j51 s1 s2 s3 s4 s5 s6 s7 s8 s9 s10) (Afr ad 67 s.heap.size) s.heap H locs → lv_has ls 3 [] → W p l e (rmL 1) s m ([.ref (ad 0), .int a1, .int a2] : List Value).toArray below meth c H locs 0 0 Q (F0 m 51 ls []) := by
    intro s0_j51 H locs ls h hw hl
    unfold f0_serve_j51 at h
    have h := Option.some.inj h
    subst h
    rw [← hQ]
    exact retV hx hb hr hlk hw dX0_serve_51
  refine lv_aload_n hx hb dX0_serve_0 rfl (lv_at hl 0 rfl) ?_
  refine lv_iload_n hx hb dX0_serve_1 rfl (lv_at hl 1 rfl) ?_
  obtain ⟨q_2, h_2, h⟩ := bnd_e h
  have pg_2 := preG (av := [.ref (ad 0), .int a1]) hK hw.1 hw.2.1 (NC_keep hN hw.2.2) NC_blind
  refine endI (mc := 0) (ms := 0) (va_runV (As := [.int a1]) (rest := []) ⟨hx, hb, hml, hown, hts⟩ (m0_has l D ad cy H.size s0 s1 s2 s3 s4 s5 s6 s7 s8 s9 s10 a1 q_2 h_2) (wX0_75 0 hts ⟨Nat.le_of_ble_eq_true rfl, Nat.le_of_ble_eq_true rfl⟩) ⟨pg_2.1, va_recv hK hw.1 (ci := 0) (q0 := 0) rfl eC_0, pg_2.2⟩ rfl rfl hl.1 rfl (lv_room (Nat.le_of_ble_eq_true rfl)) dX0_serve_2 ⟨Nat.le_refl _, Nat.le_refl _⟩) hw.2.2 (afr_in hw.2.2) (fun H locs hw => ?_)
  refine lv_if_ne (tgt := 9) hx hb dX0_serve_5 (by decide) (fun c_5 => ?_) (fun c_5 => ?_)
  · have h := ite_f c_5 h
    refine lv_aload_n hx hb dX0_serve_9 rfl (lv_at hl 0 rfl) ?_
    refine gX0_27 hx hb hts hown hK hw dX0_serve_10 ?_
    refine lv_iload_n hx hb dX0_serve_13 rfl (lv_at hl 1 rfl) ?_
    refine lv_iload_n hx hb dX0_serve_14 rfl (lv_at hl 2 rfl) ?_
    obtain ⟨hi_15, h⟩ := chk_e h
    obtain ⟨s0_15, e_15, h⟩ := nam_e h
    refine aC16 hx hb hK hw hi_15 e_15 dX0_serve_15 (fun H locs hw => ?_)
    refine lv_iload_n hx hb dX0_serve_16 rfl (lv_at hl 2 rfl) ?_
    refine lv_if_lt (tgt := 51) hx hb dX0_serve_17 (by decide) (fun c_17 => ?_) (fun c_17 => ?_)
    · have h := ite_t c_17 h
      exact hJ_51 s0_15 H locs ls h hw (lv_sub hl [] rfl)
    · have h := ite_f c_17 h
      refine lv_iload_n hx hb dX0_serve_20 rfl (lv_at hl 2 rfl) ?_
      refine lv_iconst (v := 4) hx hb dX0_serve_21 (by decide) ?_
      refine lv_icmp_ge (tgt := 51) hx hb dX0_serve_22 (by decide) (fun c_22 => ?_) (fun c_22 => ?_)
      · have h := ite_t c_22 h
        exact hJ_51 s0_15 H locs ls h hw (lv_sub hl [] rfl)
      · have h := ite_f c_22 h
        refine lv_aload_n hx hb dX0_serve_25 rfl (lv_at hl 0 rfl) ?_
        refine gX0_33 hx hb hts hown hK hw dX0_serve_26 ?_
        refine lv_iload_n hx hb dX0_serve_29 rfl (lv_at hl 2 rfl) ?_
        refine lv_dup2_11 hx hb dX0_serve_30 rfl rfl ?_
        obtain ⟨hi_31, h⟩ := chk_e h
        obtain ⟨y_31, e_31, h⟩ := nam_e h
        refine lC18 hx hb hK hw hi_31 e_31 dX0_serve_31 ?_
        refine lv_iconst (v := 1) hx hb dX0_serve_32 (by decide) ?_
        refine lv_iadd hx hb dX0_serve_33 ?_
        obtain ⟨hi_34, h⟩ := chk_e h
        obtain ⟨s0_34, e_34, h⟩ := nam_e h
        refine aC18 hx hb hK hw hi_34 e_34 dX0_serve_34 (fun H locs hw => ?_)
        refine lv_aload_n hx hb dX0_serve_35 rfl (lv_at hl 0 rfl) ?_
        refine gX0_36 hx hb hts hown hK hw dX0_serve_36 ?_
        refine lv_iload_n hx hb dX0_serve_39 rfl (lv_at hl 2 rfl) ?_
        refine lv_dup2_11 hx hb dX0_serve_40 rfl rfl ?_
        obtain ⟨hi_41, h⟩ := chk_e h
        obtain ⟨y_41, e_41, h⟩ := nam_e h
        refine lC19 hx hb hK hw hi_41 e_41 dX0_serve_41 ?_
        refine lv_aload_n hx hb dX0_serve_42 rfl (lv_at hl 0 rfl) ?_
        refine gX0_11 hx hb hts hown hK hw dX0_serve_43 ?_
        refine lv_iload_n hx hb dX0_serve_46 rfl (lv_at hl 1 rfl) ?_
        obtain ⟨hi_47, h⟩ := chk_e h
        obtain ⟨y_47, e_47, h⟩ := nam_e h
        refine lC11 hx hb hK hw hi_47 e_47 dX0_serve_47 ?_
        refine lv_i2l hx hb dX0_serve_48 rfl ?_
        refine lv_ladd hx hb dX0_serve_49 ?_
        obtain ⟨hi_50, h⟩ := chk_e h
        obtain ⟨s0_50, e_50, h⟩ := nam_e h
        refine aC19 hx hb hK hw hi_50 e_50 dX0_serve_50 (fun H locs hw => ?_)
        exact hJ_51 s0_50 H locs ls h hw (lv_sub hl [] rfl)
  · have h := ite_t c_5 h
    have h := Option.some.inj h
    subst h
    rw [← hQ]
    exact retV hx hb hr hlk hw dX0_serve_8
theorem dX0_unserve_0 : decode cX0_unserve 0 = .ok (.aload_n 0, 1) := by decide +kernel
theorem dX0_unserve_1 : decode cX0_unserve 1 = .ok (.iload_n 1, 1) := by decide +kernel
theorem dX0_unserve_2 : decode cX0_unserve 2 = .ok (.invokevirtual 75, 3) := by decide +kernel
theorem dX0_unserve_5 : decode cX0_unserve 5 = .ok (.ifCond .eq 38, 3) := by decide +kernel
theorem dX0_unserve_8 : decode cX0_unserve 8 = .ok (.iload_n 2, 1) := by decide +kernel
theorem dX0_unserve_9 : decode cX0_unserve 9 = .ok (.ifCond .lt 34, 3) := by decide +kernel
theorem dX0_unserve_12 : decode cX0_unserve 12 = .ok (.iload_n 2, 1) := by decide +kernel
theorem dX0_unserve_13 : decode cX0_unserve 13 = .ok (.iconst 4, 1) := by decide +kernel
theorem dX0_unserve_14 : decode cX0_unserve 14 = .ok (.if_icmp .ge 29, 3) := by decide +kernel
theorem dX0_unserve_17 : decode cX0_unserve 17 = .ok (.aload_n 0, 1) := by decide +kernel
theorem dX0_unserve_18 : decode cX0_unserve 18 = .ok (.getfield 33, 3) := by decide +kernel
theorem dX0_unserve_21 : decode cX0_unserve 21 = .ok (.iload_n 2, 1) := by decide +kernel
theorem dX0_unserve_22 : decode cX0_unserve 22 = .ok (.dup2, 1) := by decide +kernel
theorem dX0_unserve_23 : decode cX0_unserve 23 = .ok (.iaload, 1) := by decide +kernel
theorem dX0_unserve_24 : decode cX0_unserve 24 = .ok (.iconst 1, 1) := by decide +kernel
theorem dX0_unserve_25 : decode cX0_unserve 25 = .ok (.isub, 1) := by decide +kernel
theorem dX0_unserve_26 : decode cX0_unserve 26 = .ok (.iastore, 1) := by decide +kernel
theorem dX0_unserve_27 : decode cX0_unserve 27 = .ok (.aload_n 0, 1) := by decide +kernel
theorem dX0_unserve_28 : decode cX0_unserve 28 = .ok (.getfield 36, 3) := by decide +kernel
theorem dX0_unserve_31 : decode cX0_unserve 31 = .ok (.iload_n 2, 1) := by decide +kernel
theorem dX0_unserve_32 : decode cX0_unserve 32 = .ok (.dup2, 1) := by decide +kernel
theorem dX0_unserve_33 : decode cX0_unserve 33 = .ok (.laload, 1) := by decide +kernel
theorem dX0_unserve_34 : decode cX0_unserve 34 = .ok (.aload_n 0, 1) := by decide +kernel
theorem dX0_unserve_35 : decode cX0_unserve 35 = .ok (.getfield 11, 3) := by decide +kernel
theorem dX0_unserve_38 : decode cX0_unserve 38 = .ok (.iload_n 1, 1) := by decide +kernel
theorem dX0_unserve_39 : decode cX0_unserve 39 = .ok (.iaload, 1) := by decide +kernel
theorem dX0_unserve_40 : decode cX0_unserve 40 = .ok (.i2l, 1) := by decide +kernel
theorem dX0_unserve_41 : decode cX0_unserve 41 = .ok (.lsub, 1) := by decide +kernel
theorem dX0_unserve_42 : decode cX0_unserve 42 = .ok (.lastore, 1) := by decide +kernel
theorem dX0_unserve_43 : decode cX0_unserve 43 = .ok (.return_, 1) := by decide +kernel
def f0_unserve_j43 (s0_j43 : OS) : Option (OS) := some s0_j43
def f0_unserve (a1 : Int32) (a2 : Int32) (s0 : OS) : Option (OS) := Option.bind (f0_has a1 s0) fun q_2 => if q_2 = 0 then (f0_unserve_j43 s0) else (if a2 < 0 then (f0_unserve_j43 s0) else (if (4 : Int32) ≤ a2 then (f0_unserve_j43 s0) else (chk (inb a2 4) (nm (s0.1 8 a2.toNatClampNeg) fun y_23 => chk (inb a2 4) (nm (wI s0 8 a2.toNatClampNeg ((y_23 - (1 : Int32)))) fun s0_26 => chk (inb a2 4) (nm (s0_26.2 9 a2.toNatClampNeg) fun y_33 => chk (inb a1 6) (nm (s0_26.1 1 a1.toNatClampNeg) fun y_39 => chk (inb a2 4) (nm (wL s0_26 9 a2.toNatClampNeg ((y_33 - (y_39).toInt64))) fun s0_42 => f0_unserve_j43 s0_42))))))))
set_option maxHeartbeats 4000000 in
set_option maxRecDepth 100000 in
theorem m0_unserve (l : Launch) (D : va_G) (ad : Nat → Nat) (cy : Nat → ClassId) (sz : Nat) (s0 s1 s2 s3 s4 s5 s6 s7 s8 s9 s10 : OS) (a1 : Int32) (a2 : Int32) (r : OS) (h : f0_unserve a1 a2 s0 = some r) : Met l yX0_unserve (wsOf yX0_unserve cX0_unserve 3 none) (rmL 1) (va_Pc ([.ref (ad 0), .int a1, .int a2] : List Value) (PreG D cy (cellsC ad cy s0 s1 s2 s3 s4 s5 s6 s7 s8 s9 s10) sz (NC ad))) (QcV D ad 67 (cellsC ad cy r s1 s2 s3 s4 s5 s6 s7 s8 s9 s10) sz) 0 0 (Afr ad 67 sz) := by
  refine metG (own := RX0) (by decide) rfl (Nat.le_of_ble_eq_true rfl) fstC ?_ sz
  intro p e s m below meth c ls C0 hw hl
  obtain ⟨hx, hb, hml, hown, hts, hr, hlk, hK, hN⟩ := C0
  have hl : lv_has ls 3 [(0, .ref (ad 0)), (1, .int a1), (2, .int a2)] := hl
  generalize hQ : MQ below (QcV D ad 67 (cellsC ad cy r s1 s2 s3 s4 s5 s6 s7 s8 s9 s10) s.heap.size) ([.ref (ad 0), .int a1, .int a2] : List Value).toArray s 0 0 (Afr ad 67 s.heap.size) = Q
  obtain ⟨H, hH⟩ : ∃ H : Heap, H = s.heap := ⟨_, rfl⟩
  obtain ⟨locs, hlc⟩ : ∃ L : List Loc, L = [] := ⟨_, rfl⟩
  have hw : Wd D (cellsC ad cy s0 s1 s2 s3 s4 s5 s6 s7 s8 s9 s10) (Afr ad 67 s.heap.size) s.heap H locs := by rw [hH, hlc]; exact hw
  suffices h0 : W p l e (rmL 1) s m ([.ref (ad 0), .int a1, .int a2] : List Value).toArray below meth c H locs 0 0 Q (F0 m 0 ls []) by rw [hH, hlc] at h0; exact h0
  clear hH hlc
  unfold f0_unserve at h
  have hJ_43 : ∀ (s0_j43 : OS) (H : Heap) (locs : List Loc) (ls : Array Slot), f0_unserve_j43 s0_j43 = some r → Wd D (cellsC ad cy s0_j43 s1 s2 s3 s4 s5 s6 s7 s8 s9 s10) (Afr ad 67 s.heap.size) s.heap H locs → lv_has ls 3 [] → W p l e (rmL 1) s m ([.ref (ad 0), .int a1, .int a2] : List Value).toArray below meth c H locs 0 0 Q (F0 m 43 ls []) := by
    intro s0_j43 H locs ls h hw hl
    unfold f0_unserve_j43 at h
    have h := Option.some.inj h
    subst h
    rw [← hQ]
    exact retV hx hb hr hlk hw dX0_unserve_43
  refine lv_aload_n hx hb dX0_unserve_0 rfl (lv_at hl 0 rfl) ?_
  refine lv_iload_n hx hb dX0_unserve_1 rfl (lv_at hl 1 rfl) ?_
  obtain ⟨q_2, h_2, h⟩ := bnd_e h
  have pg_2 := preG (av := [.ref (ad 0), .int a1]) hK hw.1 hw.2.1 (NC_keep hN hw.2.2) NC_blind
  refine endI (mc := 0) (ms := 0) (va_runV (As := [.int a1]) (rest := []) ⟨hx, hb, hml, hown, hts⟩ (m0_has l D ad cy H.size s0 s1 s2 s3 s4 s5 s6 s7 s8 s9 s10 a1 q_2 h_2) (wX0_75 0 hts ⟨Nat.le_of_ble_eq_true rfl, Nat.le_of_ble_eq_true rfl⟩) ⟨pg_2.1, va_recv hK hw.1 (ci := 0) (q0 := 0) rfl eC_0, pg_2.2⟩ rfl rfl hl.1 rfl (lv_room (Nat.le_of_ble_eq_true rfl)) dX0_unserve_2 ⟨Nat.le_refl _, Nat.le_refl _⟩) hw.2.2 (afr_in hw.2.2) (fun H locs hw => ?_)
  refine lv_if_eq (tgt := 43) hx hb dX0_unserve_5 (by decide) (fun c_5 => ?_) (fun c_5 => ?_)
  · have h := ite_t c_5 h
    exact hJ_43 s0 H locs ls h hw (lv_sub hl [] rfl)
  · have h := ite_f c_5 h
    refine lv_iload_n hx hb dX0_unserve_8 rfl (lv_at hl 2 rfl) ?_
    refine lv_if_lt (tgt := 43) hx hb dX0_unserve_9 (by decide) (fun c_9 => ?_) (fun c_9 => ?_)
    · have h := ite_t c_9 h
      exact hJ_43 s0 H locs ls h hw (lv_sub hl [] rfl)
    · have h := ite_f c_9 h
      refine lv_iload_n hx hb dX0_unserve_12 rfl (lv_at hl 2 rfl) ?_
      refine lv_iconst (v := 4) hx hb dX0_unserve_13 (by decide) ?_
      refine lv_icmp_ge (tgt := 43) hx hb dX0_unserve_14 (by decide) (fun c_14 => ?_) (fun c_14 => ?_)
      · have h := ite_t c_14 h
        exact hJ_43 s0 H locs ls h hw (lv_sub hl [] rfl)
      · have h := ite_f c_14 h
        refine lv_aload_n hx hb dX0_unserve_17 rfl (lv_at hl 0 rfl) ?_
        refine gX0_33 hx hb hts hown hK hw dX0_unserve_18 ?_
        refine lv_iload_n hx hb dX0_unserve_21 rfl (lv_at hl 2 rfl) ?_
        refine lv_dup2_11 hx hb dX0_unserve_22 rfl rfl ?_
        obtain ⟨hi_23, h⟩ := chk_e h
        obtain ⟨y_23, e_23, h⟩ := nam_e h
        refine lC18 hx hb hK hw hi_23 e_23 dX0_unserve_23 ?_
        refine lv_iconst (v := 1) hx hb dX0_unserve_24 (by decide) ?_
        refine lv_isub hx hb dX0_unserve_25 ?_
        obtain ⟨hi_26, h⟩ := chk_e h
        obtain ⟨s0_26, e_26, h⟩ := nam_e h
        refine aC18 hx hb hK hw hi_26 e_26 dX0_unserve_26 (fun H locs hw => ?_)
        refine lv_aload_n hx hb dX0_unserve_27 rfl (lv_at hl 0 rfl) ?_
        refine gX0_36 hx hb hts hown hK hw dX0_unserve_28 ?_
        refine lv_iload_n hx hb dX0_unserve_31 rfl (lv_at hl 2 rfl) ?_
        refine lv_dup2_11 hx hb dX0_unserve_32 rfl rfl ?_
        obtain ⟨hi_33, h⟩ := chk_e h
        obtain ⟨y_33, e_33, h⟩ := nam_e h
        refine lC19 hx hb hK hw hi_33 e_33 dX0_unserve_33 ?_
        refine lv_aload_n hx hb dX0_unserve_34 rfl (lv_at hl 0 rfl) ?_
        refine gX0_11 hx hb hts hown hK hw dX0_unserve_35 ?_
        refine lv_iload_n hx hb dX0_unserve_38 rfl (lv_at hl 1 rfl) ?_
        obtain ⟨hi_39, h⟩ := chk_e h
        obtain ⟨y_39, e_39, h⟩ := nam_e h
        refine lC11 hx hb hK hw hi_39 e_39 dX0_unserve_39 ?_
        refine lv_i2l hx hb dX0_unserve_40 rfl ?_
        refine lv_lsub hx hb dX0_unserve_41 ?_
        obtain ⟨hi_42, h⟩ := chk_e h
        obtain ⟨s0_42, e_42, h⟩ := nam_e h
        refine aC19 hx hb hK hw hi_42 e_42 dX0_unserve_42 (fun H locs hw => ?_)
        exact hJ_43 s0_42 H locs ls h hw (lv_sub hl [] rfl)
theorem dX0_search_0 : decode cX0_search 0 = .ok (.iload_n 2, 1) := by decide +kernel
theorem dX0_search_1 : decode cX0_search 1 = .ok (.iload_n 3, 1) := by decide +kernel
theorem dX0_search_2 : decode cX0_search 2 = .ok (.iadd, 1) := by decide +kernel
theorem dX0_search_3 : decode cX0_search 3 = .ok (.aload_n 0, 1) := by decide +kernel
theorem dX0_search_4 : decode cX0_search 4 = .ok (.getfield 50, 3) := by decide +kernel
theorem dX0_search_7 : decode cX0_search 7 = .ok (.if_icmp .ge 4, 3) := by decide +kernel
theorem dX0_search_10 : decode cX0_search 10 = .ok (.return_, 1) := by decide +kernel
theorem dX0_search_11 : decode cX0_search 11 = .ok (.iload_n 1, 1) := by decide +kernel
theorem dX0_search_12 : decode cX0_search 12 = .ok (.ifCond .lt 17, 3) := by decide +kernel
theorem dX0_search_15 : decode cX0_search 15 = .ok (.iload_n 1, 1) := by decide +kernel
theorem dX0_search_16 : decode cX0_search 16 = .ok (.aload_n 0, 1) := by decide +kernel
theorem dX0_search_17 : decode cX0_search 17 = .ok (.getfield 40, 3) := by decide +kernel
theorem dX0_search_20 : decode cX0_search 20 = .ok (.if_icmp .ge 9, 3) := by decide +kernel
theorem dX0_search_23 : decode cX0_search 23 = .ok (.iload_n 1, 1) := by decide +kernel
theorem dX0_search_24 : decode cX0_search 24 = .ok (.bipush 6, 2) := by decide +kernel
theorem dX0_search_26 : decode cX0_search 26 = .ok (.if_icmp .lt 9, 3) := by decide +kernel
theorem dX0_search_29 : decode cX0_search 29 = .ok (.aload_n 0, 1) := by decide +kernel
theorem dX0_search_30 : decode cX0_search 30 = .ok (.iload_n 2, 1) := by decide +kernel
theorem dX0_search_31 : decode cX0_search 31 = .ok (.invokevirtual 81, 3) := by decide +kernel
theorem dX0_search_34 : decode cX0_search 34 = .ok (.return_, 1) := by decide +kernel
theorem dX0_search_35 : decode cX0_search 35 = .ok (.iconst 0, 1) := by decide +kernel
theorem dX0_search_36 : decode cX0_search 36 = .ok (.istore 4, 2) := by decide +kernel
theorem dX0_search_38 : decode cX0_search 38 = .ok (.iload 4, 2) := by decide +kernel
theorem dX0_search_40 : decode cX0_search 40 = .ok (.iconst 4, 1) := by decide +kernel
theorem dX0_search_41 : decode cX0_search 41 = .ok (.if_icmp .gt 66, 3) := by decide +kernel
theorem dX0_search_44 : decode cX0_search 44 = .ok (.aload_n 0, 1) := by decide +kernel
theorem dX0_search_45 : decode cX0_search 45 = .ok (.iload_n 1, 1) := by decide +kernel
theorem dX0_search_46 : decode cX0_search 46 = .ok (.iload 4, 2) := by decide +kernel
theorem dX0_search_48 : decode cX0_search 48 = .ok (.invokevirtual 59, 3) := by decide +kernel
theorem dX0_search_51 : decode cX0_search 51 = .ok (.ifCond .eq 50, 3) := by decide +kernel
theorem dX0_search_54 : decode cX0_search 54 = .ok (.aload_n 0, 1) := by decide +kernel
theorem dX0_search_55 : decode cX0_search 55 = .ok (.iload_n 1, 1) := by decide +kernel
theorem dX0_search_56 : decode cX0_search 56 = .ok (.iload 4, 2) := by decide +kernel
theorem dX0_search_58 : decode cX0_search 58 = .ok (.invokevirtual 63, 3) := by decide +kernel
theorem dX0_search_61 : decode cX0_search 61 = .ok (.aload_n 0, 1) := by decide +kernel
theorem dX0_search_62 : decode cX0_search 62 = .ok (.iload_n 1, 1) := by decide +kernel
theorem dX0_search_63 : decode cX0_search 63 = .ok (.iconst 1, 1) := by decide +kernel
theorem dX0_search_64 : decode cX0_search 64 = .ok (.iadd, 1) := by decide +kernel
theorem dX0_search_65 : decode cX0_search 65 = .ok (.iload 4, 2) := by decide +kernel
theorem dX0_search_67 : decode cX0_search 67 = .ok (.iconst 4, 1) := by decide +kernel
theorem dX0_search_68 : decode cX0_search 68 = .ok (.if_icmp .ne 7, 3) := by decide +kernel
theorem dX0_search_71 : decode cX0_search 71 = .ok (.iload_n 2, 1) := by decide +kernel
theorem dX0_search_72 : decode cX0_search 72 = .ok (.goto 11, 3) := by decide +kernel
theorem dX0_search_75 : decode cX0_search 75 = .ok (.iload_n 2, 1) := by decide +kernel
theorem dX0_search_76 : decode cX0_search 76 = .ok (.aload_n 0, 1) := by decide +kernel
theorem dX0_search_77 : decode cX0_search 77 = .ok (.getfield 15, 3) := by decide +kernel
theorem dX0_search_80 : decode cX0_search 80 = .ok (.iload_n 1, 1) := by decide +kernel
theorem dX0_search_81 : decode cX0_search 81 = .ok (.iaload, 1) := by decide +kernel
theorem dX0_search_82 : decode cX0_search 82 = .ok (.iadd, 1) := by decide +kernel
theorem dX0_search_83 : decode cX0_search 83 = .ok (.iload_n 3, 1) := by decide +kernel
theorem dX0_search_84 : decode cX0_search 84 = .ok (.aload_n 0, 1) := by decide +kernel
theorem dX0_search_85 : decode cX0_search 85 = .ok (.getfield 15, 3) := by decide +kernel
theorem dX0_search_88 : decode cX0_search 88 = .ok (.iload_n 1, 1) := by decide +kernel
theorem dX0_search_89 : decode cX0_search 89 = .ok (.iaload, 1) := by decide +kernel
theorem dX0_search_90 : decode cX0_search 90 = .ok (.isub, 1) := by decide +kernel
theorem dX0_search_91 : decode cX0_search 91 = .ok (.invokevirtual 71, 3) := by decide +kernel
theorem dX0_search_94 : decode cX0_search 94 = .ok (.aload_n 0, 1) := by decide +kernel
theorem dX0_search_95 : decode cX0_search 95 = .ok (.iload_n 1, 1) := by decide +kernel
theorem dX0_search_96 : decode cX0_search 96 = .ok (.iload 4, 2) := by decide +kernel
theorem dX0_search_98 : decode cX0_search 98 = .ok (.invokevirtual 85, 3) := by decide +kernel
theorem dX0_search_101 : decode cX0_search 101 = .ok (.iinc 4 1, 3) := by decide +kernel
theorem dX0_search_104 : decode cX0_search 104 = .ok (.goto (-66), 3) := by decide +kernel
theorem dX0_search_107 : decode cX0_search 107 = .ok (.return_, 1) := by decide +kernel
noncomputable def f0_search_b_j29 (rs : Int32 → Int32 → Int32 → OS → Option (OS)) (v2_j29 : Int32) (s0_j29 : OS) : Option (OS) := Option.bind (f0_keepIfBetter v2_j29 s0_j29) fun q_31 => some q_31
noncomputable def f0_search_b_j101 (rs : Int32 → Int32 → Int32 → OS → Option (OS)) (v1_j101 : Int32) (v2_j101 : Int32) (v3_j101 : Int32) (v4_j101 : Int32) (s0_j101 : OS) : Option ((Int32 × OS) ⊕ (OS)) := nm (v4_j101 + (1 : Int32)) fun n_101 => some (Sum.inl (n_101, s0_j101))
noncomputable def f0_search_b_j83 (rs : Int32 → Int32 → Int32 → OS → Option (OS)) (v1_j83 : Int32) (v2_j83 : Int32) (v3_j83 : Int32) (v4_j83 : Int32) (k1_j83 : Int32) (k2_j83 : Int32) (s0_j83 : OS) : Option ((Int32 × OS) ⊕ (OS)) := chk (inb v1_j83 6) (nm (s0_j83.1 2 v1_j83.toNatClampNeg) fun y_89 => Option.bind (rs k1_j83 k2_j83 ((v3_j83 - y_89)) s0_j83) fun q_91 => Option.bind (f0_unserve v1_j83 v4_j83 q_91) fun q_98 => f0_search_b_j101 rs v1_j83 v2_j83 v3_j83 v4_j83 q_98)
noncomputable def f0_search_b_l38 (rs : Int32 → Int32 → Int32 → OS → Option (OS)) (v1_i38 : Int32) (v2_i38 : Int32) (v3_i38 : Int32) : Int32 × OS → Option ((Int32 × OS) ⊕ (OS)) := fun t_38 => if (4 : Int32) < t_38.1 then (Option.map Sum.inr (some t_38.2)) else (Option.bind (f0_canServe v1_i38 t_38.1 t_38.2) fun q_48 => if q_48 = 0 then (f0_search_b_j101 rs v1_i38 v2_i38 v3_i38 t_38.1 t_38.2) else (Option.bind (f0_serve v1_i38 t_38.1 t_38.2) fun q_58 => if t_38.1 = (4 : Int32) then (f0_search_b_j83 rs v1_i38 v2_i38 v3_i38 t_38.1 ((v1_i38 + (1 : Int32))) v2_i38 q_58) else (chk (inb v1_i38 6) (nm (q_58.1 2 v1_i38.toNatClampNeg) fun y_81 => f0_search_b_j83 rs v1_i38 v2_i38 v3_i38 t_38.1 ((v1_i38 + (1 : Int32))) ((v2_i38 + y_81)) q_58))))
noncomputable def f0_search_b (rs : Int32 → Int32 → Int32 → OS → Option (OS)) (a1 : Int32) (a2 : Int32) (a3 : Int32) (s0 : OS) : Option (OS) := if (s0.1 0 12) ≤ (a2 + a3) then (if a1 < 0 then (f0_search_b_j29 rs a2 s0) else (if (s0.1 0 9) ≤ a1 then (f0_search_b_j29 rs a2 s0) else (if a1 < (6 : Int32) then (loop (f0_search_b_l38 rs a1 a2 a3) ((0 : Int32), s0)) else (f0_search_b_j29 rs a2 s0)))) else (some s0)
set_option maxHeartbeats 4000000 in
set_option maxRecDepth 100000 in
theorem m0_search_b (l : Launch) (rs : Int32 → Int32 → Int32 → OS → Option (OS)) (j : Nat) (hj : 8 ≤ j) (hrs : ∀ (D : va_G) (ad : Nat → Nat) (cy : Nat → ClassId) (sz : Nat) (s0 s1 s2 s3 s4 s5 s6 s7 s8 s9 s10 : OS) (a1 : Int32) (a2 : Int32) (a3 : Int32) (r : OS), rs a1 a2 a3 s0 = some r → Met l yX0_search (wsOf yX0_search cX0_search 5 none) (rmL (j)) (va_Pc ([.ref (ad 0), .int a1, .int a2, .int a3] : List Value) (PreG D cy (cellsC ad cy s0 s1 s2 s3 s4 s5 s6 s7 s8 s9 s10) sz (NC ad))) (QcV D ad 67 (cellsC ad cy r s1 s2 s3 s4 s5 s6 s7 s8 s9 s10) sz) 0 0 (Afr ad 67 sz)) (D : va_G) (ad : Nat → Nat) (cy : Nat → ClassId) (sz : Nat) (s0 s1 s2 s3 s4 s5 s6 s7 s8 s9 s10 : OS) (a1 : Int32) (a2 : Int32) (a3 : Int32) (r : OS) (h : f0_search_b rs a1 a2 a3 s0 = some r) : Met l yX0_search (wsOf yX0_search cX0_search 5 none) (rmL (j + 1)) (va_Pc ([.ref (ad 0), .int a1, .int a2, .int a3] : List Value) (PreG D cy (cellsC ad cy s0 s1 s2 s3 s4 s5 s6 s7 s8 s9 s10) sz (NC ad))) (QcV D ad 67 (cellsC ad cy r s1 s2 s3 s4 s5 s6 s7 s8 s9 s10) sz) 0 0 (Afr ad 67 sz) := by
  refine metG (own := RX0) (by decide) rfl (Nat.le_of_ble_eq_true rfl) fstC ?_ sz
  intro p e s m below meth c ls C0 hw hl
  obtain ⟨hx, hb, hml, hown, hts, hr, hlk, hK, hN⟩ := C0
  have hl : lv_has ls 5 [(0, .ref (ad 0)), (1, .int a1), (2, .int a2), (3, .int a3)] := hl
  generalize hQ : MQ below (QcV D ad 67 (cellsC ad cy r s1 s2 s3 s4 s5 s6 s7 s8 s9 s10) s.heap.size) ([.ref (ad 0), .int a1, .int a2, .int a3] : List Value).toArray s 0 0 (Afr ad 67 s.heap.size) = Q
  obtain ⟨H, hH⟩ : ∃ H : Heap, H = s.heap := ⟨_, rfl⟩
  obtain ⟨locs, hlc⟩ : ∃ L : List Loc, L = [] := ⟨_, rfl⟩
  have hw : Wd D (cellsC ad cy s0 s1 s2 s3 s4 s5 s6 s7 s8 s9 s10) (Afr ad 67 s.heap.size) s.heap H locs := by rw [hH, hlc]; exact hw
  suffices h0 : W p l e (rmL (j + 1)) s m ([.ref (ad 0), .int a1, .int a2, .int a3] : List Value).toArray below meth c H locs 0 0 Q (F0 m 0 ls []) by rw [hH, hlc] at h0; exact h0
  clear hH hlc
  unfold f0_search_b at h
  have hJ_29 : ∀ (v2_j29 : Int32) (s0_j29 : OS) (H : Heap) (locs : List Loc) (ls : Array Slot), f0_search_b_j29 rs v2_j29 s0_j29 = some r → Wd D (cellsC ad cy s0_j29 s1 s2 s3 s4 s5 s6 s7 s8 s9 s10) (Afr ad 67 s.heap.size) s.heap H locs → lv_has ls 5 [(0, .ref (ad 0)), (2, .int v2_j29)] → W p l e (rmL (j + 1)) s m ([.ref (ad 0), .int a1, .int a2, .int a3] : List Value).toArray below meth c H locs 0 0 Q (F0 m 29 ls []) := by
    intro v2_j29 s0_j29 H locs ls h hw hl
    unfold f0_search_b_j29 at h
    refine lv_aload_n hx hb dX0_search_29 rfl (lv_at hl 0 rfl) ?_
    refine lv_iload_n hx hb dX0_search_30 rfl (lv_at hl 1 rfl) ?_
    obtain ⟨q_31, h_31, h⟩ := bnd_e h
    have pg_31 := preG (av := [.ref (ad 0), .int v2_j29]) hK hw.1 hw.2.1 (NC_keep hN hw.2.2) NC_blind
    refine endV (mc := 0) (ms := 0) (va_runV (As := [.int v2_j29]) (rest := []) ⟨hx, hb, hml, hown, hts⟩ (m0_keepIfBetter l D ad cy H.size s0_j29 s1 s2 s3 s4 s5 s6 s7 s8 s9 s10 v2_j29 q_31 h_31) (wX0_81 1 hts ⟨by show 1 + 1 ≤ (j + 1); omega, by show 8 + (4 + 11) + 40 * 1 ≤ 40 * (j + 1); omega⟩) ⟨pg_31.1, va_recv hK hw.1 (ci := 0) (q0 := 0) rfl eC_0, pg_31.2⟩ rfl rfl hl.1 rfl (lv_room (Nat.le_of_ble_eq_true rfl)) dX0_search_31 ⟨Nat.le_refl _, Nat.le_refl _⟩) hw.2.2 (afr_in hw.2.2) (fun H locs hw => ?_)
    have h := Option.some.inj h
    subst h
    rw [← hQ]
    exact retV hx hb hr hlk hw dX0_search_34
  refine lv_iload_n hx hb dX0_search_0 rfl (lv_at hl 2 rfl) ?_
  refine lv_iload_n hx hb dX0_search_1 rfl (lv_at hl 3 rfl) ?_
  refine lv_iadd hx hb dX0_search_2 ?_
  refine lv_aload_n hx hb dX0_search_3 rfl (lv_at hl 0 rfl) ?_
  refine gX0_50 hx hb hts hown hK hw dX0_search_4 ?_
  refine lv_icmp_ge (tgt := 11) hx hb dX0_search_7 (by decide) (fun c_7 => ?_) (fun c_7 => ?_)
  · have h := ite_t c_7 h
    refine lv_iload_n hx hb dX0_search_11 rfl (lv_at hl 1 rfl) ?_
    refine lv_if_lt (tgt := 29) hx hb dX0_search_12 (by decide) (fun c_12 => ?_) (fun c_12 => ?_)
    · have h := ite_t c_12 h
      exact hJ_29 a2 s0 H locs ls h hw (lv_sub hl [0, 2] rfl)
    · have h := ite_f c_12 h
      refine lv_iload_n hx hb dX0_search_15 rfl (lv_at hl 1 rfl) ?_
      refine lv_aload_n hx hb dX0_search_16 rfl (lv_at hl 0 rfl) ?_
      refine gX0_40 hx hb hts hown hK hw dX0_search_17 ?_
      refine lv_icmp_ge (tgt := 29) hx hb dX0_search_20 (by decide) (fun c_20 => ?_) (fun c_20 => ?_)
      · have h := ite_t c_20 h
        exact hJ_29 a2 s0 H locs ls h hw (lv_sub hl [0, 2] rfl)
      · have h := ite_f c_20 h
        refine lv_iload_n hx hb dX0_search_23 rfl (lv_at hl 1 rfl) ?_
        refine lv_bipush (v := 6) hx hb dX0_search_24 (by decide) ?_
        refine lv_icmp_lt (tgt := 35) hx hb dX0_search_26 (by decide) (fun c_26 => ?_) (fun c_26 => ?_)
        · have h := ite_t c_26 h
          refine lv_iconst (v := 0) hx hb dX0_search_35 (by decide) ?_
          refine lv_istore (lv' := [(4, .int ((0 : Int32))), (0, .ref (ad 0)), (1, .int a1), (2, .int a2), (3, .int a3)]) hx hb dX0_search_36 hl (by decide) rfl (fun ls hl => ?_)
          obtain ⟨n_38, hn_38⟩ := loop_e h
          have hL_38 : ∀ (n : Nat) (t_38 : Int32 × OS) (H : Heap) (locs : List Loc) (ls : Array Slot), loopN (f0_search_b_l38 rs a1 a2 a3) n t_38 = some r → Wd D (cellsC ad cy t_38.2 s1 s2 s3 s4 s5 s6 s7 s8 s9 s10) (Afr ad 67 s.heap.size) s.heap H locs → lv_has ls 5 [(4, .int t_38.1), (1, .int a1), (2, .int a2), (3, .int a3), (0, .ref (ad 0))] → W p l e (rmL (j + 1)) s m ([.ref (ad 0), .int a1, .int a2, .int a3] : List Value).toArray below meth c H locs 0 0 Q (F0 m 38 ls []) := by
            intro n
            induction n with
            | zero => intro t_38 H locs ls hn; cases hn
            | succ n ih_38 =>
              intro t_38 H locs ls hn hw hl
              obtain ⟨x_38, h, hx_38⟩ := loopN_e hn
              unfold f0_search_b_l38 at h
              have hJ_101 : ∀ (v4_j101 : Int32) (s0_j101 : OS) (H : Heap) (locs : List Loc) (ls : Array Slot), f0_search_b_j101 rs a1 a2 a3 v4_j101 s0_j101 = some x_38 → Wd D (cellsC ad cy s0_j101 s1 s2 s3 s4 s5 s6 s7 s8 s9 s10) (Afr ad 67 s.heap.size) s.heap H locs → lv_has ls 5 [(0, .ref (ad 0)), (1, .int a1), (2, .int a2), (3, .int a3), (4, .int v4_j101)] → W p l e (rmL (j + 1)) s m ([.ref (ad 0), .int a1, .int a2, .int a3] : List Value).toArray below meth c H locs 0 0 Q (F0 m 101 ls []) := by
                intro v4_j101 s0_j101 H locs ls h hw hl
                unfold f0_search_b_j101 at h
                obtain ⟨n_101, e_101, h⟩ := nam_e h
                refine lv_iinc (v := n_101) (lv' := [(4, .int n_101), (0, .ref (ad 0)), (1, .int a1), (2, .int a2), (3, .int a3)]) hx hb dX0_search_101 hl (k := 4) rfl (by rw [e_101]; rfl) (by decide) rfl (fun ls hl => ?_)
                refine lv_goto (tgt := 38) hx hb dX0_search_104 (by decide) ?_
                exact ih_38 (n_101, s0_j101) H locs ls (nx_l hx_38 h) hw (lv_sub hl [0, 2, 3, 4, 1] rfl)
              have hJ_83 : ∀ (v4_j83 : Int32) (k1_j83 : Int32) (k2_j83 : Int32) (s0_j83 : OS) (H : Heap) (locs : List Loc) (ls : Array Slot), f0_search_b_j83 rs a1 a2 a3 v4_j83 k1_j83 k2_j83 s0_j83 = some x_38 → Wd D (cellsC ad cy s0_j83 s1 s2 s3 s4 s5 s6 s7 s8 s9 s10) (Afr ad 67 s.heap.size) s.heap H locs → lv_has ls 5 [(0, .ref (ad 0)), (1, .int a1), (2, .int a2), (3, .int a3), (4, .int v4_j83)] → W p l e (rmL (j + 1)) s m ([.ref (ad 0), .int a1, .int a2, .int a3] : List Value).toArray below meth c H locs 0 0 Q (F0 m 83 ls [.int k2_j83, .int k1_j83, .ref (ad 0)]) := by
                intro v4_j83 k1_j83 k2_j83 s0_j83 H locs ls h hw hl
                unfold f0_search_b_j83 at h
                refine lv_iload_n hx hb dX0_search_83 rfl (lv_at hl 3 rfl) ?_
                refine lv_aload_n hx hb dX0_search_84 rfl (lv_at hl 0 rfl) ?_
                refine gX0_15 hx hb hts hown hK hw dX0_search_85 ?_
                refine lv_iload_n hx hb dX0_search_88 rfl (lv_at hl 1 rfl) ?_
                obtain ⟨hi_89, h⟩ := chk_e h
                obtain ⟨y_89, e_89, h⟩ := nam_e h
                refine lC12 hx hb hK hw hi_89 e_89 dX0_search_89 ?_
                refine lv_isub hx hb dX0_search_90 ?_
                obtain ⟨q_91, h_91, h⟩ := bnd_e h
                have pg_91 := preG (av := [.ref (ad 0), .int k1_j83, .int k2_j83, .int ((a3 - y_89))]) hK hw.1 hw.2.1 (NC_keep hN hw.2.2) NC_blind
                refine endV (mc := 0) (ms := 0) (va_runV (As := [.int k1_j83, .int k2_j83, .int ((a3 - y_89))]) (rest := []) ⟨hx, hb, hml, hown, hts⟩ (hrs D ad cy H.size s0_j83 s1 s2 s3 s4 s5 s6 s7 s8 s9 s10 k1_j83 k2_j83 ((a3 - y_89)) q_91 h_91) (wX0_71 j hts ⟨by show j + 1 ≤ (j + 1); omega, by show 8 + (5 + 11) + 40 * j ≤ 40 * (j + 1); omega⟩) ⟨pg_91.1, va_recv hK hw.1 (ci := 0) (q0 := 0) rfl eC_0, pg_91.2⟩ rfl rfl hl.1 rfl (lv_room (Nat.le_of_ble_eq_true rfl)) dX0_search_91 ⟨Nat.le_refl _, Nat.le_refl _⟩) hw.2.2 (afr_in hw.2.2) (fun H locs hw => ?_)
                refine lv_aload_n hx hb dX0_search_94 rfl (lv_at hl 0 rfl) ?_
                refine lv_iload_n hx hb dX0_search_95 rfl (lv_at hl 1 rfl) ?_
                refine lv_iload hx hb dX0_search_96 (lv_at hl 4 rfl) ?_
                obtain ⟨q_98, h_98, h⟩ := bnd_e h
                have pg_98 := preG (av := [.ref (ad 0), .int a1, .int v4_j83]) hK hw.1 hw.2.1 (NC_keep hN hw.2.2) NC_blind
                refine endV (mc := 0) (ms := 0) (va_runV (As := [.int a1, .int v4_j83]) (rest := []) ⟨hx, hb, hml, hown, hts⟩ (m0_unserve l D ad cy H.size q_91 s1 s2 s3 s4 s5 s6 s7 s8 s9 s10 a1 v4_j83 q_98 h_98) (wX0_85 1 hts ⟨by show 1 + 1 ≤ (j + 1); omega, by show 8 + (3 + 11) + 40 * 1 ≤ 40 * (j + 1); omega⟩) ⟨pg_98.1, va_recv hK hw.1 (ci := 0) (q0 := 0) rfl eC_0, pg_98.2⟩ rfl rfl hl.1 rfl (lv_room (Nat.le_of_ble_eq_true rfl)) dX0_search_98 ⟨Nat.le_refl _, Nat.le_refl _⟩) hw.2.2 (afr_in hw.2.2) (fun H locs hw => ?_)
                exact hJ_101 v4_j83 q_98 H locs ls h hw (lv_sub hl [0, 1, 2, 3, 4] rfl)
              refine lv_iload hx hb dX0_search_38 (lv_at hl 0 rfl) ?_
              refine lv_iconst (v := 4) hx hb dX0_search_40 (by decide) ?_
              refine lv_icmp_gt (tgt := 107) hx hb dX0_search_41 (by decide) (fun c_41 => ?_) (fun c_41 => ?_)
              · have h := ite_t c_41 h
                have h := nx_m hx_38 h
                have h := Option.some.inj h
                subst h
                rw [← hQ]
                exact retV hx hb hr hlk hw dX0_search_107
              · have h := ite_f c_41 h
                refine lv_aload_n hx hb dX0_search_44 rfl (lv_at hl 4 rfl) ?_
                refine lv_iload_n hx hb dX0_search_45 rfl (lv_at hl 1 rfl) ?_
                refine lv_iload hx hb dX0_search_46 (lv_at hl 0 rfl) ?_
                obtain ⟨q_48, h_48, h⟩ := bnd_e h
                have pg_48 := preG (av := [.ref (ad 0), .int a1, .int t_38.1]) hK hw.1 hw.2.1 (NC_keep hN hw.2.2) NC_blind
                refine endI (mc := 0) (ms := 0) (va_runV (As := [.int a1, .int t_38.1]) (rest := []) ⟨hx, hb, hml, hown, hts⟩ (m0_canServe l D ad cy H.size t_38.2 s1 s2 s3 s4 s5 s6 s7 s8 s9 s10 a1 t_38.1 q_48 h_48) (wX0_59 1 hts ⟨by show 1 + 1 ≤ (j + 1); omega, by show 8 + (5 + 11) + 40 * 1 ≤ 40 * (j + 1); omega⟩) ⟨pg_48.1, va_recv hK hw.1 (ci := 0) (q0 := 0) rfl eC_0, pg_48.2⟩ rfl rfl hl.1 rfl (lv_room (Nat.le_of_ble_eq_true rfl)) dX0_search_48 ⟨Nat.le_refl _, Nat.le_refl _⟩) hw.2.2 (afr_in hw.2.2) (fun H locs hw => ?_)
                refine lv_if_eq (tgt := 101) hx hb dX0_search_51 (by decide) (fun c_51 => ?_) (fun c_51 => ?_)
                · have h := ite_t c_51 h
                  exact hJ_101 t_38.1 t_38.2 H locs ls h hw (lv_sub hl [4, 1, 2, 3, 0] rfl)
                · have h := ite_f c_51 h
                  refine lv_aload_n hx hb dX0_search_54 rfl (lv_at hl 4 rfl) ?_
                  refine lv_iload_n hx hb dX0_search_55 rfl (lv_at hl 1 rfl) ?_
                  refine lv_iload hx hb dX0_search_56 (lv_at hl 0 rfl) ?_
                  obtain ⟨q_58, h_58, h⟩ := bnd_e h
                  have pg_58 := preG (av := [.ref (ad 0), .int a1, .int t_38.1]) hK hw.1 hw.2.1 (NC_keep hN hw.2.2) NC_blind
                  refine endV (mc := 0) (ms := 0) (va_runV (As := [.int a1, .int t_38.1]) (rest := []) ⟨hx, hb, hml, hown, hts⟩ (m0_serve l D ad cy H.size t_38.2 s1 s2 s3 s4 s5 s6 s7 s8 s9 s10 a1 t_38.1 q_58 h_58) (wX0_63 1 hts ⟨by show 1 + 1 ≤ (j + 1); omega, by show 8 + (3 + 11) + 40 * 1 ≤ 40 * (j + 1); omega⟩) ⟨pg_58.1, va_recv hK hw.1 (ci := 0) (q0 := 0) rfl eC_0, pg_58.2⟩ rfl rfl hl.1 rfl (lv_room (Nat.le_of_ble_eq_true rfl)) dX0_search_58 ⟨Nat.le_refl _, Nat.le_refl _⟩) hw.2.2 (afr_in hw.2.2) (fun H locs hw => ?_)
                  refine lv_aload_n hx hb dX0_search_61 rfl (lv_at hl 4 rfl) ?_
                  refine lv_iload_n hx hb dX0_search_62 rfl (lv_at hl 1 rfl) ?_
                  refine lv_iconst (v := 1) hx hb dX0_search_63 (by decide) ?_
                  refine lv_iadd hx hb dX0_search_64 ?_
                  refine lv_iload hx hb dX0_search_65 (lv_at hl 0 rfl) ?_
                  refine lv_iconst (v := 4) hx hb dX0_search_67 (by decide) ?_
                  refine lv_icmp_ne (tgt := 75) hx hb dX0_search_68 (by decide) (fun c_68 => ?_) (fun c_68 => ?_)
                  · have h := ite_f c_68 h
                    refine lv_iload_n hx hb dX0_search_75 rfl (lv_at hl 2 rfl) ?_
                    refine lv_aload_n hx hb dX0_search_76 rfl (lv_at hl 4 rfl) ?_
                    refine gX0_15 hx hb hts hown hK hw dX0_search_77 ?_
                    refine lv_iload_n hx hb dX0_search_80 rfl (lv_at hl 1 rfl) ?_
                    obtain ⟨hi_81, h⟩ := chk_e h
                    obtain ⟨y_81, e_81, h⟩ := nam_e h
                    refine lC12 hx hb hK hw hi_81 e_81 dX0_search_81 ?_
                    refine lv_iadd hx hb dX0_search_82 ?_
                    exact hJ_83 t_38.1 ((a1 + (1 : Int32))) ((a2 + y_81)) q_58 H locs ls h hw (lv_sub hl [4, 1, 2, 3, 0] rfl)
                  · have h := ite_t c_68 h
                    refine lv_iload_n hx hb dX0_search_71 rfl (lv_at hl 2 rfl) ?_
                    refine lv_goto (tgt := 83) hx hb dX0_search_72 (by decide) ?_
                    exact hJ_83 t_38.1 ((a1 + (1 : Int32))) a2 q_58 H locs ls h hw (lv_sub hl [4, 1, 2, 3, 0] rfl)
          exact hL_38 n_38 ((0 : Int32), s0) H locs ls hn_38 hw (lv_sub hl [0, 2, 3, 4, 1] rfl)
        · have h := ite_f c_26 h
          exact hJ_29 a2 s0 H locs ls h hw (lv_sub hl [0, 2] rfl)
  · have h := ite_f c_7 h
    have h := Option.some.inj h
    subst h
    rw [← hQ]
    exact retV hx hb hr hlk hw dX0_search_10
noncomputable def f0_search : Nat → Int32 → Int32 → Int32 → OS → Option (OS)
  | 0 => fun _ _ _ _ => none
  | d + 1 => f0_search_b (f0_search d)
theorem m0_search (l : Launch) : ∀ (d : Nat) (D : va_G) (ad : Nat → Nat) (cy : Nat → ClassId) (sz : Nat) (s0 s1 s2 s3 s4 s5 s6 s7 s8 s9 s10 : OS) (a1 : Int32) (a2 : Int32) (a3 : Int32) (r : OS), f0_search d a1 a2 a3 s0 = some r → Met l yX0_search (wsOf yX0_search cX0_search 5 none) (rmL (8 + 1 * d)) (va_Pc ([.ref (ad 0), .int a1, .int a2, .int a3] : List Value) (PreG D cy (cellsC ad cy s0 s1 s2 s3 s4 s5 s6 s7 s8 s9 s10) sz (NC ad))) (QcV D ad 67 (cellsC ad cy r s1 s2 s3 s4 s5 s6 s7 s8 s9 s10) sz) 0 0 (Afr ad 67 sz)
  | 0, D, ad, cy, sz, s0, s1, s2, s3, s4, s5, s6, s7, s8, s9, s10, a1, a2, a3, r, h => by cases h
  | d + 1, D, ad, cy, sz, s0, s1, s2, s3, s4, s5, s6, s7, s8, s9, s10, a1, a2, a3, r, h => m0_search_b l (f0_search d) (8 + 1 * d) (by omega) (m0_search l d) D ad cy sz s0 s1 s2 s3 s4 s5 s6 s7 s8 s9 s10 a1 a2 a3 r h
theorem dX0_serveNone_0 : decode cX0_serveNone 0 = .ok (.iconst 0, 1) := by decide +kernel
theorem dX0_serveNone_1 : decode cX0_serveNone 1 = .ok (.istore_n 1, 1) := by decide +kernel
theorem dX0_serveNone_2 : decode cX0_serveNone 2 = .ok (.iload_n 1, 1) := by decide +kernel
theorem dX0_serveNone_3 : decode cX0_serveNone 3 = .ok (.iconst 4, 1) := by decide +kernel
theorem dX0_serveNone_4 : decode cX0_serveNone 4 = .ok (.if_icmp .ge 23, 3) := by decide +kernel
theorem dX0_serveNone_7 : decode cX0_serveNone 7 = .ok (.aload_n 0, 1) := by decide +kernel
theorem dX0_serveNone_8 : decode cX0_serveNone 8 = .ok (.getfield 33, 3) := by decide +kernel
theorem dX0_serveNone_11 : decode cX0_serveNone 11 = .ok (.iload_n 1, 1) := by decide +kernel
theorem dX0_serveNone_12 : decode cX0_serveNone 12 = .ok (.iconst 0, 1) := by decide +kernel
theorem dX0_serveNone_13 : decode cX0_serveNone 13 = .ok (.iastore, 1) := by decide +kernel
theorem dX0_serveNone_14 : decode cX0_serveNone 14 = .ok (.aload_n 0, 1) := by decide +kernel
theorem dX0_serveNone_15 : decode cX0_serveNone 15 = .ok (.getfield 36, 3) := by decide +kernel
theorem dX0_serveNone_18 : decode cX0_serveNone 18 = .ok (.iload_n 1, 1) := by decide +kernel
theorem dX0_serveNone_19 : decode cX0_serveNone 19 = .ok (.lconst 0, 1) := by decide +kernel
theorem dX0_serveNone_20 : decode cX0_serveNone 20 = .ok (.lastore, 1) := by decide +kernel
theorem dX0_serveNone_21 : decode cX0_serveNone 21 = .ok (.iinc 1 1, 3) := by decide +kernel
theorem dX0_serveNone_24 : decode cX0_serveNone 24 = .ok (.goto (-22), 3) := by decide +kernel
theorem dX0_serveNone_27 : decode cX0_serveNone 27 = .ok (.return_, 1) := by decide +kernel
noncomputable def f0_serveNone_l2  : Int32 × OS → Option ((Int32 × OS) ⊕ (OS)) := fun t_2 => if (4 : Int32) ≤ t_2.1 then (Option.map Sum.inr (some t_2.2)) else (chk (inb t_2.1 4) (nm (wI t_2.2 8 t_2.1.toNatClampNeg ((0 : Int32))) fun s0_13 => chk (inb t_2.1 4) (nm (wL s0_13 9 t_2.1.toNatClampNeg ((0 : Int64))) fun s0_20 => nm (t_2.1 + (1 : Int32)) fun n_21 => some (Sum.inl (n_21, s0_20)))))
noncomputable def f0_serveNone (s0 : OS) : Option (OS) := loop (f0_serveNone_l2) ((0 : Int32), s0)
set_option maxHeartbeats 4000000 in
set_option maxRecDepth 100000 in
theorem m0_serveNone (l : Launch) (D : va_G) (ad : Nat → Nat) (cy : Nat → ClassId) (sz : Nat) (s0 s1 s2 s3 s4 s5 s6 s7 s8 s9 s10 : OS) (r : OS) (h : f0_serveNone s0 = some r) : Met l yX0_serveNone (wsOf yX0_serveNone cX0_serveNone 2 none) (rmL 0) (va_Pc ([.ref (ad 0)] : List Value) (PreG D cy (cellsC ad cy s0 s1 s2 s3 s4 s5 s6 s7 s8 s9 s10) sz (NC ad))) (QcV D ad 67 (cellsC ad cy r s1 s2 s3 s4 s5 s6 s7 s8 s9 s10) sz) 0 0 (Afr ad 67 sz) := by
  refine metG (own := RX0) (by decide) rfl (Nat.le_of_ble_eq_true rfl) fstC ?_ sz
  intro p e s m below meth c ls C0 hw hl
  obtain ⟨hx, hb, hml, hown, hts, hr, hlk, hK, hN⟩ := C0
  have hl : lv_has ls 2 [(0, .ref (ad 0))] := hl
  generalize hQ : MQ below (QcV D ad 67 (cellsC ad cy r s1 s2 s3 s4 s5 s6 s7 s8 s9 s10) s.heap.size) ([.ref (ad 0)] : List Value).toArray s 0 0 (Afr ad 67 s.heap.size) = Q
  obtain ⟨H, hH⟩ : ∃ H : Heap, H = s.heap := ⟨_, rfl⟩
  obtain ⟨locs, hlc⟩ : ∃ L : List Loc, L = [] := ⟨_, rfl⟩
  have hw : Wd D (cellsC ad cy s0 s1 s2 s3 s4 s5 s6 s7 s8 s9 s10) (Afr ad 67 s.heap.size) s.heap H locs := by rw [hH, hlc]; exact hw
  suffices h0 : W p l e (rmL 0) s m ([.ref (ad 0)] : List Value).toArray below meth c H locs 0 0 Q (F0 m 0 ls []) by rw [hH, hlc] at h0; exact h0
  clear hH hlc
  unfold f0_serveNone at h
  refine lv_iconst (v := 0) hx hb dX0_serveNone_0 (by decide) ?_
  refine lv_istore_n (lv' := [(1, .int ((0 : Int32))), (0, .ref (ad 0))]) hx hb dX0_serveNone_1 rfl hl (by decide) rfl (fun ls hl => ?_)
  obtain ⟨n_2, hn_2⟩ := loop_e h
  have hL_2 : ∀ (n : Nat) (t_2 : Int32 × OS) (H : Heap) (locs : List Loc) (ls : Array Slot), loopN (f0_serveNone_l2) n t_2 = some r → Wd D (cellsC ad cy t_2.2 s1 s2 s3 s4 s5 s6 s7 s8 s9 s10) (Afr ad 67 s.heap.size) s.heap H locs → lv_has ls 2 [(1, .int t_2.1), (0, .ref (ad 0))] → W p l e (rmL 0) s m ([.ref (ad 0)] : List Value).toArray below meth c H locs 0 0 Q (F0 m 2 ls []) := by
    intro n
    induction n with
    | zero => intro t_2 H locs ls hn; cases hn
    | succ n ih_2 =>
      intro t_2 H locs ls hn hw hl
      obtain ⟨x_2, h, hx_2⟩ := loopN_e hn
      unfold f0_serveNone_l2 at h
      refine lv_iload_n hx hb dX0_serveNone_2 rfl (lv_at hl 0 rfl) ?_
      refine lv_iconst (v := 4) hx hb dX0_serveNone_3 (by decide) ?_
      refine lv_icmp_ge (tgt := 27) hx hb dX0_serveNone_4 (by decide) (fun c_4 => ?_) (fun c_4 => ?_)
      · have h := ite_t c_4 h
        have h := nx_m hx_2 h
        have h := Option.some.inj h
        subst h
        rw [← hQ]
        exact retV hx hb hr hlk hw dX0_serveNone_27
      · have h := ite_f c_4 h
        refine lv_aload_n hx hb dX0_serveNone_7 rfl (lv_at hl 1 rfl) ?_
        refine gX0_33 hx hb hts hown hK hw dX0_serveNone_8 ?_
        refine lv_iload_n hx hb dX0_serveNone_11 rfl (lv_at hl 0 rfl) ?_
        refine lv_iconst (v := 0) hx hb dX0_serveNone_12 (by decide) ?_
        obtain ⟨hi_13, h⟩ := chk_e h
        obtain ⟨s0_13, e_13, h⟩ := nam_e h
        refine aC18 hx hb hK hw hi_13 e_13 dX0_serveNone_13 (fun H locs hw => ?_)
        refine lv_aload_n hx hb dX0_serveNone_14 rfl (lv_at hl 1 rfl) ?_
        refine gX0_36 hx hb hts hown hK hw dX0_serveNone_15 ?_
        refine lv_iload_n hx hb dX0_serveNone_18 rfl (lv_at hl 0 rfl) ?_
        refine lv_lconst (v := 0) hx hb dX0_serveNone_19 (by decide) ?_
        obtain ⟨hi_20, h⟩ := chk_e h
        obtain ⟨s0_20, e_20, h⟩ := nam_e h
        refine aC19 hx hb hK hw hi_20 e_20 dX0_serveNone_20 (fun H locs hw => ?_)
        obtain ⟨n_21, e_21, h⟩ := nam_e h
        refine lv_iinc (v := n_21) (lv' := [(1, .int n_21), (0, .ref (ad 0))]) hx hb dX0_serveNone_21 hl (k := 0) rfl (by rw [e_21]; rfl) (by decide) rfl (fun ls hl => ?_)
        refine lv_goto (tgt := 2) hx hb dX0_serveNone_24 (by decide) ?_
        exact ih_2 (n_21, s0_20) H locs ls (nx_l hx_2 h) hw (lv_sub hl [0, 1] rfl)
  exact hL_2 n_2 ((0 : Int32), s0) H locs ls hn_2 hw (lv_sub hl [0, 1] rfl)
theorem dX0_findBest_0 : decode cX0_findBest 0 = .ok (.aload_n 0, 1) := by decide +kernel
theorem dX0_findBest_1 : decode cX0_findBest 1 = .ok (.invokevirtual 56, 3) := by decide +kernel
theorem dX0_findBest_4 : decode cX0_findBest 4 = .ok (.aload_n 0, 1) := by decide +kernel
theorem dX0_findBest_5 : decode cX0_findBest 5 = .ok (.iconst (-1), 1) := by decide +kernel
theorem dX0_findBest_6 : decode cX0_findBest 6 = .ok (.putfield 50, 3) := by decide +kernel
theorem dX0_findBest_9 : decode cX0_findBest 9 = .ok (.aload_n 0, 1) := by decide +kernel
theorem dX0_findBest_10 : decode cX0_findBest 10 = .ok (.iconst 0, 1) := by decide +kernel
theorem dX0_findBest_11 : decode cX0_findBest 11 = .ok (.putfield 53, 3) := by decide +kernel
theorem dX0_findBest_14 : decode cX0_findBest 14 = .ok (.iconst 0, 1) := by decide +kernel
theorem dX0_findBest_15 : decode cX0_findBest 15 = .ok (.istore_n 1, 1) := by decide +kernel
theorem dX0_findBest_16 : decode cX0_findBest 16 = .ok (.iconst 0, 1) := by decide +kernel
theorem dX0_findBest_17 : decode cX0_findBest 17 = .ok (.istore_n 2, 1) := by decide +kernel
theorem dX0_findBest_18 : decode cX0_findBest 18 = .ok (.iload_n 2, 1) := by decide +kernel
theorem dX0_findBest_19 : decode cX0_findBest 19 = .ok (.aload_n 0, 1) := by decide +kernel
theorem dX0_findBest_20 : decode cX0_findBest 20 = .ok (.getfield 40, 3) := by decide +kernel
theorem dX0_findBest_23 : decode cX0_findBest 23 = .ok (.if_icmp .ge 24, 3) := by decide +kernel
theorem dX0_findBest_26 : decode cX0_findBest 26 = .ok (.iload_n 2, 1) := by decide +kernel
theorem dX0_findBest_27 : decode cX0_findBest 27 = .ok (.bipush 6, 2) := by decide +kernel
theorem dX0_findBest_29 : decode cX0_findBest 29 = .ok (.if_icmp .ge 18, 3) := by decide +kernel
theorem dX0_findBest_32 : decode cX0_findBest 32 = .ok (.iload_n 1, 1) := by decide +kernel
theorem dX0_findBest_33 : decode cX0_findBest 33 = .ok (.aload_n 0, 1) := by decide +kernel
theorem dX0_findBest_34 : decode cX0_findBest 34 = .ok (.getfield 15, 3) := by decide +kernel
theorem dX0_findBest_37 : decode cX0_findBest 37 = .ok (.iload_n 2, 1) := by decide +kernel
theorem dX0_findBest_38 : decode cX0_findBest 38 = .ok (.iaload, 1) := by decide +kernel
theorem dX0_findBest_39 : decode cX0_findBest 39 = .ok (.iadd, 1) := by decide +kernel
theorem dX0_findBest_40 : decode cX0_findBest 40 = .ok (.istore_n 1, 1) := by decide +kernel
theorem dX0_findBest_41 : decode cX0_findBest 41 = .ok (.iinc 2 1, 3) := by decide +kernel
theorem dX0_findBest_44 : decode cX0_findBest 44 = .ok (.goto (-26), 3) := by decide +kernel
theorem dX0_findBest_47 : decode cX0_findBest 47 = .ok (.aload_n 0, 1) := by decide +kernel
theorem dX0_findBest_48 : decode cX0_findBest 48 = .ok (.iconst 0, 1) := by decide +kernel
theorem dX0_findBest_49 : decode cX0_findBest 49 = .ok (.iconst 0, 1) := by decide +kernel
theorem dX0_findBest_50 : decode cX0_findBest 50 = .ok (.iload_n 1, 1) := by decide +kernel
theorem dX0_findBest_51 : decode cX0_findBest 51 = .ok (.invokevirtual 71, 3) := by decide +kernel
theorem dX0_findBest_54 : decode cX0_findBest 54 = .ok (.return_, 1) := by decide +kernel
noncomputable def f0_findBest_j47 (v1_j47 : Int32) (s0_j47 : OS) : Option (OS) := Option.bind (f0_search 8 ((0 : Int32)) ((0 : Int32)) v1_j47 s0_j47) fun q_51 => some q_51
noncomputable def f0_findBest_l18 (s0_i18 : OS) : Int32 × Int32 → Option ((Int32 × Int32) ⊕ (OS)) := fun t_18 => if (s0_i18.1 0 9) ≤ t_18.2 then (Option.map Sum.inr (f0_findBest_j47 t_18.1 s0_i18)) else (if (6 : Int32) ≤ t_18.2 then (Option.map Sum.inr (f0_findBest_j47 t_18.1 s0_i18)) else (chk (inb t_18.2 6) (nm (s0_i18.1 2 t_18.2.toNatClampNeg) fun y_38 => nm ((t_18.1 + y_38)) fun n_40 => nm (t_18.2 + (1 : Int32)) fun n_41 => some (Sum.inl (n_40, n_41)))))
noncomputable def f0_findBest (s0 : OS) : Option (OS) := Option.bind (f0_serveNone s0) fun q_1 => nm (wI q_1 0 12 ((-1 : Int32))) fun s0_6 => nm (wI s0_6 0 13 ((0 : Int32))) fun s0_11 => loop (f0_findBest_l18 s0_11) ((0 : Int32), (0 : Int32))
set_option maxHeartbeats 4000000 in
set_option maxRecDepth 100000 in
theorem m0_findBest (l : Launch) (D : va_G) (ad : Nat → Nat) (cy : Nat → ClassId) (sz : Nat) (s0 s1 s2 s3 s4 s5 s6 s7 s8 s9 s10 : OS) (r : OS) (h : f0_findBest s0 = some r) : Met l yX0_findBest (wsOf yX0_findBest cX0_findBest 3 none) (rmL 17) (va_Pc ([.ref (ad 0)] : List Value) (PreG D cy (cellsC ad cy s0 s1 s2 s3 s4 s5 s6 s7 s8 s9 s10) sz (NC ad))) (QcV D ad 67 (cellsC ad cy r s1 s2 s3 s4 s5 s6 s7 s8 s9 s10) sz) 0 0 (Afr ad 67 sz) := by
  refine metG (own := RX0) (by decide) rfl (Nat.le_of_ble_eq_true rfl) fstC ?_ sz
  intro p e s m below meth c ls C0 hw hl
  obtain ⟨hx, hb, hml, hown, hts, hr, hlk, hK, hN⟩ := C0
  have hl : lv_has ls 3 [(0, .ref (ad 0))] := hl
  generalize hQ : MQ below (QcV D ad 67 (cellsC ad cy r s1 s2 s3 s4 s5 s6 s7 s8 s9 s10) s.heap.size) ([.ref (ad 0)] : List Value).toArray s 0 0 (Afr ad 67 s.heap.size) = Q
  obtain ⟨H, hH⟩ : ∃ H : Heap, H = s.heap := ⟨_, rfl⟩
  obtain ⟨locs, hlc⟩ : ∃ L : List Loc, L = [] := ⟨_, rfl⟩
  have hw : Wd D (cellsC ad cy s0 s1 s2 s3 s4 s5 s6 s7 s8 s9 s10) (Afr ad 67 s.heap.size) s.heap H locs := by rw [hH, hlc]; exact hw
  suffices h0 : W p l e (rmL 17) s m ([.ref (ad 0)] : List Value).toArray below meth c H locs 0 0 Q (F0 m 0 ls []) by rw [hH, hlc] at h0; exact h0
  clear hH hlc
  unfold f0_findBest at h
  have hJ_47 : ∀ (v1_j47 : Int32) (s0_j47 : OS) (H : Heap) (locs : List Loc) (ls : Array Slot), f0_findBest_j47 v1_j47 s0_j47 = some r → Wd D (cellsC ad cy s0_j47 s1 s2 s3 s4 s5 s6 s7 s8 s9 s10) (Afr ad 67 s.heap.size) s.heap H locs → lv_has ls 3 [(0, .ref (ad 0)), (1, .int v1_j47)] → W p l e (rmL 17) s m ([.ref (ad 0)] : List Value).toArray below meth c H locs 0 0 Q (F0 m 47 ls []) := by
    intro v1_j47 s0_j47 H locs ls h hw hl
    unfold f0_findBest_j47 at h
    refine lv_aload_n hx hb dX0_findBest_47 rfl (lv_at hl 0 rfl) ?_
    refine lv_iconst (v := 0) hx hb dX0_findBest_48 (by decide) ?_
    refine lv_iconst (v := 0) hx hb dX0_findBest_49 (by decide) ?_
    refine lv_iload_n hx hb dX0_findBest_50 rfl (lv_at hl 1 rfl) ?_
    obtain ⟨q_51, h_51, h⟩ := bnd_e h
    have pg_51 := preG (av := [.ref (ad 0), .int ((0 : Int32)), .int ((0 : Int32)), .int v1_j47]) hK hw.1 hw.2.1 (NC_keep hN hw.2.2) NC_blind
    refine endV (mc := 0) (ms := 0) (va_runV (As := [.int ((0 : Int32)), .int ((0 : Int32)), .int v1_j47]) (rest := []) ⟨hx, hb, hml, hown, hts⟩ (m0_search l 8 D ad cy H.size s0_j47 s1 s2 s3 s4 s5 s6 s7 s8 s9 s10 ((0 : Int32)) ((0 : Int32)) v1_j47 q_51 h_51) (wX0_71 16 hts ⟨Nat.le_of_ble_eq_true rfl, Nat.le_of_ble_eq_true rfl⟩) ⟨pg_51.1, va_recv hK hw.1 (ci := 0) (q0 := 0) rfl eC_0, pg_51.2⟩ rfl rfl hl.1 rfl (lv_room (Nat.le_of_ble_eq_true rfl)) dX0_findBest_51 ⟨Nat.le_refl _, Nat.le_refl _⟩) hw.2.2 (afr_in hw.2.2) (fun H locs hw => ?_)
    have h := Option.some.inj h
    subst h
    rw [← hQ]
    exact retV hx hb hr hlk hw dX0_findBest_54
  refine lv_aload_n hx hb dX0_findBest_0 rfl (lv_at hl 0 rfl) ?_
  obtain ⟨q_1, h_1, h⟩ := bnd_e h
  have pg_1 := preG (av := [.ref (ad 0)]) hK hw.1 hw.2.1 (NC_keep hN hw.2.2) NC_blind
  refine endV (mc := 0) (ms := 0) (va_runV (As := []) (rest := []) ⟨hx, hb, hml, hown, hts⟩ (m0_serveNone l D ad cy H.size s0 s1 s2 s3 s4 s5 s6 s7 s8 s9 s10 q_1 h_1) (wX0_56 0 hts ⟨Nat.le_of_ble_eq_true rfl, Nat.le_of_ble_eq_true rfl⟩) ⟨pg_1.1, va_recv hK hw.1 (ci := 0) (q0 := 0) rfl eC_0, pg_1.2⟩ rfl rfl hl.1 rfl (lv_room (Nat.le_of_ble_eq_true rfl)) dX0_findBest_1 ⟨Nat.le_refl _, Nat.le_refl _⟩) hw.2.2 (afr_in hw.2.2) (fun H locs hw => ?_)
  refine lv_aload_n hx hb dX0_findBest_4 rfl (lv_at hl 0 rfl) ?_
  refine lv_iconst (v := (-1)) hx hb dX0_findBest_5 (by decide) ?_
  obtain ⟨s0_6, e_6, h⟩ := nam_e h
  refine pX0_50 hx hb hts hown hK hw e_6 dX0_findBest_6 (fun H locs hw => ?_)
  refine lv_aload_n hx hb dX0_findBest_9 rfl (lv_at hl 0 rfl) ?_
  refine lv_iconst (v := 0) hx hb dX0_findBest_10 (by decide) ?_
  obtain ⟨s0_11, e_11, h⟩ := nam_e h
  refine pX0_53 hx hb hts hown hK hw e_11 dX0_findBest_11 (fun H locs hw => ?_)
  refine lv_iconst (v := 0) hx hb dX0_findBest_14 (by decide) ?_
  refine lv_istore_n (lv' := [(1, .int ((0 : Int32))), (0, .ref (ad 0))]) hx hb dX0_findBest_15 rfl hl (by decide) rfl (fun ls hl => ?_)
  refine lv_iconst (v := 0) hx hb dX0_findBest_16 (by decide) ?_
  refine lv_istore_n (lv' := [(2, .int ((0 : Int32))), (1, .int ((0 : Int32))), (0, .ref (ad 0))]) hx hb dX0_findBest_17 rfl hl (by decide) rfl (fun ls hl => ?_)
  obtain ⟨n_18, hn_18⟩ := loop_e h
  have hL_18 : ∀ (n : Nat) (t_18 : Int32 × Int32) (H : Heap) (locs : List Loc) (ls : Array Slot), loopN (f0_findBest_l18 s0_11) n t_18 = some r → Wd D (cellsC ad cy s0_11 s1 s2 s3 s4 s5 s6 s7 s8 s9 s10) (Afr ad 67 s.heap.size) s.heap H locs → lv_has ls 3 [(1, .int t_18.1), (2, .int t_18.2), (0, .ref (ad 0))] → W p l e (rmL 17) s m ([.ref (ad 0)] : List Value).toArray below meth c H locs 0 0 Q (F0 m 18 ls []) := by
    intro n
    induction n with
    | zero => intro t_18 H locs ls hn; cases hn
    | succ n ih_18 =>
      intro t_18 H locs ls hn hw hl
      obtain ⟨x_18, h, hx_18⟩ := loopN_e hn
      unfold f0_findBest_l18 at h
      refine lv_iload_n hx hb dX0_findBest_18 rfl (lv_at hl 1 rfl) ?_
      refine lv_aload_n hx hb dX0_findBest_19 rfl (lv_at hl 2 rfl) ?_
      refine gX0_40 hx hb hts hown hK hw dX0_findBest_20 ?_
      refine lv_icmp_ge (tgt := 47) hx hb dX0_findBest_23 (by decide) (fun c_23 => ?_) (fun c_23 => ?_)
      · have h := ite_t c_23 h
        have h := nx_m hx_18 h
        exact hJ_47 t_18.1 s0_11 H locs ls h hw (lv_sub hl [2, 0] rfl)
      · have h := ite_f c_23 h
        refine lv_iload_n hx hb dX0_findBest_26 rfl (lv_at hl 1 rfl) ?_
        refine lv_bipush (v := 6) hx hb dX0_findBest_27 (by decide) ?_
        refine lv_icmp_ge (tgt := 47) hx hb dX0_findBest_29 (by decide) (fun c_29 => ?_) (fun c_29 => ?_)
        · have h := ite_t c_29 h
          have h := nx_m hx_18 h
          exact hJ_47 t_18.1 s0_11 H locs ls h hw (lv_sub hl [2, 0] rfl)
        · have h := ite_f c_29 h
          refine lv_iload_n hx hb dX0_findBest_32 rfl (lv_at hl 0 rfl) ?_
          refine lv_aload_n hx hb dX0_findBest_33 rfl (lv_at hl 2 rfl) ?_
          refine gX0_15 hx hb hts hown hK hw dX0_findBest_34 ?_
          refine lv_iload_n hx hb dX0_findBest_37 rfl (lv_at hl 1 rfl) ?_
          obtain ⟨hi_38, h⟩ := chk_e h
          obtain ⟨y_38, e_38, h⟩ := nam_e h
          refine lC12 hx hb hK hw hi_38 e_38 dX0_findBest_38 ?_
          refine lv_iadd hx hb dX0_findBest_39 ?_
          obtain ⟨n_40, e_40, h⟩ := nam_e h
          refine topI e_40 ?_
          refine lv_istore_n (lv' := [(1, .int n_40), (2, .int t_18.2), (0, .ref (ad 0))]) hx hb dX0_findBest_40 rfl hl (by decide) rfl (fun ls hl => ?_)
          obtain ⟨n_41, e_41, h⟩ := nam_e h
          refine lv_iinc (v := n_41) (lv' := [(2, .int n_41), (1, .int n_40), (0, .ref (ad 0))]) hx hb dX0_findBest_41 hl (k := 1) rfl (by rw [e_41]; rfl) (by decide) rfl (fun ls hl => ?_)
          refine lv_goto (tgt := 18) hx hb dX0_findBest_44 (by decide) ?_
          exact ih_18 (n_40, n_41) H locs ls (nx_l hx_18 h) hw (lv_sub hl [1, 0, 2] rfl)
  exact hL_18 n_18 ((0 : Int32), (0 : Int32)) H locs ls hn_18 hw (lv_sub hl [1, 0, 2] rfl)
theorem dX0_isRow_0 : decode cX0_isRow 0 = .ok (.iconst 1, 1) := by decide +kernel
theorem dX0_isRow_1 : decode cX0_isRow 1 = .ok (.istore_n 2, 1) := by decide +kernel
theorem dX0_isRow_2 : decode cX0_isRow 2 = .ok (.iconst 0, 1) := by decide +kernel
theorem dX0_isRow_3 : decode cX0_isRow 3 = .ok (.istore_n 3, 1) := by decide +kernel
theorem dX0_isRow_4 : decode cX0_isRow 4 = .ok (.iload_n 3, 1) := by decide +kernel
theorem dX0_isRow_5 : decode cX0_isRow 5 = .ok (.aload_n 0, 1) := by decide +kernel
theorem dX0_isRow_6 : decode cX0_isRow 6 = .ok (.getfield 40, 3) := by decide +kernel
theorem dX0_isRow_9 : decode cX0_isRow 9 = .ok (.if_icmp .ge 13, 3) := by decide +kernel
theorem dX0_isRow_12 : decode cX0_isRow 12 = .ok (.iload_n 2, 1) := by decide +kernel
theorem dX0_isRow_13 : decode cX0_isRow 13 = .ok (.iconst 5, 1) := by decide +kernel
theorem dX0_isRow_14 : decode cX0_isRow 14 = .ok (.imul, 1) := by decide +kernel
theorem dX0_isRow_15 : decode cX0_isRow 15 = .ok (.istore_n 2, 1) := by decide +kernel
theorem dX0_isRow_16 : decode cX0_isRow 16 = .ok (.iinc 3 1, 3) := by decide +kernel
theorem dX0_isRow_19 : decode cX0_isRow 19 = .ok (.goto (-15), 3) := by decide +kernel
theorem dX0_isRow_22 : decode cX0_isRow 22 = .ok (.iload_n 1, 1) := by decide +kernel
theorem dX0_isRow_23 : decode cX0_isRow 23 = .ok (.ifCond .lt 12, 3) := by decide +kernel
theorem dX0_isRow_26 : decode cX0_isRow 26 = .ok (.iload_n 1, 1) := by decide +kernel
theorem dX0_isRow_27 : decode cX0_isRow 27 = .ok (.iload_n 2, 1) := by decide +kernel
theorem dX0_isRow_28 : decode cX0_isRow 28 = .ok (.if_icmp .ge 7, 3) := by decide +kernel
theorem dX0_isRow_31 : decode cX0_isRow 31 = .ok (.iconst 1, 1) := by decide +kernel
theorem dX0_isRow_32 : decode cX0_isRow 32 = .ok (.goto 4, 3) := by decide +kernel
theorem dX0_isRow_35 : decode cX0_isRow 35 = .ok (.iconst 0, 1) := by decide +kernel
theorem dX0_isRow_36 : decode cX0_isRow 36 = .ok (.ireturn, 1) := by decide +kernel
noncomputable def f0_isRow_j36 (k0_j36 : Int32) (s0_j36 : OS) : Option (Int32) := chk (isB k0_j36) (some k0_j36)
noncomputable def f0_isRow_j35 (s0_j35 : OS) : Option (Int32) := f0_isRow_j36 ((0 : Int32)) s0_j35
noncomputable def f0_isRow_l4 (v1_i4 : Int32) (s0_i4 : OS) : Int32 × Int32 → Option ((Int32 × Int32) ⊕ (Int32)) := fun t_4 => if (s0_i4.1 0 9) ≤ t_4.2 then (Option.map Sum.inr (if v1_i4 < 0 then (f0_isRow_j35 s0_i4) else (if t_4.1 ≤ v1_i4 then (f0_isRow_j35 s0_i4) else (f0_isRow_j36 ((1 : Int32)) s0_i4)))) else (nm ((t_4.1 * (5 : Int32))) fun n_15 => nm (t_4.2 + (1 : Int32)) fun n_16 => some (Sum.inl (n_15, n_16)))
noncomputable def f0_isRow (a1 : Int32) (s0 : OS) : Option (Int32) := loop (f0_isRow_l4 a1 s0) ((1 : Int32), (0 : Int32))
set_option maxHeartbeats 4000000 in
set_option maxRecDepth 100000 in
theorem m0_isRow (l : Launch) (D : va_G) (ad : Nat → Nat) (cy : Nat → ClassId) (sz : Nat) (s0 s1 s2 s3 s4 s5 s6 s7 s8 s9 s10 : OS) (a1 : Int32) (r : Int32) (h : f0_isRow a1 s0 = some r) : Met l yX0_isRow (wsOf yX0_isRow cX0_isRow 4 (some .boolean)) (rmL 0) (va_Pc ([.ref (ad 0), .int a1] : List Value) (PreG D cy (cellsC ad cy s0 s1 s2 s3 s4 s5 s6 s7 s8 s9 s10) sz (NC ad))) (QcI D ad 67 (cellsC ad cy s0 s1 s2 s3 s4 s5 s6 s7 s8 s9 s10) (r) sz) 0 0 (Afr ad 67 sz) := by
  refine metG (own := RX0) (by decide) rfl (Nat.le_of_ble_eq_true rfl) fstC ?_ sz
  intro p e s m below meth c ls C0 hw hl
  obtain ⟨hx, hb, hml, hown, hts, hr, hlk, hK, hN⟩ := C0
  have hl : lv_has ls 4 [(0, .ref (ad 0)), (1, .int a1)] := hl
  generalize hQ : MQ below (QcI D ad 67 (cellsC ad cy s0 s1 s2 s3 s4 s5 s6 s7 s8 s9 s10) (r) s.heap.size) ([.ref (ad 0), .int a1] : List Value).toArray s 0 0 (Afr ad 67 s.heap.size) = Q
  obtain ⟨H, hH⟩ : ∃ H : Heap, H = s.heap := ⟨_, rfl⟩
  obtain ⟨locs, hlc⟩ : ∃ L : List Loc, L = [] := ⟨_, rfl⟩
  have hw : Wd D (cellsC ad cy s0 s1 s2 s3 s4 s5 s6 s7 s8 s9 s10) (Afr ad 67 s.heap.size) s.heap H locs := by rw [hH, hlc]; exact hw
  suffices h0 : W p l e (rmL 0) s m ([.ref (ad 0), .int a1] : List Value).toArray below meth c H locs 0 0 Q (F0 m 0 ls []) by rw [hH, hlc] at h0; exact h0
  clear hH hlc
  unfold f0_isRow at h
  have hJ_36 : ∀ (k0_j36 : Int32) (H : Heap) (locs : List Loc) (ls : Array Slot), f0_isRow_j36 k0_j36 s0 = some r → Wd D (cellsC ad cy s0 s1 s2 s3 s4 s5 s6 s7 s8 s9 s10) (Afr ad 67 s.heap.size) s.heap H locs → lv_has ls 4 [] → W p l e (rmL 0) s m ([.ref (ad 0), .int a1] : List Value).toArray below meth c H locs 0 0 Q (F0 m 36 ls [.int k0_j36]) := by
    intro k0_j36 H locs ls h hw hl
    unfold f0_isRow_j36 at h
    obtain ⟨hz_36, h⟩ := chk_e h
    have h := Option.some.inj h
    subst h
    rw [← hQ]
    exact retI hx hb hr hlk hw (narB hz_36) dX0_isRow_36
  have hJ_35 : ∀  (H : Heap) (locs : List Loc) (ls : Array Slot), f0_isRow_j35 s0 = some r → Wd D (cellsC ad cy s0 s1 s2 s3 s4 s5 s6 s7 s8 s9 s10) (Afr ad 67 s.heap.size) s.heap H locs → lv_has ls 4 [] → W p l e (rmL 0) s m ([.ref (ad 0), .int a1] : List Value).toArray below meth c H locs 0 0 Q (F0 m 35 ls []) := by
    intro  H locs ls h hw hl
    unfold f0_isRow_j35 at h
    refine lv_iconst (v := 0) hx hb dX0_isRow_35 (by decide) ?_
    exact hJ_36 ((0 : Int32)) H locs ls h hw (lv_sub hl [] rfl)
  refine lv_iconst (v := 1) hx hb dX0_isRow_0 (by decide) ?_
  refine lv_istore_n (lv' := [(2, .int ((1 : Int32))), (0, .ref (ad 0)), (1, .int a1)]) hx hb dX0_isRow_1 rfl hl (by decide) rfl (fun ls hl => ?_)
  refine lv_iconst (v := 0) hx hb dX0_isRow_2 (by decide) ?_
  refine lv_istore_n (lv' := [(3, .int ((0 : Int32))), (2, .int ((1 : Int32))), (0, .ref (ad 0)), (1, .int a1)]) hx hb dX0_isRow_3 rfl hl (by decide) rfl (fun ls hl => ?_)
  obtain ⟨n_4, hn_4⟩ := loop_e h
  have hL_4 : ∀ (n : Nat) (t_4 : Int32 × Int32) (H : Heap) (locs : List Loc) (ls : Array Slot), loopN (f0_isRow_l4 a1 s0) n t_4 = some r → Wd D (cellsC ad cy s0 s1 s2 s3 s4 s5 s6 s7 s8 s9 s10) (Afr ad 67 s.heap.size) s.heap H locs → lv_has ls 4 [(2, .int t_4.1), (3, .int t_4.2), (1, .int a1), (0, .ref (ad 0))] → W p l e (rmL 0) s m ([.ref (ad 0), .int a1] : List Value).toArray below meth c H locs 0 0 Q (F0 m 4 ls []) := by
    intro n
    induction n with
    | zero => intro t_4 H locs ls hn; cases hn
    | succ n ih_4 =>
      intro t_4 H locs ls hn hw hl
      obtain ⟨x_4, h, hx_4⟩ := loopN_e hn
      unfold f0_isRow_l4 at h
      refine lv_iload_n hx hb dX0_isRow_4 rfl (lv_at hl 1 rfl) ?_
      refine lv_aload_n hx hb dX0_isRow_5 rfl (lv_at hl 3 rfl) ?_
      refine gX0_40 hx hb hts hown hK hw dX0_isRow_6 ?_
      refine lv_icmp_ge (tgt := 22) hx hb dX0_isRow_9 (by decide) (fun c_9 => ?_) (fun c_9 => ?_)
      · have h := ite_t c_9 h
        have h := nx_m hx_4 h
        refine lv_iload_n hx hb dX0_isRow_22 rfl (lv_at hl 2 rfl) ?_
        refine lv_if_lt (tgt := 35) hx hb dX0_isRow_23 (by decide) (fun c_23 => ?_) (fun c_23 => ?_)
        · have h := ite_t c_23 h
          exact hJ_35  H locs ls h hw (lv_sub hl [] rfl)
        · have h := ite_f c_23 h
          refine lv_iload_n hx hb dX0_isRow_26 rfl (lv_at hl 2 rfl) ?_
          refine lv_iload_n hx hb dX0_isRow_27 rfl (lv_at hl 0 rfl) ?_
          refine lv_icmp_ge (tgt := 35) hx hb dX0_isRow_28 (by decide) (fun c_28 => ?_) (fun c_28 => ?_)
          · have h := ite_t c_28 h
            exact hJ_35  H locs ls h hw (lv_sub hl [] rfl)
          · have h := ite_f c_28 h
            refine lv_iconst (v := 1) hx hb dX0_isRow_31 (by decide) ?_
            refine lv_goto (tgt := 36) hx hb dX0_isRow_32 (by decide) ?_
            exact hJ_36 ((1 : Int32)) H locs ls h hw (lv_sub hl [] rfl)
      · have h := ite_f c_9 h
        refine lv_iload_n hx hb dX0_isRow_12 rfl (lv_at hl 0 rfl) ?_
        refine lv_iconst (v := 5) hx hb dX0_isRow_13 (by decide) ?_
        refine lv_imul hx hb dX0_isRow_14 ?_
        obtain ⟨n_15, e_15, h⟩ := nam_e h
        refine topI e_15 ?_
        refine lv_istore_n (lv' := [(2, .int n_15), (3, .int t_4.2), (1, .int a1), (0, .ref (ad 0))]) hx hb dX0_isRow_15 rfl hl (by decide) rfl (fun ls hl => ?_)
        obtain ⟨n_16, e_16, h⟩ := nam_e h
        refine lv_iinc (v := n_16) (lv' := [(3, .int n_16), (2, .int n_15), (1, .int a1), (0, .ref (ad 0))]) hx hb dX0_isRow_16 hl (k := 1) rfl (by rw [e_16]; rfl) (by decide) rfl (fun ls hl => ?_)
        refine lv_goto (tgt := 4) hx hb dX0_isRow_19 (by decide) ?_
        exact ih_4 (n_15, n_16) H locs ls (nx_l hx_4 h) hw (lv_sub hl [1, 0, 2, 3] rfl)
  exact hL_4 n_4 ((1 : Int32), (0 : Int32)) H locs ls hn_4 hw (lv_sub hl [1, 0, 3, 2] rfl)
theorem dX0_putAway_0 : decode cX0_putAway 0 = .ok (.aload_n 0, 1) := by decide +kernel
theorem dX0_putAway_1 : decode cX0_putAway 1 = .ok (.getfield 40, 3) := by decide +kernel
theorem dX0_putAway_4 : decode cX0_putAway 4 = .ok (.istore_n 1, 1) := by decide +kernel
theorem dX0_putAway_5 : decode cX0_putAway 5 = .ok (.aload_n 0, 1) := by decide +kernel
theorem dX0_putAway_6 : decode cX0_putAway 6 = .ok (.iconst 0, 1) := by decide +kernel
theorem dX0_putAway_7 : decode cX0_putAway 7 = .ok (.putfield 40, 3) := by decide +kernel
theorem dX0_putAway_10 : decode cX0_putAway 10 = .ok (.iload_n 1, 1) := by decide +kernel
theorem dX0_putAway_11 : decode cX0_putAway 11 = .ok (.ireturn, 1) := by decide +kernel
def f0_putAway (s0 : OS) : Option (Int32 × OS) := nm ((s0.1 0 9)) fun n_4 => nm (wI s0 0 9 ((0 : Int32))) fun s0_7 => some (n_4, s0_7)
set_option maxHeartbeats 4000000 in
set_option maxRecDepth 100000 in
theorem m0_putAway (l : Launch) (D : va_G) (ad : Nat → Nat) (cy : Nat → ClassId) (sz : Nat) (s0 s1 s2 s3 s4 s5 s6 s7 s8 s9 s10 : OS) (r : Int32 × OS) (h : f0_putAway s0 = some r) : Met l yX0_putAway (wsOf yX0_putAway cX0_putAway 2 (some .int)) (rmL 0) (va_Pc ([.ref (ad 0)] : List Value) (PreG D cy (cellsC ad cy s0 s1 s2 s3 s4 s5 s6 s7 s8 s9 s10) sz (NC ad))) (QcI D ad 67 (cellsC ad cy r.2 s1 s2 s3 s4 s5 s6 s7 s8 s9 s10) (r.1) sz) 0 0 (Afr ad 67 sz) := by
  refine metG (own := RX0) (by decide) rfl (Nat.le_of_ble_eq_true rfl) fstC ?_ sz
  intro p e s m below meth c ls C0 hw hl
  obtain ⟨hx, hb, hml, hown, hts, hr, hlk, hK, hN⟩ := C0
  have hl : lv_has ls 2 [(0, .ref (ad 0))] := hl
  generalize hQ : MQ below (QcI D ad 67 (cellsC ad cy r.2 s1 s2 s3 s4 s5 s6 s7 s8 s9 s10) (r.1) s.heap.size) ([.ref (ad 0)] : List Value).toArray s 0 0 (Afr ad 67 s.heap.size) = Q
  obtain ⟨H, hH⟩ : ∃ H : Heap, H = s.heap := ⟨_, rfl⟩
  obtain ⟨locs, hlc⟩ : ∃ L : List Loc, L = [] := ⟨_, rfl⟩
  have hw : Wd D (cellsC ad cy s0 s1 s2 s3 s4 s5 s6 s7 s8 s9 s10) (Afr ad 67 s.heap.size) s.heap H locs := by rw [hH, hlc]; exact hw
  suffices h0 : W p l e (rmL 0) s m ([.ref (ad 0)] : List Value).toArray below meth c H locs 0 0 Q (F0 m 0 ls []) by rw [hH, hlc] at h0; exact h0
  clear hH hlc
  unfold f0_putAway at h
  refine lv_aload_n hx hb dX0_putAway_0 rfl (lv_at hl 0 rfl) ?_
  refine gX0_40 hx hb hts hown hK hw dX0_putAway_1 ?_
  obtain ⟨n_4, e_4, h⟩ := nam_e h
  refine topI e_4 ?_
  refine lv_istore_n (lv' := [(1, .int n_4), (0, .ref (ad 0))]) hx hb dX0_putAway_4 rfl hl (by decide) rfl (fun ls hl => ?_)
  refine lv_aload_n hx hb dX0_putAway_5 rfl (lv_at hl 1 rfl) ?_
  refine lv_iconst (v := 0) hx hb dX0_putAway_6 (by decide) ?_
  obtain ⟨s0_7, e_7, h⟩ := nam_e h
  refine pX0_40 hx hb hts hown hK hw e_7 dX0_putAway_7 (fun H locs hw => ?_)
  refine lv_iload_n hx hb dX0_putAway_10 rfl (lv_at hl 0 rfl) ?_
  have h := Option.some.inj h
  subst h
  rw [← hQ]
  exact retI hx hb hr hlk hw rfl dX0_putAway_11
theorem dX0_setLoss_0 : decode cX0_setLoss 0 = .ok (.aload_n 0, 1) := by decide +kernel
theorem dX0_setLoss_1 : decode cX0_setLoss 1 = .ok (.iload_n 1, 1) := by decide +kernel
theorem dX0_setLoss_2 : decode cX0_setLoss 2 = .ok (.putfield 47, 3) := by decide +kernel
theorem dX0_setLoss_5 : decode cX0_setLoss 5 = .ok (.return_, 1) := by decide +kernel
def f0_setLoss (a1 : Int32) (s0 : OS) : Option (OS) := nm (wI s0 0 11 a1) fun s0_2 => some s0_2
set_option maxHeartbeats 4000000 in
set_option maxRecDepth 100000 in
theorem m0_setLoss (l : Launch) (D : va_G) (ad : Nat → Nat) (cy : Nat → ClassId) (sz : Nat) (s0 s1 s2 s3 s4 s5 s6 s7 s8 s9 s10 : OS) (a1 : Int32) (r : OS) (h : f0_setLoss a1 s0 = some r) : Met l yX0_setLoss (wsOf yX0_setLoss cX0_setLoss 2 none) (rmL 0) (va_Pc ([.ref (ad 0), .int a1] : List Value) (PreG D cy (cellsC ad cy s0 s1 s2 s3 s4 s5 s6 s7 s8 s9 s10) sz (NC ad))) (QcV D ad 67 (cellsC ad cy r s1 s2 s3 s4 s5 s6 s7 s8 s9 s10) sz) 0 0 (Afr ad 67 sz) := by
  refine metG (own := RX0) (by decide) rfl (Nat.le_of_ble_eq_true rfl) fstC ?_ sz
  intro p e s m below meth c ls C0 hw hl
  obtain ⟨hx, hb, hml, hown, hts, hr, hlk, hK, hN⟩ := C0
  have hl : lv_has ls 2 [(0, .ref (ad 0)), (1, .int a1)] := hl
  generalize hQ : MQ below (QcV D ad 67 (cellsC ad cy r s1 s2 s3 s4 s5 s6 s7 s8 s9 s10) s.heap.size) ([.ref (ad 0), .int a1] : List Value).toArray s 0 0 (Afr ad 67 s.heap.size) = Q
  obtain ⟨H, hH⟩ : ∃ H : Heap, H = s.heap := ⟨_, rfl⟩
  obtain ⟨locs, hlc⟩ : ∃ L : List Loc, L = [] := ⟨_, rfl⟩
  have hw : Wd D (cellsC ad cy s0 s1 s2 s3 s4 s5 s6 s7 s8 s9 s10) (Afr ad 67 s.heap.size) s.heap H locs := by rw [hH, hlc]; exact hw
  suffices h0 : W p l e (rmL 0) s m ([.ref (ad 0), .int a1] : List Value).toArray below meth c H locs 0 0 Q (F0 m 0 ls []) by rw [hH, hlc] at h0; exact h0
  clear hH hlc
  unfold f0_setLoss at h
  refine lv_aload_n hx hb dX0_setLoss_0 rfl (lv_at hl 0 rfl) ?_
  refine lv_iload_n hx hb dX0_setLoss_1 rfl (lv_at hl 1 rfl) ?_
  obtain ⟨s0_2, e_2, h⟩ := nam_e h
  refine pX0_47 hx hb hts hown hK hw e_2 dX0_setLoss_2 (fun H locs hw => ?_)
  have h := Option.some.inj h
  subst h
  rw [← hQ]
  exact retV hx hb hr hlk hw dX0_setLoss_5
theorem dX0_size_0 : decode cX0_size 0 = .ok (.aload_n 0, 1) := by decide +kernel
theorem dX0_size_1 : decode cX0_size 1 = .ok (.getfield 40, 3) := by decide +kernel
theorem dX0_size_4 : decode cX0_size 4 = .ok (.ireturn, 1) := by decide +kernel
def f0_size (s0 : OS) : Option (Int32) := some ((s0.1 0 9))
set_option maxHeartbeats 4000000 in
set_option maxRecDepth 100000 in
theorem m0_size (l : Launch) (D : va_G) (ad : Nat → Nat) (cy : Nat → ClassId) (sz : Nat) (s0 s1 s2 s3 s4 s5 s6 s7 s8 s9 s10 : OS) (r : Int32) (h : f0_size s0 = some r) : Met l yX0_size (wsOf yX0_size cX0_size 1 (some .int)) (rmL 0) (va_Pc ([.ref (ad 0)] : List Value) (PreG D cy (cellsC ad cy s0 s1 s2 s3 s4 s5 s6 s7 s8 s9 s10) sz (NC ad))) (QcI D ad 67 (cellsC ad cy s0 s1 s2 s3 s4 s5 s6 s7 s8 s9 s10) (r) sz) 0 0 (Afr ad 67 sz) := by
  refine metG (own := RX0) (by decide) rfl (Nat.le_of_ble_eq_true rfl) fstC ?_ sz
  intro p e s m below meth c ls C0 hw hl
  obtain ⟨hx, hb, hml, hown, hts, hr, hlk, hK, hN⟩ := C0
  have hl : lv_has ls 1 [(0, .ref (ad 0))] := hl
  generalize hQ : MQ below (QcI D ad 67 (cellsC ad cy s0 s1 s2 s3 s4 s5 s6 s7 s8 s9 s10) (r) s.heap.size) ([.ref (ad 0)] : List Value).toArray s 0 0 (Afr ad 67 s.heap.size) = Q
  obtain ⟨H, hH⟩ : ∃ H : Heap, H = s.heap := ⟨_, rfl⟩
  obtain ⟨locs, hlc⟩ : ∃ L : List Loc, L = [] := ⟨_, rfl⟩
  have hw : Wd D (cellsC ad cy s0 s1 s2 s3 s4 s5 s6 s7 s8 s9 s10) (Afr ad 67 s.heap.size) s.heap H locs := by rw [hH, hlc]; exact hw
  suffices h0 : W p l e (rmL 0) s m ([.ref (ad 0)] : List Value).toArray below meth c H locs 0 0 Q (F0 m 0 ls []) by rw [hH, hlc] at h0; exact h0
  clear hH hlc
  unfold f0_size at h
  refine lv_aload_n hx hb dX0_size_0 rfl (lv_at hl 0 rfl) ?_
  refine gX0_40 hx hb hts hown hK hw dX0_size_1 ?_
  have h := Option.some.inj h
  subst h
  rw [← hQ]
  exact retI hx hb hr hlk hw rfl dX0_size_4
theorem dX0_tellBest_0 : decode cX0_tellBest 0 = .ok (.iload_n 1, 1) := by decide +kernel
theorem dX0_tellBest_1 : decode cX0_tellBest 1 = .ok (.iconst (-1), 1) := by decide +kernel
theorem dX0_tellBest_2 : decode cX0_tellBest 2 = .ok (.if_icmp .ne 9, 3) := by decide +kernel
theorem dX0_tellBest_5 : decode cX0_tellBest 5 = .ok (.aload_n 0, 1) := by decide +kernel
theorem dX0_tellBest_6 : decode cX0_tellBest 6 = .ok (.getfield 50, 3) := by decide +kernel
theorem dX0_tellBest_9 : decode cX0_tellBest 9 = .ok (.i2l, 1) := by decide +kernel
theorem dX0_tellBest_10 : decode cX0_tellBest 10 = .ok (.lreturn, 1) := by decide +kernel
theorem dX0_tellBest_11 : decode cX0_tellBest 11 = .ok (.iload_n 1, 1) := by decide +kernel
theorem dX0_tellBest_12 : decode cX0_tellBest 12 = .ok (.bipush 10, 2) := by decide +kernel
theorem dX0_tellBest_14 : decode cX0_tellBest 14 = .ok (.if_icmp .ne 9, 3) := by decide +kernel
theorem dX0_tellBest_17 : decode cX0_tellBest 17 = .ok (.aload_n 0, 1) := by decide +kernel
theorem dX0_tellBest_18 : decode cX0_tellBest 18 = .ok (.getfield 53, 3) := by decide +kernel
theorem dX0_tellBest_21 : decode cX0_tellBest 21 = .ok (.i2l, 1) := by decide +kernel
theorem dX0_tellBest_22 : decode cX0_tellBest 22 = .ok (.lreturn, 1) := by decide +kernel
theorem dX0_tellBest_23 : decode cX0_tellBest 23 = .ok (.aload_n 0, 1) := by decide +kernel
theorem dX0_tellBest_24 : decode cX0_tellBest 24 = .ok (.iload_n 1, 1) := by decide +kernel
theorem dX0_tellBest_25 : decode cX0_tellBest 25 = .ok (.invokevirtual 75, 3) := by decide +kernel
theorem dX0_tellBest_28 : decode cX0_tellBest 28 = .ok (.ifCond .eq 13, 3) := by decide +kernel
theorem dX0_tellBest_31 : decode cX0_tellBest 31 = .ok (.aload_n 0, 1) := by decide +kernel
theorem dX0_tellBest_32 : decode cX0_tellBest 32 = .ok (.getfield 30, 3) := by decide +kernel
theorem dX0_tellBest_35 : decode cX0_tellBest 35 = .ok (.iload_n 1, 1) := by decide +kernel
theorem dX0_tellBest_36 : decode cX0_tellBest 36 = .ok (.iaload, 1) := by decide +kernel
theorem dX0_tellBest_37 : decode cX0_tellBest 37 = .ok (.i2l, 1) := by decide +kernel
theorem dX0_tellBest_38 : decode cX0_tellBest 38 = .ok (.goto 6, 3) := by decide +kernel
theorem dX0_tellBest_41 : decode cX0_tellBest 41 = .ok (.ldc2_w 79, 3) := by decide +kernel
theorem dX0_tellBest_44 : decode cX0_tellBest 44 = .ok (.lreturn, 1) := by decide +kernel
def f0_tellBest_j44 (k0_j44 : Int64) (s0_j44 : OS) : Option (Int64) := some k0_j44
def f0_tellBest (a1 : Int32) (s0 : OS) : Option (Int64) := if a1 = (-1 : Int32) then (some (((s0.1 0 12)).toInt64)) else (if a1 = (10 : Int32) then (some (((s0.1 0 13)).toInt64)) else (Option.bind (f0_has a1 s0) fun q_25 => if q_25 = 0 then (f0_tellBest_j44 ((-1 : Int64)) s0) else (chk (inb a1 6) (nm (s0.1 7 a1.toNatClampNeg) fun y_36 => f0_tellBest_j44 ((y_36).toInt64) s0))))
set_option maxHeartbeats 4000000 in
set_option maxRecDepth 100000 in
theorem m0_tellBest (l : Launch) (D : va_G) (ad : Nat → Nat) (cy : Nat → ClassId) (sz : Nat) (s0 s1 s2 s3 s4 s5 s6 s7 s8 s9 s10 : OS) (a1 : Int32) (r : Int64) (h : f0_tellBest a1 s0 = some r) : Met l yX0_tellBest (wsOf yX0_tellBest cX0_tellBest 2 (some .long)) (rmL 1) (va_Pc ([.ref (ad 0), .int a1] : List Value) (PreG D cy (cellsC ad cy s0 s1 s2 s3 s4 s5 s6 s7 s8 s9 s10) sz (NC ad))) (QcL D ad 67 (cellsC ad cy s0 s1 s2 s3 s4 s5 s6 s7 s8 s9 s10) (r) sz) 0 0 (Afr ad 67 sz) := by
  refine metG (own := RX0) (by decide) rfl (Nat.le_of_ble_eq_true rfl) fstC ?_ sz
  intro p e s m below meth c ls C0 hw hl
  obtain ⟨hx, hb, hml, hown, hts, hr, hlk, hK, hN⟩ := C0
  have hl : lv_has ls 2 [(0, .ref (ad 0)), (1, .int a1)] := hl
  generalize hQ : MQ below (QcL D ad 67 (cellsC ad cy s0 s1 s2 s3 s4 s5 s6 s7 s8 s9 s10) (r) s.heap.size) ([.ref (ad 0), .int a1] : List Value).toArray s 0 0 (Afr ad 67 s.heap.size) = Q
  obtain ⟨H, hH⟩ : ∃ H : Heap, H = s.heap := ⟨_, rfl⟩
  obtain ⟨locs, hlc⟩ : ∃ L : List Loc, L = [] := ⟨_, rfl⟩
  have hw : Wd D (cellsC ad cy s0 s1 s2 s3 s4 s5 s6 s7 s8 s9 s10) (Afr ad 67 s.heap.size) s.heap H locs := by rw [hH, hlc]; exact hw
  suffices h0 : W p l e (rmL 1) s m ([.ref (ad 0), .int a1] : List Value).toArray below meth c H locs 0 0 Q (F0 m 0 ls []) by rw [hH, hlc] at h0; exact h0
  clear hH hlc
  unfold f0_tellBest at h
  have hJ_44 : ∀ (k0_j44 : Int64) (H : Heap) (locs : List Loc) (ls : Array Slot), f0_tellBest_j44 k0_j44 s0 = some r → Wd D (cellsC ad cy s0 s1 s2 s3 s4 s5 s6 s7 s8 s9 s10) (Afr ad 67 s.heap.size) s.heap H locs → lv_has ls 2 [] → W p l e (rmL 1) s m ([.ref (ad 0), .int a1] : List Value).toArray below meth c H locs 0 0 Q (F0 m 44 ls [.long k0_j44]) := by
    intro k0_j44 H locs ls h hw hl
    unfold f0_tellBest_j44 at h
    have h := Option.some.inj h
    subst h
    rw [← hQ]
    exact retL hx hb hr hlk hw dX0_tellBest_44
  refine lv_iload_n hx hb dX0_tellBest_0 rfl (lv_at hl 1 rfl) ?_
  refine lv_iconst (v := (-1)) hx hb dX0_tellBest_1 (by decide) ?_
  refine lv_icmp_ne (tgt := 11) hx hb dX0_tellBest_2 (by decide) (fun c_2 => ?_) (fun c_2 => ?_)
  · have h := ite_f c_2 h
    refine lv_iload_n hx hb dX0_tellBest_11 rfl (lv_at hl 1 rfl) ?_
    refine lv_bipush (v := 10) hx hb dX0_tellBest_12 (by decide) ?_
    refine lv_icmp_ne (tgt := 23) hx hb dX0_tellBest_14 (by decide) (fun c_14 => ?_) (fun c_14 => ?_)
    · have h := ite_f c_14 h
      refine lv_aload_n hx hb dX0_tellBest_23 rfl (lv_at hl 0 rfl) ?_
      refine lv_iload_n hx hb dX0_tellBest_24 rfl (lv_at hl 1 rfl) ?_
      obtain ⟨q_25, h_25, h⟩ := bnd_e h
      have pg_25 := preG (av := [.ref (ad 0), .int a1]) hK hw.1 hw.2.1 (NC_keep hN hw.2.2) NC_blind
      refine endI (mc := 0) (ms := 0) (va_runV (As := [.int a1]) (rest := []) ⟨hx, hb, hml, hown, hts⟩ (m0_has l D ad cy H.size s0 s1 s2 s3 s4 s5 s6 s7 s8 s9 s10 a1 q_25 h_25) (wX0_75 0 hts ⟨Nat.le_of_ble_eq_true rfl, Nat.le_of_ble_eq_true rfl⟩) ⟨pg_25.1, va_recv hK hw.1 (ci := 0) (q0 := 0) rfl eC_0, pg_25.2⟩ rfl rfl hl.1 rfl (lv_room (Nat.le_of_ble_eq_true rfl)) dX0_tellBest_25 ⟨Nat.le_refl _, Nat.le_refl _⟩) hw.2.2 (afr_in hw.2.2) (fun H locs hw => ?_)
      refine lv_if_eq (tgt := 41) hx hb dX0_tellBest_28 (by decide) (fun c_28 => ?_) (fun c_28 => ?_)
      · have h := ite_t c_28 h
        refine lv_ldc2 (v := (-1)) hx hb hown (hts _ (wd_5 (w := .constantLong RX0 79 (-1)) (i := 194) (by decide +kernel) rfl)) dX0_tellBest_41 ?_
        exact hJ_44 ((-1 : Int64)) H locs ls h hw (lv_sub hl [] rfl)
      · have h := ite_f c_28 h
        refine lv_aload_n hx hb dX0_tellBest_31 rfl (lv_at hl 0 rfl) ?_
        refine gX0_30 hx hb hts hown hK hw dX0_tellBest_32 ?_
        refine lv_iload_n hx hb dX0_tellBest_35 rfl (lv_at hl 1 rfl) ?_
        obtain ⟨hi_36, h⟩ := chk_e h
        obtain ⟨y_36, e_36, h⟩ := nam_e h
        refine lC17 hx hb hK hw hi_36 e_36 dX0_tellBest_36 ?_
        refine lv_i2l hx hb dX0_tellBest_37 rfl ?_
        refine lv_goto (tgt := 44) hx hb dX0_tellBest_38 (by decide) ?_
        exact hJ_44 ((y_36).toInt64) H locs ls h hw (lv_sub hl [] rfl)
    · have h := ite_t c_14 h
      refine lv_aload_n hx hb dX0_tellBest_17 rfl (lv_at hl 0 rfl) ?_
      refine gX0_53 hx hb hts hown hK hw dX0_tellBest_18 ?_
      refine lv_i2l hx hb dX0_tellBest_21 rfl ?_
      have h := Option.some.inj h
      subst h
      rw [← hQ]
      exact retL hx hb hr hlk hw dX0_tellBest_22
  · have h := ite_t c_2 h
    refine lv_aload_n hx hb dX0_tellBest_5 rfl (lv_at hl 0 rfl) ?_
    refine gX0_50 hx hb hts hown hK hw dX0_tellBest_6 ?_
    refine lv_i2l hx hb dX0_tellBest_9 rfl ?_
    have h := Option.some.inj h
    subst h
    rw [← hQ]
    exact retL hx hb hr hlk hw dX0_tellBest_10
theorem dX0_worthOfRow_0 : decode cX0_worthOfRow 0 = .ok (.aload_n 0, 1) := by decide +kernel
theorem dX0_worthOfRow_1 : decode cX0_worthOfRow 1 = .ok (.invokevirtual 56, 3) := by decide +kernel
theorem dX0_worthOfRow_4 : decode cX0_worthOfRow 4 = .ok (.iload_n 1, 1) := by decide +kernel
theorem dX0_worthOfRow_5 : decode cX0_worthOfRow 5 = .ok (.istore_n 2, 1) := by decide +kernel
theorem dX0_worthOfRow_6 : decode cX0_worthOfRow 6 = .ok (.iconst 0, 1) := by decide +kernel
theorem dX0_worthOfRow_7 : decode cX0_worthOfRow 7 = .ok (.istore_n 3, 1) := by decide +kernel
theorem dX0_worthOfRow_8 : decode cX0_worthOfRow 8 = .ok (.iconst 0, 1) := by decide +kernel
theorem dX0_worthOfRow_9 : decode cX0_worthOfRow 9 = .ok (.istore 4, 2) := by decide +kernel
theorem dX0_worthOfRow_11 : decode cX0_worthOfRow 11 = .ok (.iload 4, 2) := by decide +kernel
theorem dX0_worthOfRow_13 : decode cX0_worthOfRow 13 = .ok (.aload_n 0, 1) := by decide +kernel
theorem dX0_worthOfRow_14 : decode cX0_worthOfRow 14 = .ok (.getfield 40, 3) := by decide +kernel
theorem dX0_worthOfRow_17 : decode cX0_worthOfRow 17 = .ok (.if_icmp .ge 67, 3) := by decide +kernel
theorem dX0_worthOfRow_20 : decode cX0_worthOfRow 20 = .ok (.iload 4, 2) := by decide +kernel
theorem dX0_worthOfRow_22 : decode cX0_worthOfRow 22 = .ok (.bipush 6, 2) := by decide +kernel
theorem dX0_worthOfRow_24 : decode cX0_worthOfRow 24 = .ok (.if_icmp .ge 60, 3) := by decide +kernel
theorem dX0_worthOfRow_27 : decode cX0_worthOfRow 27 = .ok (.iload_n 2, 1) := by decide +kernel
theorem dX0_worthOfRow_28 : decode cX0_worthOfRow 28 = .ok (.iconst 5, 1) := by decide +kernel
theorem dX0_worthOfRow_29 : decode cX0_worthOfRow 29 = .ok (.irem, 1) := by decide +kernel
theorem dX0_worthOfRow_30 : decode cX0_worthOfRow 30 = .ok (.istore 5, 2) := by decide +kernel
theorem dX0_worthOfRow_32 : decode cX0_worthOfRow 32 = .ok (.iload_n 2, 1) := by decide +kernel
theorem dX0_worthOfRow_33 : decode cX0_worthOfRow 33 = .ok (.iconst 5, 1) := by decide +kernel
theorem dX0_worthOfRow_34 : decode cX0_worthOfRow 34 = .ok (.idiv, 1) := by decide +kernel
theorem dX0_worthOfRow_35 : decode cX0_worthOfRow 35 = .ok (.istore_n 2, 1) := by decide +kernel
theorem dX0_worthOfRow_36 : decode cX0_worthOfRow 36 = .ok (.aload_n 0, 1) := by decide +kernel
theorem dX0_worthOfRow_37 : decode cX0_worthOfRow 37 = .ok (.iload 4, 2) := by decide +kernel
theorem dX0_worthOfRow_39 : decode cX0_worthOfRow 39 = .ok (.iload 5, 2) := by decide +kernel
theorem dX0_worthOfRow_41 : decode cX0_worthOfRow 41 = .ok (.invokevirtual 59, 3) := by decide +kernel
theorem dX0_worthOfRow_44 : decode cX0_worthOfRow 44 = .ok (.ifCond .ne 6, 3) := by decide +kernel
theorem dX0_worthOfRow_47 : decode cX0_worthOfRow 47 = .ok (.bipush (-2), 2) := by decide +kernel
theorem dX0_worthOfRow_49 : decode cX0_worthOfRow 49 = .ok (.ireturn, 1) := by decide +kernel
theorem dX0_worthOfRow_50 : decode cX0_worthOfRow 50 = .ok (.aload_n 0, 1) := by decide +kernel
theorem dX0_worthOfRow_51 : decode cX0_worthOfRow 51 = .ok (.iload 4, 2) := by decide +kernel
theorem dX0_worthOfRow_53 : decode cX0_worthOfRow 53 = .ok (.iload 5, 2) := by decide +kernel
theorem dX0_worthOfRow_55 : decode cX0_worthOfRow 55 = .ok (.invokevirtual 63, 3) := by decide +kernel
theorem dX0_worthOfRow_58 : decode cX0_worthOfRow 58 = .ok (.iload_n 3, 1) := by decide +kernel
theorem dX0_worthOfRow_59 : decode cX0_worthOfRow 59 = .ok (.iload 5, 2) := by decide +kernel
theorem dX0_worthOfRow_61 : decode cX0_worthOfRow 61 = .ok (.iconst 4, 1) := by decide +kernel
theorem dX0_worthOfRow_62 : decode cX0_worthOfRow 62 = .ok (.if_icmp .ne 7, 3) := by decide +kernel
theorem dX0_worthOfRow_65 : decode cX0_worthOfRow 65 = .ok (.iconst 0, 1) := by decide +kernel
theorem dX0_worthOfRow_66 : decode cX0_worthOfRow 66 = .ok (.goto 10, 3) := by decide +kernel
theorem dX0_worthOfRow_69 : decode cX0_worthOfRow 69 = .ok (.aload_n 0, 1) := by decide +kernel
theorem dX0_worthOfRow_70 : decode cX0_worthOfRow 70 = .ok (.getfield 15, 3) := by decide +kernel
theorem dX0_worthOfRow_73 : decode cX0_worthOfRow 73 = .ok (.iload 4, 2) := by decide +kernel
theorem dX0_worthOfRow_75 : decode cX0_worthOfRow 75 = .ok (.iaload, 1) := by decide +kernel
theorem dX0_worthOfRow_76 : decode cX0_worthOfRow 76 = .ok (.iadd, 1) := by decide +kernel
theorem dX0_worthOfRow_77 : decode cX0_worthOfRow 77 = .ok (.istore_n 3, 1) := by decide +kernel
theorem dX0_worthOfRow_78 : decode cX0_worthOfRow 78 = .ok (.iinc 4 1, 3) := by decide +kernel
theorem dX0_worthOfRow_81 : decode cX0_worthOfRow 81 = .ok (.goto (-70), 3) := by decide +kernel
theorem dX0_worthOfRow_84 : decode cX0_worthOfRow 84 = .ok (.aload_n 0, 1) := by decide +kernel
theorem dX0_worthOfRow_85 : decode cX0_worthOfRow 85 = .ok (.invokevirtual 67, 3) := by decide +kernel
theorem dX0_worthOfRow_88 : decode cX0_worthOfRow 88 = .ok (.iconst (-1), 1) := by decide +kernel
theorem dX0_worthOfRow_89 : decode cX0_worthOfRow 89 = .ok (.if_icmp .ne 8, 3) := by decide +kernel
theorem dX0_worthOfRow_92 : decode cX0_worthOfRow 92 = .ok (.bipush (-2), 2) := by decide +kernel
theorem dX0_worthOfRow_94 : decode cX0_worthOfRow 94 = .ok (.goto 4, 3) := by decide +kernel
theorem dX0_worthOfRow_97 : decode cX0_worthOfRow 97 = .ok (.iload_n 3, 1) := by decide +kernel
theorem dX0_worthOfRow_98 : decode cX0_worthOfRow 98 = .ok (.ireturn, 1) := by decide +kernel
noncomputable def f0_worthOfRow_j98 (k0_j98 : Int32) (s0_j98 : OS) : Option (Int32 × OS) := some (k0_j98, s0_j98)
noncomputable def f0_worthOfRow_j84 (v3_j84 : Int32) (s0_j84 : OS) : Option (Int32 × OS) := Option.bind (f0_lossesOfRow s0_j84) fun q_85 => if q_85 = (-1 : Int32) then (f0_worthOfRow_j98 ((-2 : Int32)) s0_j84) else (f0_worthOfRow_j98 v3_j84 s0_j84)
noncomputable def f0_worthOfRow_j76 (v2_j76 : Int32) (v4_j76 : Int32) (k0_j76 : Int32) (k1_j76 : Int32) (s0_j76 : OS) : Option ((Int32 × Int32 × Int32 × OS) ⊕ (Int32 × OS)) := nm ((k0_j76 + k1_j76)) fun n_77 => nm (v4_j76 + (1 : Int32)) fun n_78 => some (Sum.inl (v2_j76, n_77, n_78, s0_j76))
noncomputable def f0_worthOfRow_l11  : Int32 × Int32 × Int32 × OS → Option ((Int32 × Int32 × Int32 × OS) ⊕ (Int32 × OS)) := fun t_11 => if (t_11.2.2.2.1 0 9) ≤ t_11.2.2.1 then (Option.map Sum.inr (f0_worthOfRow_j84 t_11.2.1 t_11.2.2.2)) else (if (6 : Int32) ≤ t_11.2.2.1 then (Option.map Sum.inr (f0_worthOfRow_j84 t_11.2.1 t_11.2.2.2)) else (nm ((t_11.1 - t_11.1 / (5 : Int32) * (5 : Int32))) fun n_30 => nm ((t_11.1 / (5 : Int32))) fun n_35 => Option.bind (f0_canServe t_11.2.2.1 n_30 t_11.2.2.2) fun q_41 => if q_41 = 0 then (Option.map Sum.inr (some ((-2 : Int32), t_11.2.2.2))) else (Option.bind (f0_serve t_11.2.2.1 n_30 t_11.2.2.2) fun q_55 => if n_30 = (4 : Int32) then (f0_worthOfRow_j76 n_35 t_11.2.2.1 t_11.2.1 ((0 : Int32)) q_55) else (chk (inb t_11.2.2.1 6) (nm (q_55.1 2 t_11.2.2.1.toNatClampNeg) fun y_75 => f0_worthOfRow_j76 n_35 t_11.2.2.1 t_11.2.1 y_75 q_55)))))
noncomputable def f0_worthOfRow (a1 : Int32) (s0 : OS) : Option (Int32 × OS) := Option.bind (f0_serveNone s0) fun q_1 => loop (f0_worthOfRow_l11) (a1, (0 : Int32), (0 : Int32), q_1)
set_option maxHeartbeats 4000000 in
set_option maxRecDepth 100000 in
theorem m0_worthOfRow (l : Launch) (D : va_G) (ad : Nat → Nat) (cy : Nat → ClassId) (sz : Nat) (s0 s1 s2 s3 s4 s5 s6 s7 s8 s9 s10 : OS) (a1 : Int32) (r : Int32 × OS) (h : f0_worthOfRow a1 s0 = some r) : Met l yX0_worthOfRow (wsOf yX0_worthOfRow cX0_worthOfRow 6 (some .int)) (rmL 2) (va_Pc ([.ref (ad 0), .int a1] : List Value) (PreG D cy (cellsC ad cy s0 s1 s2 s3 s4 s5 s6 s7 s8 s9 s10) sz (NC ad))) (QcI D ad 67 (cellsC ad cy r.2 s1 s2 s3 s4 s5 s6 s7 s8 s9 s10) (r.1) sz) 0 0 (Afr ad 67 sz) := by
  refine metG (own := RX0) (by decide) rfl (Nat.le_of_ble_eq_true rfl) fstC ?_ sz
  intro p e s m below meth c ls C0 hw hl
  obtain ⟨hx, hb, hml, hown, hts, hr, hlk, hK, hN⟩ := C0
  have hl : lv_has ls 6 [(0, .ref (ad 0)), (1, .int a1)] := hl
  generalize hQ : MQ below (QcI D ad 67 (cellsC ad cy r.2 s1 s2 s3 s4 s5 s6 s7 s8 s9 s10) (r.1) s.heap.size) ([.ref (ad 0), .int a1] : List Value).toArray s 0 0 (Afr ad 67 s.heap.size) = Q
  obtain ⟨H, hH⟩ : ∃ H : Heap, H = s.heap := ⟨_, rfl⟩
  obtain ⟨locs, hlc⟩ : ∃ L : List Loc, L = [] := ⟨_, rfl⟩
  have hw : Wd D (cellsC ad cy s0 s1 s2 s3 s4 s5 s6 s7 s8 s9 s10) (Afr ad 67 s.heap.size) s.heap H locs := by rw [hH, hlc]; exact hw
  suffices h0 : W p l e (rmL 2) s m ([.ref (ad 0), .int a1] : List Value).toArray below meth c H locs 0 0 Q (F0 m 0 ls []) by rw [hH, hlc] at h0; exact h0
  clear hH hlc
  unfold f0_worthOfRow at h
  have hJ_98 : ∀ (k0_j98 : Int32) (s0_j98 : OS) (H : Heap) (locs : List Loc) (ls : Array Slot), f0_worthOfRow_j98 k0_j98 s0_j98 = some r → Wd D (cellsC ad cy s0_j98 s1 s2 s3 s4 s5 s6 s7 s8 s9 s10) (Afr ad 67 s.heap.size) s.heap H locs → lv_has ls 6 [] → W p l e (rmL 2) s m ([.ref (ad 0), .int a1] : List Value).toArray below meth c H locs 0 0 Q (F0 m 98 ls [.int k0_j98]) := by
    intro k0_j98 s0_j98 H locs ls h hw hl
    unfold f0_worthOfRow_j98 at h
    have h := Option.some.inj h
    subst h
    rw [← hQ]
    exact retI hx hb hr hlk hw rfl dX0_worthOfRow_98
  have hJ_84 : ∀ (v3_j84 : Int32) (s0_j84 : OS) (H : Heap) (locs : List Loc) (ls : Array Slot), f0_worthOfRow_j84 v3_j84 s0_j84 = some r → Wd D (cellsC ad cy s0_j84 s1 s2 s3 s4 s5 s6 s7 s8 s9 s10) (Afr ad 67 s.heap.size) s.heap H locs → lv_has ls 6 [(0, .ref (ad 0)), (3, .int v3_j84)] → W p l e (rmL 2) s m ([.ref (ad 0), .int a1] : List Value).toArray below meth c H locs 0 0 Q (F0 m 84 ls []) := by
    intro v3_j84 s0_j84 H locs ls h hw hl
    unfold f0_worthOfRow_j84 at h
    refine lv_aload_n hx hb dX0_worthOfRow_84 rfl (lv_at hl 0 rfl) ?_
    obtain ⟨q_85, h_85, h⟩ := bnd_e h
    have pg_85 := preG (av := [.ref (ad 0)]) hK hw.1 hw.2.1 (NC_keep hN hw.2.2) NC_blind
    refine endI (mc := 0) (ms := 0) (va_runV (As := []) (rest := []) ⟨hx, hb, hml, hown, hts⟩ (m0_lossesOfRow l D ad cy H.size s0_j84 s1 s2 s3 s4 s5 s6 s7 s8 s9 s10 q_85 h_85) (wX0_67 0 hts ⟨Nat.le_of_ble_eq_true rfl, Nat.le_of_ble_eq_true rfl⟩) ⟨pg_85.1, va_recv hK hw.1 (ci := 0) (q0 := 0) rfl eC_0, pg_85.2⟩ rfl rfl hl.1 rfl (lv_room (Nat.le_of_ble_eq_true rfl)) dX0_worthOfRow_85 ⟨Nat.le_refl _, Nat.le_refl _⟩) hw.2.2 (afr_in hw.2.2) (fun H locs hw => ?_)
    refine lv_iconst (v := (-1)) hx hb dX0_worthOfRow_88 (by decide) ?_
    refine lv_icmp_ne (tgt := 97) hx hb dX0_worthOfRow_89 (by decide) (fun c_89 => ?_) (fun c_89 => ?_)
    · have h := ite_f c_89 h
      refine lv_iload_n hx hb dX0_worthOfRow_97 rfl (lv_at hl 1 rfl) ?_
      exact hJ_98 v3_j84 s0_j84 H locs ls h hw (lv_sub hl [] rfl)
    · have h := ite_t c_89 h
      refine lv_bipush (v := (-2)) hx hb dX0_worthOfRow_92 (by decide) ?_
      refine lv_goto (tgt := 98) hx hb dX0_worthOfRow_94 (by decide) ?_
      exact hJ_98 ((-2 : Int32)) s0_j84 H locs ls h hw (lv_sub hl [] rfl)
  refine lv_aload_n hx hb dX0_worthOfRow_0 rfl (lv_at hl 0 rfl) ?_
  obtain ⟨q_1, h_1, h⟩ := bnd_e h
  have pg_1 := preG (av := [.ref (ad 0)]) hK hw.1 hw.2.1 (NC_keep hN hw.2.2) NC_blind
  refine endV (mc := 0) (ms := 0) (va_runV (As := []) (rest := []) ⟨hx, hb, hml, hown, hts⟩ (m0_serveNone l D ad cy H.size s0 s1 s2 s3 s4 s5 s6 s7 s8 s9 s10 q_1 h_1) (wX0_56 0 hts ⟨Nat.le_of_ble_eq_true rfl, Nat.le_of_ble_eq_true rfl⟩) ⟨pg_1.1, va_recv hK hw.1 (ci := 0) (q0 := 0) rfl eC_0, pg_1.2⟩ rfl rfl hl.1 rfl (lv_room (Nat.le_of_ble_eq_true rfl)) dX0_worthOfRow_1 ⟨Nat.le_refl _, Nat.le_refl _⟩) hw.2.2 (afr_in hw.2.2) (fun H locs hw => ?_)
  refine lv_iload_n hx hb dX0_worthOfRow_4 rfl (lv_at hl 1 rfl) ?_
  refine lv_istore_n (lv' := [(2, .int a1), (0, .ref (ad 0)), (1, .int a1)]) hx hb dX0_worthOfRow_5 rfl hl (by decide) rfl (fun ls hl => ?_)
  refine lv_iconst (v := 0) hx hb dX0_worthOfRow_6 (by decide) ?_
  refine lv_istore_n (lv' := [(3, .int ((0 : Int32))), (2, .int a1), (0, .ref (ad 0)), (1, .int a1)]) hx hb dX0_worthOfRow_7 rfl hl (by decide) rfl (fun ls hl => ?_)
  refine lv_iconst (v := 0) hx hb dX0_worthOfRow_8 (by decide) ?_
  refine lv_istore (lv' := [(4, .int ((0 : Int32))), (3, .int ((0 : Int32))), (2, .int a1), (0, .ref (ad 0)), (1, .int a1)]) hx hb dX0_worthOfRow_9 hl (by decide) rfl (fun ls hl => ?_)
  obtain ⟨n_11, hn_11⟩ := loop_e h
  have hL_11 : ∀ (n : Nat) (t_11 : Int32 × Int32 × Int32 × OS) (H : Heap) (locs : List Loc) (ls : Array Slot), loopN (f0_worthOfRow_l11) n t_11 = some r → Wd D (cellsC ad cy t_11.2.2.2 s1 s2 s3 s4 s5 s6 s7 s8 s9 s10) (Afr ad 67 s.heap.size) s.heap H locs → lv_has ls 6 [(2, .int t_11.1), (3, .int t_11.2.1), (4, .int t_11.2.2.1), (0, .ref (ad 0))] → W p l e (rmL 2) s m ([.ref (ad 0), .int a1] : List Value).toArray below meth c H locs 0 0 Q (F0 m 11 ls []) := by
    intro n
    induction n with
    | zero => intro t_11 H locs ls hn; cases hn
    | succ n ih_11 =>
      intro t_11 H locs ls hn hw hl
      obtain ⟨x_11, h, hx_11⟩ := loopN_e hn
      unfold f0_worthOfRow_l11 at h
      have hJ_76 : ∀ (v2_j76 : Int32) (v4_j76 : Int32) (k0_j76 : Int32) (k1_j76 : Int32) (s0_j76 : OS) (H : Heap) (locs : List Loc) (ls : Array Slot), f0_worthOfRow_j76 v2_j76 v4_j76 k0_j76 k1_j76 s0_j76 = some x_11 → Wd D (cellsC ad cy s0_j76 s1 s2 s3 s4 s5 s6 s7 s8 s9 s10) (Afr ad 67 s.heap.size) s.heap H locs → lv_has ls 6 [(0, .ref (ad 0)), (2, .int v2_j76), (4, .int v4_j76)] → W p l e (rmL 2) s m ([.ref (ad 0), .int a1] : List Value).toArray below meth c H locs 0 0 Q (F0 m 76 ls [.int k1_j76, .int k0_j76]) := by
        intro v2_j76 v4_j76 k0_j76 k1_j76 s0_j76 H locs ls h hw hl
        unfold f0_worthOfRow_j76 at h
        refine lv_iadd hx hb dX0_worthOfRow_76 ?_
        obtain ⟨n_77, e_77, h⟩ := nam_e h
        refine topI e_77 ?_
        refine lv_istore_n (lv' := [(3, .int n_77), (0, .ref (ad 0)), (2, .int v2_j76), (4, .int v4_j76)]) hx hb dX0_worthOfRow_77 rfl hl (by decide) rfl (fun ls hl => ?_)
        obtain ⟨n_78, e_78, h⟩ := nam_e h
        refine lv_iinc (v := n_78) (lv' := [(4, .int n_78), (3, .int n_77), (0, .ref (ad 0)), (2, .int v2_j76)]) hx hb dX0_worthOfRow_78 hl (k := 3) rfl (by rw [e_78]; rfl) (by decide) rfl (fun ls hl => ?_)
        refine lv_goto (tgt := 11) hx hb dX0_worthOfRow_81 (by decide) ?_
        exact ih_11 (v2_j76, n_77, n_78, s0_j76) H locs ls (nx_l hx_11 h) hw (lv_sub hl [3, 1, 0, 2] rfl)
      refine lv_iload hx hb dX0_worthOfRow_11 (lv_at hl 2 rfl) ?_
      refine lv_aload_n hx hb dX0_worthOfRow_13 rfl (lv_at hl 3 rfl) ?_
      refine gX0_40 hx hb hts hown hK hw dX0_worthOfRow_14 ?_
      refine lv_icmp_ge (tgt := 84) hx hb dX0_worthOfRow_17 (by decide) (fun c_17 => ?_) (fun c_17 => ?_)
      · have h := ite_t c_17 h
        have h := nx_m hx_11 h
        exact hJ_84 t_11.2.1 t_11.2.2.2 H locs ls h hw (lv_sub hl [3, 1] rfl)
      · have h := ite_f c_17 h
        refine lv_iload hx hb dX0_worthOfRow_20 (lv_at hl 2 rfl) ?_
        refine lv_bipush (v := 6) hx hb dX0_worthOfRow_22 (by decide) ?_
        refine lv_icmp_ge (tgt := 84) hx hb dX0_worthOfRow_24 (by decide) (fun c_24 => ?_) (fun c_24 => ?_)
        · have h := ite_t c_24 h
          have h := nx_m hx_11 h
          exact hJ_84 t_11.2.1 t_11.2.2.2 H locs ls h hw (lv_sub hl [3, 1] rfl)
        · have h := ite_f c_24 h
          refine lv_iload_n hx hb dX0_worthOfRow_27 rfl (lv_at hl 0 rfl) ?_
          refine lv_iconst (v := 5) hx hb dX0_worthOfRow_28 (by decide) ?_
          refine lv_irem hx hb dX0_worthOfRow_29 (by decide) ?_
          obtain ⟨n_30, e_30, h⟩ := nam_e h
          refine topI e_30 ?_
          refine lv_istore (lv' := [(5, .int n_30), (2, .int t_11.1), (3, .int t_11.2.1), (4, .int t_11.2.2.1), (0, .ref (ad 0))]) hx hb dX0_worthOfRow_30 hl (by decide) rfl (fun ls hl => ?_)
          refine lv_iload_n hx hb dX0_worthOfRow_32 rfl (lv_at hl 1 rfl) ?_
          refine lv_iconst (v := 5) hx hb dX0_worthOfRow_33 (by decide) ?_
          refine lv_idiv hx hb dX0_worthOfRow_34 (by decide) ?_
          obtain ⟨n_35, e_35, h⟩ := nam_e h
          refine topI e_35 ?_
          refine lv_istore_n (lv' := [(2, .int n_35), (5, .int n_30), (3, .int t_11.2.1), (4, .int t_11.2.2.1), (0, .ref (ad 0))]) hx hb dX0_worthOfRow_35 rfl hl (by decide) rfl (fun ls hl => ?_)
          refine lv_aload_n hx hb dX0_worthOfRow_36 rfl (lv_at hl 4 rfl) ?_
          refine lv_iload hx hb dX0_worthOfRow_37 (lv_at hl 3 rfl) ?_
          refine lv_iload hx hb dX0_worthOfRow_39 (lv_at hl 1 rfl) ?_
          obtain ⟨q_41, h_41, h⟩ := bnd_e h
          have pg_41 := preG (av := [.ref (ad 0), .int t_11.2.2.1, .int n_30]) hK hw.1 hw.2.1 (NC_keep hN hw.2.2) NC_blind
          refine endI (mc := 0) (ms := 0) (va_runV (As := [.int t_11.2.2.1, .int n_30]) (rest := []) ⟨hx, hb, hml, hown, hts⟩ (m0_canServe l D ad cy H.size t_11.2.2.2 s1 s2 s3 s4 s5 s6 s7 s8 s9 s10 t_11.2.2.1 n_30 q_41 h_41) (wX0_59 1 hts ⟨Nat.le_of_ble_eq_true rfl, Nat.le_of_ble_eq_true rfl⟩) ⟨pg_41.1, va_recv hK hw.1 (ci := 0) (q0 := 0) rfl eC_0, pg_41.2⟩ rfl rfl hl.1 rfl (lv_room (Nat.le_of_ble_eq_true rfl)) dX0_worthOfRow_41 ⟨Nat.le_refl _, Nat.le_refl _⟩) hw.2.2 (afr_in hw.2.2) (fun H locs hw => ?_)
          refine lv_if_ne (tgt := 50) hx hb dX0_worthOfRow_44 (by decide) (fun c_44 => ?_) (fun c_44 => ?_)
          · have h := ite_f c_44 h
            refine lv_aload_n hx hb dX0_worthOfRow_50 rfl (lv_at hl 4 rfl) ?_
            refine lv_iload hx hb dX0_worthOfRow_51 (lv_at hl 3 rfl) ?_
            refine lv_iload hx hb dX0_worthOfRow_53 (lv_at hl 1 rfl) ?_
            obtain ⟨q_55, h_55, h⟩ := bnd_e h
            have pg_55 := preG (av := [.ref (ad 0), .int t_11.2.2.1, .int n_30]) hK hw.1 hw.2.1 (NC_keep hN hw.2.2) NC_blind
            refine endV (mc := 0) (ms := 0) (va_runV (As := [.int t_11.2.2.1, .int n_30]) (rest := []) ⟨hx, hb, hml, hown, hts⟩ (m0_serve l D ad cy H.size t_11.2.2.2 s1 s2 s3 s4 s5 s6 s7 s8 s9 s10 t_11.2.2.1 n_30 q_55 h_55) (wX0_63 1 hts ⟨Nat.le_of_ble_eq_true rfl, Nat.le_of_ble_eq_true rfl⟩) ⟨pg_55.1, va_recv hK hw.1 (ci := 0) (q0 := 0) rfl eC_0, pg_55.2⟩ rfl rfl hl.1 rfl (lv_room (Nat.le_of_ble_eq_true rfl)) dX0_worthOfRow_55 ⟨Nat.le_refl _, Nat.le_refl _⟩) hw.2.2 (afr_in hw.2.2) (fun H locs hw => ?_)
            refine lv_iload_n hx hb dX0_worthOfRow_58 rfl (lv_at hl 2 rfl) ?_
            refine lv_iload hx hb dX0_worthOfRow_59 (lv_at hl 1 rfl) ?_
            refine lv_iconst (v := 4) hx hb dX0_worthOfRow_61 (by decide) ?_
            refine lv_icmp_ne (tgt := 69) hx hb dX0_worthOfRow_62 (by decide) (fun c_62 => ?_) (fun c_62 => ?_)
            · have h := ite_f c_62 h
              refine lv_aload_n hx hb dX0_worthOfRow_69 rfl (lv_at hl 4 rfl) ?_
              refine gX0_15 hx hb hts hown hK hw dX0_worthOfRow_70 ?_
              refine lv_iload hx hb dX0_worthOfRow_73 (lv_at hl 3 rfl) ?_
              obtain ⟨hi_75, h⟩ := chk_e h
              obtain ⟨y_75, e_75, h⟩ := nam_e h
              refine lC12 hx hb hK hw hi_75 e_75 dX0_worthOfRow_75 ?_
              exact hJ_76 n_35 t_11.2.2.1 t_11.2.1 y_75 q_55 H locs ls h hw (lv_sub hl [4, 0, 3] rfl)
            · have h := ite_t c_62 h
              refine lv_iconst (v := 0) hx hb dX0_worthOfRow_65 (by decide) ?_
              refine lv_goto (tgt := 76) hx hb dX0_worthOfRow_66 (by decide) ?_
              exact hJ_76 n_35 t_11.2.2.1 t_11.2.1 ((0 : Int32)) q_55 H locs ls h hw (lv_sub hl [4, 0, 3] rfl)
          · have h := ite_t c_44 h
            have h := nx_m hx_11 h
            refine lv_bipush (v := (-2)) hx hb dX0_worthOfRow_47 (by decide) ?_
            have h := Option.some.inj h
            subst h
            rw [← hQ]
            exact retI hx hb hr hlk hw rfl dX0_worthOfRow_49
  exact hL_11 n_11 (a1, (0 : Int32), (0 : Int32), q_1) H locs ls hn_11 hw (lv_sub hl [2, 1, 0, 3] rfl)
