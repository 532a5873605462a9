-- steps: open, trial, ask, way, weigh
theorem st_ask {k : Nat} {s0 s1 s2 s3 s4 s5 s6 s7 s8 s9 s10 s11 : OS} (h : Rel k s0 s1 s2 s3 s4 s5 s6 s7 s8 s9 s10 s11) (hk : k < 512) (a1 : Int32) (a2 : Int32) (a3 : Int32) : ∃ (rc : Int32 × OS) (rr : Int32 × OS), f10_ask a1 a2 a3 s0 = some rc ∧ f11_ask a1 a2 a3 s11 = some rr ∧ rc.1 = rr.1 ∧ Rel (k + 1) rc.2 s1 s2 s3 s4 s5 s6 s7 s8 s9 s10 rr.2 := by
  obtain ⟨n, hV, hP, hD, hL, hS, hT, hW, ⟨a, g1, g2, g3, g4, g5, g6, g7, g8, g9⟩, hM⟩ := id h
  have e6 : (nI a = (6 : Int32)) ↔ a = 6 := nI_eq (a := a) (b := 6) (by omega) (by omega)
  unfold f10_ask f10_ask_j28 f11_ask f11_ask_j40 f0_add f0_add_j18
  rw [c_isWithin, r_lies, Option.bind_some, Option.bind_some, if_b1, if_b1, c_isWithin, r_lies, Option.bind_some, Option.bind_some, if_b1, if_b1, c_isBits, r_isBits, Option.bind_some, Option.bind_some, if_b1, if_b1, Int32.toInt_toInt64, Int32.toInt_toInt64]
  simp only [nm_d, g2, g3]
  by_cases h1 : (1 : Int32).toInt ≤ a1.toInt ∧ a1.toInt ≤ (1000000000 : Int32).toInt
  · rw [if_pos h1, if_pos (show (1 : Int64).toInt ≤ a1.toInt ∧ a1.toInt ≤ (1000000000 : Int64).toInt from h1)]
    by_cases h2 : (1 : Int32).toInt ≤ a2.toInt ∧ a2.toInt ≤ (1000 : Int32).toInt
    · rw [if_pos h2, if_pos (show (1 : Int64).toInt ≤ a2.toInt ∧ a2.toInt ≤ (1000 : Int64).toInt from h2)]
      by_cases h3 : 0 ≤ a3.toInt ∧ a3.toInt ≤ 65535
      · rw [if_pos h3, if_pos h3, if_neg (nI_pos (n := a) (by omega))]
        by_cases h4 : a = 6
        · rw [if_pos (e6.mpr h4), if_neg (by subst h4; decide)]
          exact ⟨_, _, rfl, rfl, rfl, h.same⟩
        · have ha : a < 6 := by omega
          rw [if_neg (fun e => h4 (e6.mp e)), if_pos (show nI a < (6 : Int32) from nI_lt (a := a) (b := 6) ha (by omega))]
          have e1 : ∀ x : Int32, (wI s11 85 a x).1 0 10 = nI a := fun _ => g3
          have e2 : ∀ x y : Int32, (wI (wI s11 85 a x) 86 a y).1 0 10 = nI a := fun _ _ => g3
          have e3 : ∀ x y z : Int32, (wI (wI (wI s11 85 a x) 86 a y) 87 a z).1 0 10 = nI a := fun _ _ _ => g3
          have e4 : ∀ x y z : Int32, (wI (wI (wI s0 1 a x) 2 a y) 3 a z).1 0 9 = nI a := fun _ _ _ => g2
          simp only [e1, e2, e3, e4, inb_n ha (by omega : 6 < 2 ^ 31), chk_t, Option.bind_some, nI_clamp (show a < 2 ^ 31 by omega)]
          refine ⟨_, _, rfl, rfl, ?_, n, hV, hP, hD.up (Nat.le_refl _), hL, hS, hT, hW, ⟨a + 1, by omega, ?_, ?_, g4, g5, ?_, ?_, ?_, fun i hi => ?_⟩, hM⟩
          · show nI a = nI a + 1 - 1
            exact (add_sub1 _).symm
          · show nI a + 1 = nI (a + 1)
            exact nI_1 a
          · show nI a + 1 = nI (a + 1)
            exact nI_1 a
          · show fupd (s0.1 1) a a1 = fupd (s11.1 85) a a1
            rw [g6]
          · show fupd (s0.1 2) a a2 = fupd (s11.1 86) a a2
            rw [g7]
          · show fupd (s0.1 3) a a3 = fupd (s11.1 87) a a3
            rw [g8]
          · show bw 1 1000000000 (fupd (s11.1 85) a a1 i) ∧ bw 1 1000 (fupd (s11.1 86) a a2 i) ∧ bw 0 65535 (fupd (s11.1 87) a a3 i)
            by_cases e : i = a
            · subst e; rw [fupd_s, fupd_s, fupd_s]; exact ⟨h1, h2, h3⟩
            · rw [fupd_n e, fupd_n e, fupd_n e]; exact g9 i (by omega)
      · rw [if_neg h3, if_neg h3]
        simp only [ite_self]
        exact ⟨_, _, rfl, rfl, rfl, h.same⟩
    · rw [if_neg h2, if_neg (show ¬ ((1 : Int64).toInt ≤ a2.toInt ∧ a2.toInt ≤ (1000 : Int64).toInt) from h2)]
      simp only [ite_self]
      exact ⟨_, _, rfl, rfl, rfl, h.same⟩
  · rw [if_neg h1, if_neg (show ¬ ((1 : Int64).toInt ≤ a1.toInt ∧ a1.toInt ≤ (1000000000 : Int64).toInt) from h1)]
    simp only [ite_self]
    exact ⟨_, _, rfl, rfl, rfl, h.same⟩
theorem st_open {k : Nat} {s0 s1 s2 s3 s4 s5 s6 s7 s8 s9 s10 s11 : OS} (h : Rel k s0 s1 s2 s3 s4 s5 s6 s7 s8 s9 s10 s11) (hk : k < 512) (a1 : Int32) : ∃ (rc : Int32 × OS × OS) (rr : Int32 × OS), f10_open a1 s1 s4 s10 = some rc ∧ f11_open a1 s11 = some rr ∧ rc.1 = rr.1 ∧ Rel (k + 1) s0 rc.2.1 s2 s3 rc.2.2 s5 s6 s7 s8 s9 s10 rr.2 := by
  obtain ⟨n, ⟨hg, ht, htr, hgr⟩, hP, hD, hL⟩ := id h
  obtain ⟨p1, p2, p3, p4, p5, p6, p7, p8, p9, p10, p11, p12, p13⟩ := id hP
  obtain ⟨d, d1, d2, d3, d4⟩ := hD.add hk p1
  unfold f10_open f10_open_j22 f11_open f11_open_j17
  rw [c_lies p1 p2, Option.bind_some, if_b1, c_isSealed p1 p2, Option.bind_some, if_b1, r_isThere p1 p3, Option.bind_some, if_b1, p8, p11]
  by_cases h2 : (0 ≤ a1.toInt ∧ a1.toInt < n) ∧ (s11.1 16 a1.toNatClampNeg).toInt < 10
  · rw [if_pos h2, if_pos h2, inb_i (N := 150) (by omega), chk_t, nm_d]
    by_cases h3 : s11.1 19 a1.toNatClampNeg = 0
    · rw [if_neg (fun e => e.2 h3), if_pos h3]
      exact ⟨_, _, rfl, rfl, rfl, h.same⟩
    · rw [if_pos ⟨h2.1, h3⟩, if_neg h3]
      obtain ⟨p, hp, rfl⟩ := nI_of_in h2.1 (by omega)
      have hcl := nI_clamp (n := p) (by omega)
      rw [hcl] at h2 h3
      obtain ⟨g1, g2, g3, g4, g5⟩ := p12 p hp
      obtain ⟨c, -, hc, ec⟩ := bw_nat (lo := 0) (hi := 9) (x := s11.1 16 p) ⟨g4.1, by omega⟩ (by omega)
      have eu : f4_unseal (nI p) s4 = some (wI s4 8 p 0) := by
        unfold f4_unseal f4_unseal_j15
        rw [c_hasP p1 p2 hp, Option.bind_some, if_neg (by decide), inb_n (by omega : p < 150) (by omega), chk_t, nm_d, hcl]
        rfl
      have q2 : (wI s4 8 p 0).1 0 10 = nI n := p2
      have eg : f10_gasOf (nI c) s10 = some (s10.1 1 c) := by
        unfold f10_gasOf f10_gasOf_j17
        rw [c_isCabinet, b1_t (by rw [nI_toInt (by omega)]; omega), Option.bind_some, if_neg (by decide), inb_n (by omega : c < 10) (by omega), chk_t, nm_d, nI_clamp (by omega)]
      have epl : (wI s4 8 p 0).1 5 p = nI c := by
        show s4.1 5 p = _
        rw [p8, ec]
      rw [eu, Option.bind_some, c_placeOfP p1 q2 hp, Option.bind_some, c_weightOfP p1 q2 hp, Option.bind_some, epl, eg, Option.bind_some, c_change p1 q2 hp d1 d2]
      simp only [hcl, inb_n (show p < 150 by omega) (by omega : 150 < 2 ^ 31), chk_t, nm_d]
      have m1 : ∀ v, (wI s11 19 p v).1 16 p = nI c := fun _ => ec
      have m2 : ∀ v, (wI s11 19 p v).1 15 p = s11.1 15 p := fun _ => rfl
      have m3 : ∀ v, (wI s11 19 p v).1 20 = s11.1 20 := fun _ => rfl
      simp only [m1, m2, m3, inb_n (show c < 10 by omega) (by omega : 10 < 2 ^ 31), chk_t, nI_clamp (show c < 2 ^ 31 by omega)]
      rw [r_notes (m := wI (wI s11 19 p (vp_nar .boolean 0)) 15 p (s11.1 15 p ||| s11.1 20 c)) (d := d) (by omega) d3 (by omega)]
      have hP2 : RelP n (wI s4 8 p 0) (s11.1 0 3) (s11.1 12) (s11.1 13) (s11.1 14) (s11.1 15) (s11.1 16) (s11.1 17) (s11.1 18) (fupd (s11.1 19) p 0) (s11.2 21) (s11.2 22) (s11.2 23) (s11.2 24) := by
        refine ⟨p1, p2, p3, p4, p5, p6, p7, p8, p9, p10, ?_, fun i hi => ?_, p13⟩
        · rw [← p11]; rfl
        · obtain ⟨g1, g2, g3, g4, g5⟩ := p12 i hi
          refine ⟨g1, g2, g3, g4, ?_⟩
          by_cases e : i = p
          · subst e; rw [fupd_s]; exact ⟨by decide, by decide⟩
          · rw [fupd_n e]; exact g5
      refine ⟨_, _, rfl, rfl, rfl, n, ⟨hg, ht, htr, hgr⟩, hP2.upd hp (w := s4.1 3 p) (q := s10.1 1 c) (pl := nI c) (by rw [p6]; exact g2) (hgr c) (by rw [← ec]; exact g4) ?_ ?_ ?_, d4 _ _ _ _ _ _ _ _ _ _ rfl ht ?_ ?_ ?_, hL⟩
      · show s11.1 14 = _
        rw [p6, fupd_id]
      · rw [hg]; rfl
      · show s11.1 16 = _
        rw [← ec, fupd_id]
      · show s4.1 3 p = s11.1 14 p
        rw [p6]
      · show s4.1 4 p ||| s10.1 1 c = _
        rw [p7, hg]; exact (wI_at (s := wI s11 19 p (vp_nar .boolean 0)) (r := 15) (i := p)).symm
      · exact ec.symm
  · rw [if_neg h2, if_neg h2]
    exact ⟨_, _, rfl, rfl, rfl, h.same⟩
/-- a piece's account -/
theorem c_charge {s4 : OS} {n p kk acc : Nat} (hn : n ≤ 150) (h : s4.1 0 10 = nI n) (hp : p < n) (ha : acc < 4) (hkk : kk < 8) (hk : s4.1 1 p = nI kk) (w : Int64) : f4_charge (nI acc) (nI p) w s4 = some (wL s4 9 (acc * 8 + kk) (s4.2 9 (acc * 8 + kk) + w)) := by
  unfold f4_charge f4_charge_j38
  have e : nI acc * 8 + nI kk = nI (acc * 8 + kk) := by
    rw [show (8 : Int32) = nI 8 from rfl, pk_mul, nI_add]
  rw [c_kindOfP hn h hp, Option.bind_some, nm_d, hk, e, if_neg (nI_pos (by omega)), if_neg (show ¬ (32 : Int32) ≤ nI (acc * 8 + kk) from nI_ge (a := acc * 8 + kk) (b := 32) (by omega) (by omega)), inb_n (by omega : acc * 8 + kk < 32) (by omega)]
  simp only [chk_t, nm_d, nI_clamp (show acc * 8 + kk < 2 ^ 31 by omega)]
theorem st_trial {k : Nat} {s0 s1 s2 s3 s4 s5 s6 s7 s8 s9 s10 s11 : OS} (h : Rel k s0 s1 s2 s3 s4 s5 s6 s7 s8 s9 s10 s11) (hk : k < 512) (a1 : Int32) (a2 : Int32) (a3 : Int32) : ∃ (rc : Int32 × OS × OS) (rr : Int32 × OS), f10_trial a1 a2 a3 s1 s4 s10 = some rc ∧ f11_trial a1 a2 a3 s11 = some rr ∧ rc.1 = rr.1 ∧ Rel (k + 1) s0 rc.2.1 s2 s3 rc.2.2 s5 s6 s7 s8 s9 s10 rr.2 := by
  obtain ⟨n, ⟨hg, ht, htr, hgr⟩, hP, hD, hL⟩ := id h
  obtain ⟨p1, p2, p3, p4, p5, p6, p7, p8, p9, p10, p11, p12, p13⟩ := id hP
  obtain ⟨d, d1, d2, d3, d4⟩ := hD.add hk p1
  unfold f10_trial f10_trial_j18 f11_trial f11_trial_j31
  rw [c_isBits, Option.bind_some, if_b1, c_isAtHand p1 p2, Option.bind_some, if_b1, r_isOpen p1 p3, Option.bind_some, if_b1, p8, p11]
  by_cases h2 : ((0 ≤ a1.toInt ∧ a1.toInt < n) ∧ (s11.1 16 a1.toNatClampNeg).toInt < 10) ∧ s11.1 19 a1.toNatClampNeg = 0
  · rw [if_pos h2, if_pos h2]
    obtain ⟨p, hp, rfl⟩ := nI_of_in h2.1.1 (by omega)
    have hcl := nI_clamp (n := p) (by omega)
    obtain ⟨g1, g2, g3, g4, g5⟩ := p12 p hp
    obtain ⟨kk, -, hkk, ek⟩ := bw_nat (lo := 0) (hi := 7) g1 (by omega)
    obtain ⟨w, -, hw, ew⟩ := bw_nat (lo := 0) (hi := 1000000000) g2 (by omega)
    have ewt := nI_toInt (n := w) (by omega)
    rw [c_weightOfP p1 p2 hp, Option.bind_some, c_isWithin, Option.bind_some, if_b1]
    simp only [hcl, inb_n (show p < 150 by omega) (by omega : 150 < 2 ^ 31), chk_t, nm_d]
    rw [r_lies, Option.bind_some, if_b1, r_isBits, Option.bind_some, if_b1, Int32.toInt_toInt64, Int32.toInt_toInt64, p6, ew, ewt]
    by_cases h1 : 0 ≤ a3.toInt ∧ a3.toInt ≤ 65535
    · rw [if_pos h1, if_pos h1]
      by_cases h3 : (0 : Int32).toInt ≤ a2.toInt ∧ a2.toInt ≤ w
      · rw [if_pos h3, if_pos (show (0 : Int64).toInt ≤ a2.toInt ∧ a2.toInt ≤ w from h3)]
        have e0 : (0 : Int32).toInt = 0 := rfl
        obtain ⟨x, hx, rfl⟩ := nI_of_in (x := a2) (n := w + 1) (by omega) (by omega)
        have hxw : x ≤ w := by omega
        have elw : nI w - nI x = nI (w - x) := pk_sub hxw
        have ec : f4_charge 2 (nI p) (nI x).toInt64 s4 = some (wL s4 9 (16 + kk) (s4.2 9 (16 + kk) + (nI x).toInt64)) := c_charge (acc := 2) p1 p2 hp (by omega) (by omega) (by rw [p4]; exact ek) _
        rw [ec, Option.bind_some, elw]
        have q2 : (wL s4 9 (16 + kk) (s4.2 9 (16 + kk) + (nI x).toInt64)).1 0 10 = nI n := p2
        have m1 : ∀ v, (wI s11 14 p v).1 15 p = s11.1 15 p := fun _ => rfl
        have m2 : ∀ u v, (wI (wI s11 14 p u) 15 p v).1 12 p = nI kk := fun _ _ => ek
        have m3 : ∀ u v, (wI (wI s11 14 p u) 15 p v).2 23 = s11.2 23 := fun _ _ => rfl
        have m4 : ∀ u v y z, (wL (wI (wI s11 14 p u) 15 p v) 23 y z).1 14 p = u := fun u _ _ _ => (wI_at (s := s11) (r := 14) (i := p) (v := u))
        simp only [m1, m2, m3, m4, inb_n (show kk < 8 by omega) (by omega : 8 < 2 ^ 31), chk_t, nI_clamp (show kk < 2 ^ 31 by omega)]
        have hP2 : RelP n (wL s4 9 (16 + kk) (s4.2 9 (16 + kk) + (nI x).toInt64)) (s11.1 0 3) (s11.1 12) (s11.1 13) (s11.1 14) (s11.1 15) (s11.1 16) (s11.1 17) (s11.1 18) (s11.1 19) (s11.2 21) (s11.2 22) (fun i => if i = kk then s11.2 23 kk + (nI x).toInt64 else s11.2 23 i) (s11.2 24) := by
          refine ⟨p1, p2, p3, p4, p5, p6, p7, p8, p9, p10, p11, p12, fun j hj => ?_⟩
          obtain ⟨c1, c2, c3, c4⟩ := p13 j hj
          have cc : ∀ i, (wL s4 9 (16 + kk) (s4.2 9 (16 + kk) + (nI x).toInt64)).2 9 i = if i = 16 + kk then s4.2 9 (16 + kk) + (nI x).toInt64 else s4.2 9 i := fun _ => rfl
          rw [cc, cc, cc, cc, if_neg (by omega), if_neg (by omega), if_neg (by omega : ¬ 24 + j = 16 + kk)]
          refine ⟨c1, c2, ?_, c4⟩
          by_cases e : j = kk
          · subst e; simp [c3]
          · simp [e, c3]
        have hwx : bw 0 1000000000 (nI (w - x)) := by unfold bw; rw [nI_toInt (by omega)]; omega
        have hm4 : (wL s4 9 (16 + kk) (s4.2 9 (16 + kk) + (nI x).toInt64)).1 4 p = s11.1 15 p := by show s4.1 4 p = _; rw [p7]
        have rn : ∀ m : OS, m.1 0 24 = s11.1 0 24 → f11_notes (nI p) m = some (nW m d p) := fun m e => r_notes (by omega) (e.trans d3) (by omega)
        unfold f10_trial_j85 f11_trial_j83
        by_cases h5 : w - x = 0
        · rw [if_pos (by rw [h5]; rfl), if_pos (by rw [h5]; rfl)]
          unfold f11_isDone
          rw [c_change p1 q2 hp d1 d2]
          simp only [hcl, inb_n (show p < 150 by omega) (by omega : 150 < 2 ^ 31), chk_t, nm_d, Option.bind_some]
          rw [rn]
          rotate_left
          · rfl
          rw [Option.bind_some]
          try simp only [hcl, inb_n (show p < 150 by omega) (by omega : 150 < 2 ^ 31), chk_t, nm_d, Option.bind_some]
          refine ⟨_, _, rfl, rfl, ?_, n, ⟨hg, ht, htr, hgr⟩, hP2.upd hp (w := nI (w - x)) (q := a3) (pl := 12) hwx h1 ⟨by decide, by decide⟩ ?_ rfl rfl, d4 _ _ _ _ _ _ _ _ _ _ rfl ht ?_ ?_ ?_, hL⟩
          · rw [h5]
            exact (wI_at (r := 14) (i := p) (v := 0)).symm
          · rw [h5]
            show fupd (fupd (s11.1 14) p _) p 0 = _
            rw [fupd_2]; rfl
          · rw [h5]
            exact (wI_at (r := 14) (i := p) (v := 0)).symm
          · rw [hm4]
            exact (wI_at (r := 15) (i := p) (v := s11.1 15 p ||| a3)).symm
          · exact (wI_at (r := 16) (i := p) (v := 12)).symm
        · have hne : ¬ nI (w - x) = 0 := nI_ne0 (by omega) (by omega)
          rw [if_neg hne, if_neg hne, c_placeOfP p1 q2 hp, Option.bind_some, c_change p1 q2 hp d1 d2, rn]
          rotate_left
          · rfl
          rw [Option.bind_some, Option.bind_some]
          simp only [hcl, inb_n (show p < 150 by omega) (by omega : 150 < 2 ^ 31), chk_t, nm_d, Option.bind_some]
          have hpl : (wL s4 9 (16 + kk) (s4.2 9 (16 + kk) + (nI x).toInt64)).1 5 p = s11.1 16 p := by show s4.1 5 p = _; rw [p8]
          refine ⟨_, _, rfl, rfl, ?_, n, ⟨hg, ht, htr, hgr⟩, hP2.upd hp (w := nI (w - x)) (q := a3) hwx h1 (by rw [hpl]; exact g4) rfl rfl ?_, d4 _ _ _ _ _ _ _ _ _ _ rfl ht ?_ ?_ ?_, hL⟩
          · exact (wI_at (r := 14) (i := p) (v := nI (w - x))).symm
          · rw [hpl]
            show s11.1 16 = _
            rw [fupd_id]
          · exact (wI_at (r := 14) (i := p) (v := nI (w - x))).symm
          · rw [hm4]
            exact (wI_at (r := 15) (i := p) (v := s11.1 15 p ||| a3)).symm
          · exact hpl
      · rw [if_neg h3, if_neg (show ¬ ((0 : Int64).toInt ≤ a2.toInt ∧ a2.toInt ≤ w) from h3)]
        exact ⟨_, _, rfl, rfl, rfl, h.same⟩
    · rw [if_neg h1, if_neg h1]
      simp only [ite_self]
      exact ⟨_, _, rfl, rfl, rfl, h.same⟩
  · rw [if_neg h2, if_neg h2]
    simp only [ite_self]
    exact ⟨_, _, rfl, rfl, rfl, h.same⟩
