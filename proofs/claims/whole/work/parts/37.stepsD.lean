-- steps: cut
abbrev RelN (n k : Nat) (s0 s1 s2 s3 s4 s5 s7 s8 s9 s10 s11 : OS) : Prop := RelV (s10.1 1) (s10.1 0 9) (s11.1 20) (s11.1 0 2) ∧
   RelP n s4 (s11.1 0 3) (s11.1 12) (s11.1 13) (s11.1 14) (s11.1 15) (s11.1 16) (s11.1 17) (s11.1 18) (s11.1 19) (s11.2 21) (s11.2 22) (s11.2 23) (s11.2 24) ∧
   RelD k n s1 (s11.1 0 24) (s11.1 26) (s11.1 27) (s11.1 28) (s11.1 29) (s11.1 30) ∧
   RelL n s2 (s11.1 0 4) (s11.1 0 5) (s11.1 31) (s11.1 32) (s11.2 33) (s11.1 59) (s11.1 60) (s11.1 61) (s11.1 62) (s11.1 63) (s11.1 64) ∧
   RelS s7 (s11.1 0 7) (s11.1 65) (s11.1 66) (s11.1 67) (s11.1 68) ∧ RelT s8 (s11.1 0 1) (s11.1 1) ∧
   RelW s9 (s11.1 0 8) (s11.1 0 9) (s11.1 78) (s11.1 80) (s11.1 81) (s11.1 82) (s11.1 83) (s11.1 84) ∧
   RelA s0 (s11.1 0 10) (s11.1 0 89) (s11.1 85) (s11.1 86) (s11.1 87) ∧ RelM n s3 (s11.1 0 68) (s11.1 0 69) (s11.1 71) (s11.1 76) (s11.1 77) ∧
   RelB s5 (s11.1 0 6) (s11.1 34) (s11.1 35) (s11.1 36) (s11.1 37) (s11.1 38) (s11.1 39) (s11.1 40) (s11.1 41) (s11.1 42) (s11.1 43)
theorem Rel.ofN {n k : Nat} {s0 s1 s2 s3 s4 s5 s6 s7 s8 s9 s10 s11 : OS} (h : RelN n k s0 s1 s2 s3 s4 s5 s7 s8 s9 s10 s11) : Rel k s0 s1 s2 s3 s4 s5 s6 s7 s8 s9 s10 s11 := ⟨n, h⟩
theorem Rel.toN {k : Nat} {s0 s1 s2 s3 s4 s5 s6 s7 s8 s9 s10 s11 : OS} (h : Rel k s0 s1 s2 s3 s4 s5 s6 s7 s8 s9 s10 s11) : ∃ n, RelN n k s0 s1 s2 s3 s4 s5 s7 s8 s9 s10 s11 := h
theorem RelN.up {n k : Nat} {s0 s1 s2 s3 s4 s5 s7 s8 s9 s10 s11 : OS} (h : RelN n k s0 s1 s2 s3 s4 s5 s7 s8 s9 s10 s11) : RelN n (k + 1) s0 s1 s2 s3 s4 s5 s7 s8 s9 s10 s11 := ⟨h.1, h.2.1, h.2.2.1.up (Nat.le_refl _), h.2.2.2⟩
theorem addL_toInt {a c : Int64} (h1 : -9223372036854775808 ≤ a.toInt + c.toInt) (h2 : a.toInt + c.toInt < 9223372036854775808) : (a + c).toInt = a.toInt + c.toInt := by
  rw [Int64.toInt_add]
  exact Int.bmod_eq_of_le (by omega) (by omega)
theorem part_add {n k p : Nat} {s0 s1 s2 s3 s4 s5 s7 s8 s9 s10 m : OS} {x bit : Int32} (h : RelN n k s0 s1 s2 s3 s4 s5 s7 s8 s9 s10 m) (hk : k < 512) (hn : n < 150) (hp : p < n) (hx : bw 0 1000000000 x) (hbit : bw 0 65535 bit) : ∃ s1' s4' m', f4_addPart (nI p) x bit (s10.1 0 9) s1 s4 = some (s1', s4') ∧ f11_comes (m.1 12 p) (m.1 13 p) x (m.1 15 p ||| bit) (m.1 16 p) (nI p) m = some (nI n, m') ∧ RelN (n + 1) k s0 s1' s2 s3 s4' s5 s7 s8 s9 s10 m' ∧ m'.1 1 = m.1 1 := by
  obtain ⟨⟨hg, ht, htr, hgr⟩, hP, ⟨d, d1, d2, d3, d4, d5, d6, d7, d8⟩, hL, hS⟩ := h
  obtain ⟨p1, p2, p3, p4, p5, p6, p7, p8, p9, p10, p11, p12, p13⟩ := id hP
  have hcl := nI_clamp (n := n) (by omega)
  have hpc := nI_clamp (n := p) (by omega)
  have hpn : p ≠ n := by omega
  obtain ⟨sB, hsB⟩ : ∃ sB : OS, sB = wI (wI (wI (wI (wI (wI (wI s4 0 10 (nI (n + 1))) 1 n (s4.1 1 p)) 2 n (s4.1 2 p)) 4 n (s4.1 4 p)) 8 n (vp_nar .boolean 0)) 6 n (nI p)) 7 n (s4.1 7 p) := ⟨_, rfl⟩
  have e1 : f4_addPart (nI p) x bit (s10.1 0 9) s1 s4 = Option.bind (f4_change (nI n) x bit (s4.1 5 p) (s10.1 0 9) s1 sB) fun q => some (q.1, q.2) := by
    subst hsB
    unfold f4_addPart f4_addPart_j22
    simp only [nm_p, p2, c_hasP p1 p2 hp, Option.bind_some, hpc, hcl, inb_n (show n < 150 by omega) (by omega : 150 < 2 ^ 31), inb_n (show p < 150 by omega) (by omega : 150 < 2 ^ 31), chk_p, nI_1]
    rw [if_neg (show ¬ (1 : Int32) = 0 by decide), if_pos (show nI n < (150 : Int32) from nI_lt (a := n) (b := 150) hn (by omega))]
    rfl
  have b0 : sB.1 0 10 = nI (n + 1) := by subst hsB; rfl
  have b4 : sB.1 4 n = s4.1 4 p := by subst hsB; exact wI_at (s := wI (wI (wI s4 0 10 (nI (n + 1))) 1 n (s4.1 1 p)) 2 n (s4.1 2 p)) (r := 4) (i := n)
  obtain ⟨mB, hmB⟩ : ∃ mB : OS, mB = wI (wI (wI (wI (wI (wI (wI (wI (wI m 12 n (m.1 12 p)) 13 n (m.1 13 p)) 14 n x) 15 n (m.1 15 p ||| bit)) 16 n (m.1 16 p)) 17 n (nI p)) 18 n (m.1 18 p)) 19 n (vp_nar .boolean 0)) 0 3 (nI (n + 1)) := ⟨_, rfl⟩
  have e2 : f11_comes (m.1 12 p) (m.1 13 p) x (m.1 15 p ||| bit) (m.1 16 p) (nI p) m = Option.bind (f11_notes (nI n) mB) fun q => some (nI n, q) := by
    subst hmB
    unfold f11_comes f11_comes_j81
    have m0 : ∀ (a b c d' e f' g h' : Int32), (wI (wI (wI (wI (wI (wI (wI (wI m 12 n a) 13 n b) 14 n c) 15 n d') 16 n e) 17 n f') 18 n g) 19 n h').1 0 3 = nI n := fun _ _ _ _ _ _ _ _ => p3
    simp only [nm_p, p3, hpc, hcl, inb_n (show n < 150 by omega) (by omega : 150 < 2 ^ 31), inb_n (show p < 150 by omega) (by omega : 150 < 2 ^ 31), chk_p, m0, nI_1]
    rw [if_neg (show ¬ nI p = -1 from fun e => by have e := congrArg Int32.toInt e; rw [nI_toInt (by omega)] at e; have e : (p : Int) = -1 := e; omega)]
    rfl
  have m24 : mB.1 0 24 = m.1 0 24 := by subst hmB; rfl
  refine ⟨dW s1 d (nI n) (s10.1 0 9) x (sB.1 4 n ||| bit) (s4.1 5 p), pW sB n x bit (s4.1 5 p), nW mB d n, ?_, ?_, ⟨⟨?_, ?_, htr, hgr⟩, ?_, ?_, ?_, ?_⟩, ?_⟩
  · rw [e1, c_change (n := n + 1) (p := n) (d := d) (by omega) b0 (by omega) (by omega) d2]; rfl
  · rw [e2, rn_of (m := mB) (s11 := m) (d := d) (by omega) d3 (by omega) m24]; rfl
  · subst hmB; exact hg
  · subst hmB; exact ht
  · obtain ⟨g1, g2, g3, g4, g5⟩ := p12 p hp
    subst hsB hmB
    refine ⟨by omega, rfl, rfl, ?_, ?_, ?_, ?_, ?_, ?_, ?_, ?_, fun i hi => ?_, p13⟩
    · show fupd (s4.1 1) n (s4.1 1 p) = fupd (m.1 12) n (m.1 12 p)
      rw [p4]
    · show fupd (s4.1 2) n (s4.1 2 p) = fupd (m.1 13) n (m.1 13 p)
      rw [p5]
    · show fupd (s4.1 3) n x = fupd (m.1 14) n x
      rw [p6]
    · show fupd (fupd (s4.1 4) n (s4.1 4 p)) n (fupd (s4.1 4) n (s4.1 4 p) n ||| bit) = fupd (m.1 15) n (m.1 15 p ||| bit)
      rw [fupd_2, fupd_s, p7]
    · show fupd (s4.1 5) n (s4.1 5 p) = fupd (m.1 16) n (m.1 16 p)
      rw [p8]
    · show fupd (s4.1 6) n (nI p) = fupd (m.1 17) n (nI p)
      rw [p9]
    · show fupd (s4.1 7) n (s4.1 7 p) = fupd (m.1 18) n (m.1 18 p)
      rw [p10]
    · show fupd (s4.1 8) n (vp_nar .boolean 0) = fupd (m.1 19) n (vp_nar .boolean 0)
      rw [p11]
    · show bw 0 7 (fupd (m.1 12) n (m.1 12 p) i) ∧ bw 0 1000000000 (fupd (m.1 14) n x i) ∧ bw 0 65535 (fupd (m.1 15) n (m.1 15 p ||| bit) i) ∧ bw 0 12 (fupd (m.1 16) n (m.1 16 p) i) ∧ bw 0 1 (fupd (m.1 19) n (vp_nar .boolean 0) i)
      by_cases e : i = n
      · subst e; simp only [fupd_s]
        exact ⟨g1, hx, bw_or g3 hbit, g4, ⟨by decide, by decide⟩⟩
      · simp only [fupd_n e]
        exact p12 i (by omega)
  · rw [b4]
    subst hsB hmB
    refine ⟨d + 1, by omega, rfl, rfl, ?_, ?_, ?_, ?_, ?_⟩
    · show fupd (s1.1 1) d (nI n) = fupd (m.1 26) d (nI n)
      rw [d4]
    · show fupd (s1.1 2) d (s10.1 0 9) = fupd (m.1 27) d (m.1 0 2)
      rw [d5, ht]
    · show fupd (s1.1 3) d x = fupd (m.1 28) d (fupd (m.1 14) n x n)
      rw [d6, fupd_s]
    · show fupd (s1.1 4) d (s4.1 4 p ||| bit) = fupd (m.1 29) d (fupd (m.1 15) n (m.1 15 p ||| bit) n)
      rw [d7, fupd_s, p7]
    · show fupd (s1.1 5) d (s4.1 5 p) = fupd (m.1 30) d (fupd (m.1 16) n (m.1 16 p) n)
      rw [d8, fupd_s, p8]
  · subst hmB; exact hL.up (by omega)
  · subst hmB; exact ⟨hS.1, hS.2.1, hS.2.2.1, hS.2.2.2.1, hS.2.2.2.2.1.up (by omega), hS.2.2.2.2.2⟩
  · subst hmB; rfl
theorem part_end {n k p : Nat} {s0 s1 s2 s3 s4 s5 s7 s8 s9 s10 m : OS} {v : Int64} (h : RelN n k s0 s1 s2 s3 s4 s5 s7 s8 s9 s10 m) (hk : k < 512) (hp : p < n) : ∃ s1' s4' m', (Option.bind (f4_weightOf (nI p) s4) fun q_137 => Option.bind (f4_charge 1 (nI p) ((q_137).toInt64 - v) s4) fun q_144 => f4_change (nI p) 0 0 12 (s10.1 0 9) s1 q_144) = some (s1', s4') ∧ (Option.bind (f11_isDone (nI p) (wL m 22 (m.1 12 p).toNatClampNeg (m.2 22 (m.1 12 p).toNatClampNeg + ((m.1 14 p).toInt64 - v)))) fun q_213 => f11_notes (nI p) q_213) = some m' ∧ RelN n (k + 1) s0 s1' s2 s3 s4' s5 s7 s8 s9 s10 m' ∧ inb (m.1 12 p) 8 = true := by
  obtain ⟨⟨hg, ht, htr, hgr⟩, hP, hD, hL, hS⟩ := h
  obtain ⟨p1, p2, p3, p4, p5, p6, p7, p8, p9, p10, p11, p12, p13⟩ := id hP
  obtain ⟨d, d1, d2, d3, d4⟩ := hD.add hk p1
  have hpc := nI_clamp (n := p) (by omega)
  obtain ⟨g1, g2, g3, g4, g5⟩ := p12 p hp
  obtain ⟨kk, -, hkk, ek⟩ := bw_nat (lo := 0) (hi := 7) g1 (by omega)
  have hkc := nI_clamp (n := kk) (by omega)
  rw [ek, hkc, c_weightOfP p1 p2 hp, Option.bind_some, p6]
  obtain ⟨z, hz⟩ : ∃ z : Int64, z = (m.1 14 p).toInt64 - v := ⟨_, rfl⟩
  rw [← hz]
  have ec : f4_charge 1 (nI p) z s4 = some (wL s4 9 (8 + kk) (s4.2 9 (8 + kk) + z)) := c_charge (acc := 1) p1 p2 hp (by omega) (by omega) (by rw [p4]; exact ek) _
  rw [ec, Option.bind_some, c_change (n := n) (d := d) p1 (show (wL s4 9 (8 + kk) (s4.2 9 (8 + kk) + z)).1 0 10 = nI n from p2) hp d1 d2]
  have hP2 : RelP n (wL s4 9 (8 + kk) (s4.2 9 (8 + kk) + z)) (m.1 0 3) (m.1 12) (m.1 13) (m.1 14) (m.1 15) (m.1 16) (m.1 17) (m.1 18) (m.1 19) (m.2 21) (fun i => if i = kk then m.2 22 kk + z else m.2 22 i) (m.2 23) (m.2 24) := by
    refine ⟨p1, p2, p3, p4, p5, p6, p7, p8, p9, p10, p11, p12, fun j hj => ?_⟩
    obtain ⟨c1, c2, c3, c4⟩ := p13 j hj
    have c1' := p13 kk (by omega)
    have cc : ∀ i, (wL s4 9 (8 + kk) (s4.2 9 (8 + kk) + z)).2 9 i = if i = 8 + kk then s4.2 9 (8 + kk) + z else s4.2 9 i := fun _ => rfl
    rw [cc, cc, cc, cc, if_neg (show ¬ j = 8 + kk by omega), if_neg (show ¬ 16 + j = 8 + kk by omega), if_neg (show ¬ 24 + j = 8 + kk by omega)]
    refine ⟨c1, ?_, c3, c4⟩
    by_cases e : j = kk
    · subst e; simp [c2]
    · simp [e, c2]
  obtain ⟨mB, hmB⟩ : ∃ mB : OS, mB = wI (wI (wL m 22 kk (m.2 22 kk + z)) 14 p 0) 16 p 12 := ⟨_, rfl⟩
  have e2 : f11_isDone (nI p) (wL m 22 kk (m.2 22 kk + z)) = some mB := by
    subst hmB
    unfold f11_isDone
    simp only [hpc, inb_n (show p < 150 by omega) (by omega : 150 < 2 ^ 31), chk_p, nm_p]
  rw [e2, Option.bind_some, rn_of (m := mB) (s11 := m) (d := d) (by omega) d3 (by omega) (by subst hmB; rfl)]
  subst hmB
  refine ⟨_, _, _, rfl, rfl, ⟨⟨hg, ht, htr, hgr⟩, hP2.upd hp (w := 0) (q := 0) (pl := 12) ⟨by decide, by decide⟩ ⟨by decide, by decide⟩ ⟨by decide, by decide⟩ rfl ?_ rfl, d4 _ _ _ _ _ _ _ _ _ _ rfl ht ?_ ?_ ?_, hL, hS⟩, inb_n (by omega) (by omega)⟩
  · show m.1 15 = _
    rw [or_0, fupd_id]
  · exact (wI_at (s := wL m 22 kk (m.2 22 kk + z)) (r := 14) (i := p) (v := 0)).symm
  · show s4.1 4 p ||| 0 = m.1 15 p
    rw [p7, or_0]
  · exact (wI_at (s := wI (wL m 22 kk (m.2 22 kk + z)) 14 p 0) (r := 16) (i := p) (v := 12)).symm
theorem bit_bw {a : Int32} (h : 0 ≤ a.toInt ∧ a.toInt ≤ 15) : bw 0 65535 ((1 : Int32) <<< (a &&& 31)) := by
  obtain ⟨q, hq, rfl⟩ := nI_of_in (x := a) (n := 16) (by omega) (by omega)
  have : ∀ q : Fin 16, bw 0 65535 ((1 : Int32) <<< (nI q.1 &&& 31)) := by
    unfold bw; decide
  exact this ⟨q, hq⟩
theorem st_cut {k : Nat} {s0 s1 s2 s3 s4 s5 s6 s7 s8 s9 s10 s11 : OS} (h : Rel k s0 s1 s2 s3 s4 s5 s6 s7 s8 s9 s10 s11) (hk : k < 512) (a1 : Int32) (a2 : Int32) (a3 : Int32) : ∃ (rc : Int32 × OS × OS × OS) (rr : Int32 × OS), f10_cut a1 a2 a3 s1 s4 s8 s10 = some rc ∧ f11_cut a1 a2 a3 s11 = some rr ∧ rc.1 = rr.1 ∧ Rel (k + 1) s0 rc.2.1 s2 s3 rc.2.2.1 s5 s6 s7 rc.2.2.2 s9 s10 rr.2 := by
  obtain ⟨n, hN⟩ := h.toN
  obtain ⟨hV, hP, hD, hL, hS, hT, hW⟩ := id hN
  obtain ⟨p1, p2, p3, p4, p5, p6, p7, p8, p9, p10, p11, p12, p13⟩ := id hP
  obtain ⟨t, t1, t2⟩ := hT.tp
  have t0 := t1.1
  unfold f10_cut f10_cut_j20 f10_cut_j44 f11_cut f11_cut_j44
  rw [c_isAtHand p1 p2, r_isOpen p1 p3, p8, p11, t2]
  simp only [c_isWithin, r_lies, Option.bind_some, if_b1, Int32.toInt_toInt64]
  by_cases h2 : (0 : Int32).toInt ≤ a2.toInt ∧ a2.toInt ≤ (15 : Int32).toInt
  · rw [if_pos h2, if_pos (show (0 : Int64).toInt ≤ a2.toInt ∧ a2.toInt ≤ (15 : Int64).toInt from h2)]
    by_cases h3 : (2 : Int32).toInt ≤ a3.toInt ∧ a3.toInt ≤ (6 : Int32).toInt
    · rw [if_pos h3, if_pos (show (2 : Int64).toInt ≤ a3.toInt ∧ a3.toInt ≤ (6 : Int64).toInt from h3)]
      have h3 : 2 ≤ a3.toInt ∧ a3.toInt ≤ 6 := h3
      obtain ⟨a, ha, rfl⟩ := nI_of_in (x := a3) (n := 7) (by omega) (by omega)
      have ha2 : 2 ≤ a := by have := h3.1; rw [nI_toInt (by omega)] at this; omega
      by_cases h1 : ((0 ≤ a1.toInt ∧ a1.toInt < n) ∧ (s11.1 16 a1.toNatClampNeg).toInt < 10) ∧ s11.1 19 a1.toNatClampNeg = 0
      · simp only [if_pos h1]
        obtain ⟨p, hp, rfl⟩ := nI_of_in h1.1.1 (by omega)
        have hpc := nI_clamp (n := p) (by omega)
        unfold f8_hasNumbers f8_hasNumbers_j15
        rw [t1.2.1, show (4 : Int32) = nI 4 from rfl, pk_mul]
        by_cases h4 : 4 * a ≤ t
        · rw [if_neg (nI_nlt (a := t) (b := 4 * a) h4 (by omega)), if_pos (show nI (4 * a) ≤ nI t from nI_le h4 (by omega)), show chk (isB (1 : Int32)) (some (1 : Int32)) = some 1 from rfl, Option.bind_some, if_neg (by decide), nm_p]
          obtain ⟨m, hm⟩ : ∃ m, m = wI s11 0 1 0 := ⟨_, rfl⟩
          have hm1 : m.1 1 = s11.1 1 := by subst hm; rfl
          have hNm : RelN n k s0 s1 s2 s3 s4 s5 s7 (wI s8 0 1 0) s9 s10 m := by
            subst hm
            exact ⟨hV, hP, hD, hL, hS, ⟨0, by omega, rfl, rfl, t1.2.2⟩, hW⟩
          rw [← hm]
          have w8 : f8_wipe s8 = some (wI s8 0 1 0) := rfl
          obtain ⟨num, hnum⟩ : ∃ num : Nat → Int32, num = fun j => nB (fun i => s8.1 1 (4 * j + i)) 4 := ⟨_, rfl⟩
          have cn : ∀ j, j < a → f8_number (nI j) s8 = some (num j) := fun j hj => by subst hnum; exact c_number t1 (by omega)
          have rn : ∀ j m', j < a → m'.1 1 = s11.1 1 → f11_numberAt (nI j) m' = some (num j) := fun j m' hj e => by
            subst hnum
            exact r_numberAt (t := t) (s8 := s8) (by rw [e]; exact t1) (by omega)
          have key : ∃ (r : Int32 × OS × OS) (r' : Int32 × OS), f10_cutByTape (nI p) a2 (nI a) s1 s4 s8 s10 = some r ∧ loop (f11_cut_l57 (nI p) a2 (nI a) m) ((0 : Int64), (0 : Int32)) = some r' ∧ (r.1 = r'.1 ∧ Rel (k + 1) s0 r.2.1 s2 s3 r.2.2 s5 s6 s7 (wI s8 0 1 0) s9 s10 r'.2) := by
            unfold f10_cutByTape
            refine loop_sim a (fun i s s' => s = s' ∧ i ≤ a ∧ s.2 = nI i ∧ 0 ≤ s.1.toInt ∧ s.1.toInt ≤ (i : Int) * 2147483648 ∧ ∀ j, j < i → 1 ≤ (num j).toInt ∧ (num j).toInt ≤ s.1.toInt) _ ?_ a 0 _ _ (by omega) ⟨rfl, by omega, rfl, by decide, by decide, fun j hj => by omega⟩
            rintro i ⟨S, y⟩ s' ⟨rfl, hi, e, hS0, hS1, hnm⟩
            have e : y = nI i := e
            subst e
            have hS0 : 0 ≤ S.toInt := hS0
            have hS1 : S.toInt ≤ (i : Int) * 2147483648 := hS1
            have hnm : ∀ j, j < i → 1 ≤ (num j).toInt ∧ (num j).toInt ≤ S.toInt := hnm
            unfold f10_cutByTape_l6 f11_cut_l57
            by_cases hia : i = a
            · right
              subst hia
              simp only [if_pos (show nI i ≤ nI i from nI_le (Nat.le_refl _) (by omega)), c_weightOfP p1 p2 hp, Option.bind_some, hpc, inb_n (show p < 150 by omega) (by omega : 150 < 2 ^ 31), chk_p, nm_p, p6, hNm.2.1.2.2.1]
              have e14 : m.1 14 = s11.1 14 := by subst hm; rfl
              rw [e14]
              by_cases hle : lg_cmp S (s11.1 14 p).toInt64 ≤ 0
              · rw [if_pos hle, if_pos hle]
                have hle' := (lg_le0 S (s11.1 14 p).toInt64).mp hle
                rw [Int32.toInt_toInt64] at hle'
                obtain ⟨g1, g2, g3, g4, g5⟩ := p12 p hp
                unfold f4_hasRoomFor f4_hasRoomFor_j17
                rw [p2, nI_add]
                by_cases hr : n + i ≤ 150
                · rw [if_neg (show ¬ (150 : Int32) < nI (n + i) from nI_nlt (a := 150) (b := n + i) hr (by omega)), if_pos (show nI (n + i) ≤ (150 : Int32) from nI_le (a := n + i) (b := 150) hr (by omega)), show chk (isB (1 : Int32)) (some (1 : Int32)) = some 1 from rfl, Option.bind_some, if_neg (by decide)]
                  unfold f4_size
                  rw [p2, Option.bind_some]
                  have key2 : ∃ (r : Int32 × OS × OS) (r' : Int32 × OS), loop (f10_cutByTape_l90 (nI p) a2 (nI i) S (nI n) s8 s10) ((0 : Int32), s1, s4) = some r ∧ loop (f11_cut_l134 (nI p) a2 (nI i) S (nI n)) ((0 : Int32), m) = some r' ∧ (r.1 = r'.1 ∧ Rel (k + 1) s0 r.2.1 s2 s3 r.2.2 s5 s6 s7 (wI s8 0 1 0) s9 s10 r'.2) := by
                    refine loop_sim i (fun j s s' => j ≤ i ∧ s.1 = nI j ∧ s'.1 = nI j ∧ s'.2.1 1 = s11.1 1 ∧ RelN (n + j) k s0 s.2.1 s2 s3 s.2.2 s5 s7 (wI s8 0 1 0) s9 s10 s'.2) _ ?_ i 0 _ _ (by omega) ⟨by omega, rfl, rfl, hm1, hNm⟩
                    rintro j ⟨x, u1, u4⟩ ⟨x', um⟩ ⟨hj, e1, e2, e3, hR⟩
                    have e1 : x = nI j := e1
                    have e2 : x' = nI j := e2
                    subst e1 e2
                    have e3 : um.1 1 = s11.1 1 := e3
                    have hR : RelN (n + j) k s0 u1 s2 s3 u4 s5 s7 (wI s8 0 1 0) s9 s10 um := hR
                    unfold f10_cutByTape_l90 f11_cut_l134
                    by_cases hji : j = i
                    · right
                      subst hji
                      obtain ⟨v1, v4, vm, z1, z2, z3, z4⟩ := part_end (v := S) hR hk (show p < n + j by omega)
                      simp only [if_pos (show nI j ≤ nI j from nI_le (Nat.le_refl _) (by omega)), hpc, inb_n (show p < 150 by omega) (by omega : 150 < 2 ^ 31), chk_p, nm_p, z4]
                      refine ⟨(nI n, v1, v4), (nI n, vm), ?_, ?_, rfl, Rel.ofN z3⟩
                      · cases hw : f4_weightOf (nI p) u4 with
                        | none => rw [hw] at z1; cases z1
                        | some w =>
                          rw [hw, Option.bind_some] at z1
                          rw [Option.bind_some]
                          cases hc : f4_charge 1 (nI p) (w.toInt64 - S) u4 with
                          | none => rw [hc] at z1; cases z1
                          | some c =>
                            rw [hc, Option.bind_some] at z1
                            rw [Option.bind_some, z1]; rfl
                      · cases hw : f11_isDone (nI p) (wL um 22 (um.1 12 p).toNatClampNeg (um.2 22 (um.1 12 p).toNatClampNeg + ((um.1 14 p).toInt64 - S))) with
                        | none => rw [hw] at z2; cases z2
                        | some w =>
                          rw [hw, Option.bind_some] at z2
                          rw [Option.bind_some, z2]; rfl
                    · left
                      have hlt : j < i := by omega
                      obtain ⟨hn1, hn2⟩ := hnm j hlt
                      have hxw : bw 0 1000000000 (num j) := ⟨by omega, by have := g2.2; omega⟩
                      obtain ⟨v1, v4, vm, z1, z2, z3, z4⟩ := part_add hR hk (show n + j < 150 by omega) (show p < n + j by omega) hxw (bit_bw h2)
                      simp only [if_neg (show ¬ nI i ≤ nI j from nI_ge hlt (by omega)), hpc, inb_n (show p < 150 by omega) (by omega : 150 < 2 ^ 31), chk_p, nm_p, cn j hlt, rn j um hlt e3, Option.bind_some, z1, z2, nI_1]
                      exact ⟨_, _, rfl, rfl, hlt, hlt, rfl, rfl, z4.trans e3, z3⟩
                  obtain ⟨r, r', k1, k2, k3⟩ := key2
                  rw [k1, k2]
                  exact ⟨r, r', rfl, rfl, k3⟩
                · rw [if_pos (show (150 : Int32) < nI (n + i) from nI_lt (a := 150) (b := n + i) (by omega) (by omega)), if_neg (show ¬ nI (n + i) ≤ (150 : Int32) from nI_ge (a := 150) (b := n + i) (by omega) (by omega)), show chk (isB (0 : Int32)) (some (0 : Int32)) = some 0 from rfl, Option.bind_some, if_pos rfl]
                  exact ⟨_, _, rfl, rfl, rfl, Rel.ofN hNm.up⟩
              · rw [if_neg hle, if_neg hle]
                exact ⟨_, _, rfl, rfl, rfl, Rel.ofN hNm.up⟩
            · have hlt : i < a := by omega
              simp only [if_neg (show ¬ nI a ≤ nI i from nI_ge hlt (by omega)), cn i hlt, rn i m hlt hm1, Option.bind_some, nm_p, nI_1]
              by_cases h5 : (1 : Int32) ≤ num i
              · left
                have h5' : 1 ≤ (num i).toInt := Int32.le_iff_toInt_le.mp h5
                have hb := t_bound (num i)
                have hsum : (S + (num i).toInt64).toInt = S.toInt + (num i).toInt := by
                  have := addL_toInt (a := S) (c := (num i).toInt64) (by rw [Int32.toInt_toInt64]; omega) (by rw [Int32.toInt_toInt64]; omega)
                  rw [this, Int32.toInt_toInt64]
                simp only [if_pos h5]
                refine ⟨_, _, rfl, rfl, hlt, rfl, hlt, rfl, ?_, ?_, fun j hj => ?_⟩
                · show 0 ≤ (S + (num i).toInt64).toInt
                  rw [hsum]; omega
                · show (S + (num i).toInt64).toInt ≤ ((i + 1 : Nat) : Int) * 2147483648
                  rw [hsum]; omega
                · show 1 ≤ (num j).toInt ∧ (num j).toInt ≤ (S + (num i).toInt64).toInt
                  rw [hsum]
                  by_cases e : j = i
                  · subst e; exact ⟨h5', by omega⟩
                  · obtain ⟨z1, z2⟩ := hnm j (by omega)
                    exact ⟨z1, by omega⟩
              · right
                simp only [if_neg h5]
                exact ⟨_, _, rfl, rfl, rfl, Rel.ofN hNm.up⟩
          obtain ⟨⟨r1, r2, r3⟩, ⟨q1, q2⟩, k1, k2, k3, k4⟩ := key
          rw [k1, k2, w8]
          exact ⟨_, _, rfl, rfl, k3, k4⟩
        · rw [if_pos (show nI t < nI (4 * a) from nI_lt (by omega) (by omega)), if_neg (show ¬ nI (4 * a) ≤ nI t from nI_ge (by omega) (by omega)), show chk (isB (0 : Int32)) (some (0 : Int32)) = some 0 from rfl, Option.bind_some, if_pos rfl]
          exact ⟨_, _, rfl, rfl, rfl, h.same⟩
      · simp only [if_neg h1]
        exact ⟨_, _, rfl, rfl, rfl, h.same⟩
    · rw [if_neg h3, if_neg (show ¬ ((2 : Int64).toInt ≤ a3.toInt ∧ a3.toInt ≤ (6 : Int64).toInt) from h3)]
      simp only [ite_self]
      exact ⟨_, _, rfl, rfl, rfl, h.same⟩
  · rw [if_neg h2, if_neg (show ¬ ((0 : Int64).toInt ≤ a2.toInt ∧ a2.toInt ≤ (15 : Int64).toInt) from h2)]
    simp only [ite_self]
    exact ⟨_, _, rfl, rfl, rfl, h.same⟩
