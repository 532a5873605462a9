-- lend: the letters on both sides
theorem l_env {n : Nat} {s2 s4 s6 s10 s11 : OS} {p q : Nat} {a c : Nat} (hday : s10.1 0 9 = s11.1 0 2)
    (hP : RelP n s4 (s11.1 0 3) (s11.1 12) (s11.1 13) (s11.1 14) (s11.1 15) (s11.1 16) (s11.1 17) (s11.1 18) (s11.1 19) (s11.2 21) (s11.2 22) (s11.2 23) (s11.2 24))
    (ha : a ≤ 20) (hc : c ≤ 100) (l1 : s2.1 0 2 = nI a) (l3 : s2.1 0 9 = nI c) (l4 : s11.1 0 5 = nI c) (l5 : s2.1 1 = s11.1 31) (l6 : s2.1 2 = s11.1 32)
    (l8 : s2.1 5 = s11.1 60) (l11 : s2.1 8 = s11.1 63) (l12 : s2.1 9 = s11.1 64) (l13 : ∀ q, q < 20 → s11.2 33 q = misS (s11.1 60) (s11.1 64) (nI q) c) (hp : p < n) (hq : q < a) :
    ∃ s6', f10_tellLetters (nI p) (nI q) s2 s4 s6 s10 = some s6' ∧ s6'.1 = s6.1 ∧ ∀ m : OS, (∀ r, r ≠ 0 → r ≠ 57 → r ≠ 58 → m.1 r = s11.1 r) → (∀ r, r ≠ 56 → m.2 r = s11.2 r) → m.1 0 53 = nI p → m.1 0 54 = nI q → m.1 0 3 = s11.1 0 3 → m.1 0 5 = s11.1 0 5 → m.1 0 2 = s11.1 0 2 → EnvM m (s6'.2 3) := by
  obtain ⟨p1, p2, p3, p4, p5, p6, p7, p8, p9, p10, p11, p12, p13⟩ := id hP
  obtain ⟨g1, g2, g3, g4, g5⟩ := p12 p hp
  obtain ⟨kd, kd1, kd2, kd3⟩ := bw_nat (lo := 0) (hi := 7) g1 (by omega)
  obtain ⟨mt, mt1, mt2, mt3⟩ := bw_nat (lo := 0) (hi := 65535) g3 (by omega)
  have hh : f2_hasAsker (nI q) s2 = some 1 := by
    rw [c_hasAsker ha l1, b1_t]
    rw [nI_toInt (by omega)]; omega
  have hcq := nI_clamp (n := q) (by omega)
  have hcp := nI_clamp (n := p) (by omega)
  have hin := inb_n (show q < 20 by omega) (by omega : 20 < 2 ^ 31)
  have hin' := inb_n (show p < 150 by omega) (by omega : 150 < 2 ^ 31)
  have e1 : f2_fieldOf (nI q) s2 = some (s11.1 32 q) := by
    unfold f2_fieldOf f2_fieldOf_j18
    rw [hh, Option.bind_some, if_neg (show ¬ (1 : Int32) = 0 by decide), hin, chk_p, nm_p, hcq, l6]
  have e2 : f2_houseOf (nI q) s2 = some (s11.1 31 q) := by
    unfold f2_houseOf f2_houseOf_j18
    rw [hh, Option.bind_some, if_neg (show ¬ (1 : Int32) = 0 by decide), hin, chk_p, nm_p, hcq, l5]
  have e3 : f4_weightIn (nI kd) 0 9 0 s4 = some (sumN (wSum (s11.1 12) (s11.1 14) (s11.1 15) (s11.1 16) 0 9 false (fun p => s11.1 12 p = nI kd)) n) := by
    refine (c_weightIn (lo := 0) (hi := 9) p1 p2 (by omega) (by omega) (nI kd) false (fv := 0) (fun _ => rfl) (fun e => by cases e)).trans ?_
    rw [p4, p6, p7, p8, wSum_one (by omega)]
  have t0 := fun v s => c_setLetter (j := 0) (by omega) v s
  have t1 := fun v s => c_setLetter (j := 1) (by omega) v s
  have t2 := fun v s => c_setLetter (j := 2) (by omega) v s
  have t3 := fun v s => c_setLetter (j := 3) (by omega) v s
  have t4 := fun v s => c_setLetter (j := 4) (by omega) v s
  have t5 := fun v s => c_setLetter (j := 5) (by omega) v s
  have t6 := fun v s => c_setLetter (j := 6) (by omega) v s
  have t7 := fun v s => c_setLetter (j := 7) (by omega) v s
  have t8 := fun v s => c_setLetter (j := 8) (by omega) v s
  refine ⟨wL (wL (wL (wL (wL (wL (wL (wL (wL s6 3 0 (s11.1 32 q).toInt64) 3 1 (s11.1 31 q).toInt64) 3 2 (nI kd).toInt64) 3 3 (s4.1 3 p).toInt64) 3 4 (nI (onesN 16 mt)).toInt64) 3 5 (sumN (wSum (s11.1 12) (s11.1 14) (s11.1 15) (s11.1 16) 0 9 false (fun p => s11.1 12 p = nI kd)) n)) 3 6 (nI (cntB (fun i => decide (s2.1 8 i = -1) && decide (s2.1 5 i = nI q)) c)).toInt64) 3 7 (misS (s2.1 5) (s2.1 9) (nI q) c)) 3 8 (s10.1 0 9).toInt64, ?_, rfl, ?_⟩
  · unfold f10_tellLetters
    rw [c_kindOfP p1 p2 hp, Option.bind_some, e1, Option.bind_some, show f5_tell (102 : Int32) = f5_tell (letC 0) from rfl, t0, Option.bind_some, e2, Option.bind_some, show f5_tell (104 : Int32) = f5_tell (letC 1) from rfl, t1, Option.bind_some,
      show f5_tell (107 : Int32) = f5_tell (letC 2) from rfl, t2, Option.bind_some, c_weightOfP p1 p2 hp, Option.bind_some, show f5_tell (119 : Int32) = f5_tell (letC 3) from rfl, t3, Option.bind_some, c_metOfP p1 p2 hp, Option.bind_some, p7, mt3, c_bitCount (by omega), Option.bind_some,
      show f5_tell (109 : Int32) = f5_tell (letC 4) from rfl, t4, Option.bind_some, p4, kd3, e3, Option.bind_some, show f5_tell (108 : Int32) = f5_tell (letC 5) from rfl, t5, Option.bind_some, c_loansOut hc l3, Option.bind_some, show f5_tell (97 : Int32) = f5_tell (letC 6) from rfl, t6, Option.bind_some,
      c_missing hc l3, Option.bind_some, show f5_tell (115 : Int32) = f5_tell (letC 7) from rfl, t7, Option.bind_some, show f5_tell (100 : Int32) = f5_tell (letC 8) from rfl, t8, Option.bind_some]
  · intro m hr hl h53 h54 h3 h5 h2 m' hm j hj
    have hr' : ∀ r, r ≠ 0 → r ≠ 57 → r ≠ 58 → m'.1 r = s11.1 r := fun r z1 z2 z3 => (hm.1 r z2).trans (hr r z1 z2 z3)
    have hl' : ∀ r, r ≠ 56 → m'.2 r = s11.2 r := fun r z1 => (hm.2 r z1).trans (hl r z1)
    have h0 : m'.1 0 = m.1 0 := hm.1 0 (by decide)
    have v53 : m'.1 0 53 = nI p := by rw [h0, h53]
    have v54 : m'.1 0 54 = nI q := by rw [h0, h54]
    have v3 : m'.1 0 3 = nI n := by rw [h0, h3, p3]
    have v5 : m'.1 0 5 = nI c := by rw [h0, h5, l4]
    have v2 : m'.1 0 2 = s11.1 0 2 := by rw [h0, h2]
    have w12 := hr' 12 (by decide) (by decide) (by decide)
    have w14 := hr' 14 (by decide) (by decide) (by decide)
    have w15 := hr' 15 (by decide) (by decide) (by decide)
    have w16 := hr' 16 (by decide) (by decide) (by decide)
    have w31 := hr' 31 (by decide) (by decide) (by decide)
    have w32 := hr' 32 (by decide) (by decide) (by decide)
    have w60 := hr' 60 (by decide) (by decide) (by decide)
    have w63 := hr' 63 (by decide) (by decide) (by decide)
    have w33 := hl' 33 (by decide)
    unfold f11_valueOf
    simp only [nm_p, v53, v54]
    have hc9 : j = 0 ∨ j = 1 ∨ j = 2 ∨ j = 3 ∨ j = 4 ∨ j = 5 ∨ j = 6 ∨ j = 7 ∨ j = 8 := by omega
    rcases hc9 with rfl | rfl | rfl | rfl | rfl | rfl | rfl | rfl | rfl
    · rw [if_neg (show ¬ letC 0 = 97 by decide), if_pos (show letC 0 = 102 from rfl), hin, chk_p, hcq, w32]; rfl
    · rw [if_neg (show ¬ letC 1 = 97 by decide), if_neg (show ¬ letC 1 = 102 by decide), if_pos (show letC 1 = 104 from rfl), hin, chk_p, hcq, w31]; rfl
    · rw [if_neg (show ¬ letC 2 = 97 by decide), if_neg (show ¬ letC 2 = 102 by decide), if_neg (show ¬ letC 2 = 104 by decide), if_pos (show letC 2 = 107 from rfl), hin', chk_p, hcp, w12, kd3]; rfl
    · rw [if_neg (show ¬ letC 3 = 97 by decide), if_neg (show ¬ letC 3 = 102 by decide), if_neg (show ¬ letC 3 = 104 by decide), if_neg (show ¬ letC 3 = 107 by decide), if_neg (show ¬ letC 3 = 108 by decide), if_neg (show ¬ letC 3 = 109 by decide), if_neg (show ¬ letC 3 = 115 by decide), if_pos (show letC 3 = 119 from rfl), hin', chk_p, hcp, w14, ← p6]; rfl
    · rw [if_neg (show ¬ letC 4 = 97 by decide), if_neg (show ¬ letC 4 = 102 by decide), if_neg (show ¬ letC 4 = 104 by decide), if_neg (show ¬ letC 4 = 107 by decide), if_neg (show ¬ letC 4 = 108 by decide), if_pos (show letC 4 = 109 from rfl), hin', chk_p, hcp, w15, mt3, r_sizeOf (by omega), Option.bind_some]; rfl
    · rw [if_neg (show ¬ letC 5 = 97 by decide), if_neg (show ¬ letC 5 = 102 by decide), if_neg (show ¬ letC 5 = 104 by decide), if_neg (show ¬ letC 5 = 107 by decide), if_pos (show letC 5 = 108 from rfl), hin', chk_p, hcp, w12, kd3, r_inCabinets p1 v3 (fun x hx => by rw [w16]; exact (p12 x hx).2.2.2.1.1) (nI kd) false (fv := 0) (fun _ => rfl) (fun e => by cases e), Option.bind_some, w12, w14, w15, w16]; rfl
    · rw [if_pos (show letC 6 = 97 from rfl), r_loansOf hc v5, Option.bind_some, w60, w63, ← l8, ← l11]; rfl
    · rw [if_neg (show ¬ letC 7 = 97 by decide), if_neg (show ¬ letC 7 = 102 by decide), if_neg (show ¬ letC 7 = 104 by decide), if_neg (show ¬ letC 7 = 107 by decide), if_neg (show ¬ letC 7 = 108 by decide), if_neg (show ¬ letC 7 = 109 by decide), if_pos (show letC 7 = 115 from rfl), hin, chk_p, hcq, w33, l13 q (by omega), ← l8, ← l12]; rfl
    · rw [if_neg (show ¬ letC 8 = 97 by decide), if_neg (show ¬ letC 8 = 102 by decide), if_neg (show ¬ letC 8 = 104 by decide), if_neg (show ¬ letC 8 = 107 by decide), if_neg (show ¬ letC 8 = 108 by decide), if_neg (show ¬ letC 8 = 109 by decide), if_neg (show ¬ letC 8 = 115 by decide), if_neg (show ¬ letC 8 = 119 by decide), v2, ← hday]; rfl
