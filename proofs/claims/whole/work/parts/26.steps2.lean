-- steps: what is told of a piece, of a loan, of the counts
theorem t_bound (x : Int32) : -2147483648 ≤ x.toInt ∧ x.toInt < 2147483648 := ⟨Int32.le_toInt x, Int32.toInt_lt x⟩
theorem wI_at {s : OS} {r i : Nat} {v : Int32} : (wI s r i v).1 r i = v := by
  show (if r = r then _ else s.1 r) i = v
  rw [if_pos rfl]
  show (if i = i then v else _) = v
  rw [if_pos rfl]
theorem wI_of {s : OS} {r i r' : Nat} {v : Int32} (h : r' ≠ r) : (wI s r i v).1 r' = s.1 r' := if_neg h
theorem st_piece {k : Nat} {s0 s1 s2 s3 s4 s5 s6 s7 s8 s9 s10 s11 : OS} (h : Rel k s0 s1 s2 s3 s4 s5 s6 s7 s8 s9 s10 s11) (hk : k < 512) (a1 : Int32) (a2 : Int32) : ∃ (rc : Int32) (rr : Int32), f10_piece a1 a2 s4 = some rc ∧ f11_piece a1 a2 s11 = some rr ∧ rc = rr ∧ Rel (k + 1) s0 s1 s2 s3 s4 s5 s6 s7 s8 s9 s10 s11 := by
  obtain ⟨n, hV, ⟨p1, p2, p3, p4, p5, p6, p7, p8, p9, p10, p11, p12, p13⟩, hD⟩ := id h
  suffices e : ∃ r, f4_tell a1 a2 s4 = some r ∧ f11_piece a1 a2 s11 = some r by
    obtain ⟨r, e1, e2⟩ := e
    refine ⟨r, r, ?_, e2, rfl, h.same⟩
    unfold f10_piece; rw [e1]; rfl
  unfold f4_tell f4_tell_j119 f11_piece f11_piece_j119
  rw [c_has p1 p2, r_isPiece p1 p3, Option.bind_some, Option.bind_some, if_b1, if_b1]
  by_cases h1 : 0 ≤ a1.toInt ∧ a1.toInt < n
  · rw [if_pos h1, if_pos h1, inb_i (N := 150) (by omega)]
    simp only [chk_t, nm_d, p4, p5, p6, p7, p8, p9, p10, p11]
    by_cases c0 : a2 = 0
    · rw [if_pos c0]; exact ⟨_, rfl, rfl⟩
    rw [if_neg c0]
    by_cases c1 : a2 = 1
    · rw [if_pos c1]; exact ⟨_, rfl, rfl⟩
    rw [if_neg c1]
    by_cases c2 : a2 = 2
    · rw [if_pos c2]; exact ⟨_, rfl, rfl⟩
    rw [if_neg c2]
    by_cases c3 : a2 = 3
    · rw [if_pos c3]; exact ⟨_, rfl, rfl⟩
    rw [if_neg c3]
    by_cases c4 : a2 = 4
    · rw [if_pos c4]; exact ⟨_, rfl, rfl⟩
    rw [if_neg c4]
    by_cases c5 : a2 = 5
    · rw [if_pos c5]; exact ⟨_, rfl, rfl⟩
    rw [if_neg c5]
    by_cases c6 : a2 = 6
    · rw [if_pos c6]; exact ⟨_, rfl, rfl⟩
    rw [if_neg c6]
    by_cases c7 : a2 = 7
    · rw [if_pos c7]
      by_cases c8 : s11.1 19 a1.toNatClampNeg = 0
      · rw [if_pos c8]; exact ⟨_, rfl, rfl⟩
      · rw [if_neg c8]; exact ⟨_, rfl, rfl⟩
    rw [if_neg c7]; exact ⟨_, rfl, rfl⟩
  · rw [if_neg h1, if_neg h1]; exact ⟨_, rfl, rfl⟩
theorem c_hasLoan {a : Int32} {s2 : OS} {n : Nat} (hn : n ≤ 100) (h : s2.1 0 9 = nI n) : f2_hasLoan a s2 = some (b1 (0 ≤ a.toInt ∧ a.toInt < n)) := by
  unfold f2_hasLoan f2_hasLoan_j22 f2_hasLoan_j23
  rw [h]
  have e0 : (0 : Int32).toInt = 0 := rfl
  have en := nI_toInt (n := n) (by omega)
  have e150 : (100 : Int32).toInt = 100 := rfl
  simp only [Int32.lt_iff_toInt_lt, Int32.le_iff_toInt_le, e0, en, e150]
  by_cases h1 : a.toInt < 0
  · rw [if_pos h1, b1_f (by omega)]; rfl
  · rw [if_neg h1]
    by_cases h2 : (n : Int) ≤ a.toInt
    · rw [if_pos h2, b1_f (by omega)]; rfl
    · rw [if_neg h2, if_neg (by omega), b1_t (by omega)]; rfl
theorem c_isOut {a : Int32} {s2 : OS} {n : Nat} (hn : n ≤ 100) (h : s2.1 0 9 = nI n) : f2_isOut a s2 = some (b1 ((0 ≤ a.toInt ∧ a.toInt < n) ∧ s2.1 8 a.toNatClampNeg = -1)) := by
  unfold f2_isOut f2_isOut_j22 f2_isOut_j23
  rw [c_hasLoan hn h, Option.bind_some, if_b1]
  by_cases h1 : 0 ≤ a.toInt ∧ a.toInt < n
  · rw [if_pos h1, inb_i (N := 100) (by omega), chk_t, nm_d]
    by_cases h2 : s2.1 8 a.toNatClampNeg = -1
    · rw [if_pos h2, b1_t ⟨h1, h2⟩]; rfl
    · rw [if_neg h2, b1_f (fun e => h2 e.2)]; rfl
  · rw [if_neg h1, b1_f (fun e => h1 e.1)]; rfl
/-- lies(i, 0, n - 1) of the reference -/
theorem r_lies0 {a : Int32} {n : Nat} {x : Int32} (hn : n < 2 ^ 30) (h : x = nI n) : f11_lies a.toInt64 0 ((x - 1).toInt64) = some (b1 (0 ≤ a.toInt ∧ a.toInt < n)) := by
  rw [r_lies, h, Int32.toInt_toInt64, Int32.toInt_toInt64, nI_pred_toInt hn]
  congr 1
  exact b1_c (by have : (0 : Int64).toInt = 0 := rfl; omega)
theorem st_loan {k : Nat} {s0 s1 s2 s3 s4 s5 s6 s7 s8 s9 s10 s11 : OS} (h : Rel k s0 s1 s2 s3 s4 s5 s6 s7 s8 s9 s10 s11) (hk : k < 512) (a1 : Int32) (a2 : Int32) : ∃ (rc : Int32) (rr : Int32), f10_loan a1 a2 s2 s10 = some rc ∧ f11_loan a1 a2 s11 = some rr ∧ rc = rr ∧ Rel (k + 1) s0 s1 s2 s3 s4 s5 s6 s7 s8 s9 s10 s11 := by
  obtain ⟨n, ⟨hg, ht, htr, hgr⟩, hP, hD, ⟨a, c, q1, q2, q3, q4, q5, q6, q7, q8, q9, q10, q11, q12, q13, q14, q15, q16⟩, hS⟩ := id h
  suffices e : ∃ r, f2_tell a1 a2 (s10.1 0 9) s2 = some r ∧ f11_loan a1 a2 s11 = some r by
    obtain ⟨r, e1, e2⟩ := e
    refine ⟨r, r, ?_, e2, rfl, h.same⟩
    unfold f10_loan; rw [e1]; rfl
  unfold f2_tell f2_tell_j116 f2_tell_j117 f11_loan f11_loan_j129 f11_loan_j130
  rw [c_hasLoan q2 q5, r_lies0 (by omega) q6, Option.bind_some, Option.bind_some, if_b1, if_b1]
  by_cases h1 : 0 ≤ a1.toInt ∧ a1.toInt < c
  · rw [if_pos h1, if_pos h1, inb_i (N := 100) (by omega), c_isOut q2 q5]
    simp only [chk_t, nm_d, q9, q10, q11, q12, q13, q14, ht, Option.bind_some, if_b1, h1, true_and]
    by_cases c0 : a2 = 0
    · rw [if_pos c0]; exact ⟨_, rfl, rfl⟩
    rw [if_neg c0]
    by_cases c1 : a2 = 1
    · rw [if_pos c1]; exact ⟨_, rfl, rfl⟩
    rw [if_neg c1]
    by_cases c2 : a2 = 2
    · rw [if_pos c2]; exact ⟨_, rfl, rfl⟩
    rw [if_neg c2]
    by_cases c3 : a2 = 3
    · rw [if_pos c3]; exact ⟨_, rfl, rfl⟩
    rw [if_neg c3]
    by_cases c4 : a2 = 4
    · rw [if_pos c4]; exact ⟨_, rfl, rfl⟩
    rw [if_neg c4]
    by_cases c5 : a2 = 5
    · rw [if_pos c5]; exact ⟨_, rfl, rfl⟩
    rw [if_neg c5]
    by_cases c6 : a2 = 6
    · rw [if_pos c6]
      by_cases c7 : s11.1 63 a1.toNatClampNeg = -1
      · rw [if_pos c7]
        by_cases c8 : s11.1 0 2 ≤ s11.1 62 a1.toNatClampNeg
        · rw [if_pos c8]; exact ⟨_, rfl, rfl⟩
        · rw [if_neg c8]; exact ⟨_, rfl, rfl⟩
      · rw [if_neg c7]; exact ⟨_, rfl, rfl⟩
    rw [if_neg c6]; exact ⟨_, rfl, rfl⟩
  · rw [if_neg h1, if_neg h1]; exact ⟨_, rfl, rfl⟩
theorem st_count {k : Nat} {s0 s1 s2 s3 s4 s5 s6 s7 s8 s9 s10 s11 : OS} (h : Rel k s0 s1 s2 s3 s4 s5 s6 s7 s8 s9 s10 s11) (hk : k < 512) (a1 : Int32) : ∃ (rc : Int32) (rr : Int32), f10_count a1 s0 s2 s4 s5 s7 s8 s9 s10 = some rc ∧ f11_count a1 s11 = some rr ∧ rc = rr ∧ Rel (k + 1) s0 s1 s2 s3 s4 s5 s6 s7 s8 s9 s10 s11 := by
  obtain ⟨n, ⟨hg, ht, htr, hgr⟩, ⟨p1, p2, p3, p4⟩, hD, ⟨a, c, q1, q2, q3, q4, q5, q6, q7⟩, ⟨w, w1, w2, w3, w4⟩, ⟨t, t1, t2, t3, t4⟩, ⟨g, u, g1, g2, g3, g4, g5, g6, g7⟩, ⟨b, b1', b2, b3, b4⟩, hM, ⟨r, r1, r2, r3, r4, r5, r6, r7⟩⟩ := id h
  suffices e : ∃ x, f10_count a1 s0 s2 s4 s5 s7 s8 s9 s10 = some x ∧ f11_count a1 s11 = some x by
    obtain ⟨x, e1, e2⟩ := e
    exact ⟨x, x, e1, e2, rfl, h.same⟩
  have hb := t_bound a1
  have e20 : (20 : Int32).toInt = 20 := rfl
  have e39 : (39 : Int32).toInt = 39 := rfl
  have e40 : (40 : Int32).toInt = 40 := rfl
  have e49 : (49 : Int32).toInt = 49 := rfl
  have f20 : (20 : Int64).toInt = 20 := rfl
  have f40 : (40 : Int64).toInt = 40 := rfl
  have f49 : (49 : Int64).toInt = 49 := rfl
  have e19 : ((19 : Int32) + s11.1 0 6).toInt = 19 + r := by
    rw [r3, show (19 : Int32) = nI 19 from rfl, nI_add, nI_toInt (by omega)]; omega
  unfold f10_count f11_count
  rw [c_isWithin, r_lies, Option.bind_some, Option.bind_some, if_b1, if_b1, c_isWithin, r_lies, Option.bind_some, Option.bind_some, if_b1, if_b1, Int32.toInt_toInt64, Int32.toInt_toInt64, e19]
  simp only [e20, e39, e40, e49, f20, f40, f49]
  by_cases h1 : 20 ≤ a1.toInt ∧ a1.toInt ≤ 39
  · rw [if_pos h1]
    have es : (a1 - 20).toInt = a1.toInt - 20 := by rw [sub_toInt (by rw [e20]; omega) (by rw [e20]; omega), e20]
    unfold f5_clausesOf f5_clausesOf_j18 f5_has f5_has_j22 f5_has_j23
    have e0 : (0 : Int32).toInt = 0 := rfl
    rw [if_neg (show ¬ (a1 - 20 : Int32) < 0 by rw [Int32.lt_iff_toInt_lt, es, e0]; omega)]
    by_cases h2 : a1.toInt ≤ 19 + r
    · rw [if_pos (show 20 ≤ a1.toInt ∧ a1.toInt ≤ 19 + (r : Int) from ⟨h1.1, h2⟩), if_neg (show ¬ s5.1 0 8 ≤ (a1 - 20 : Int32) by rw [Int32.le_iff_toInt_le, es, r2, nI_toInt (by omega)]; omega), if_neg (show ¬ (20 : Int32) ≤ (a1 - 20 : Int32) by rw [Int32.le_iff_toInt_le, es, e20]; omega)]
      have hi : inb (a1 - 20) 20 = true := inb_i (by rw [es]; omega)
      rw [hi]
      refine ⟨s11.1 36 (a1 - 20).toNatClampNeg, ?_, rfl⟩
      rw [← r6]; rfl
    · rw [if_pos (show s5.1 0 8 ≤ (a1 - 20 : Int32) by rw [Int32.le_iff_toInt_le, es, r2, nI_toInt (by omega)]; omega), if_neg (show ¬ (20 ≤ a1.toInt ∧ a1.toInt ≤ 19 + (r : Int)) by omega), if_neg (show ¬ (40 ≤ a1.toInt ∧ a1.toInt ≤ 49) by omega)]
      have hne : ∀ z : Nat, z < 20 → ¬ a1 = nI z := fun z hz e => by
        have := nI_toInt (n := z) (by omega)
        rw [← e] at this; omega
      rw [if_neg (show ¬ a1 = 0 from hne 0 (by omega)), if_neg (show ¬ a1 = 1 from hne 1 (by omega)), if_neg (show ¬ a1 = 2 from hne 2 (by omega)), if_neg (show ¬ a1 = 3 from hne 3 (by omega)), if_neg (show ¬ a1 = 4 from hne 4 (by omega)), if_neg (show ¬ a1 = 5 from hne 5 (by omega)), if_neg (show ¬ a1 = 6 from hne 6 (by omega)), if_neg (show ¬ a1 = 7 from hne 7 (by omega)), if_neg (show ¬ a1 = 8 from hne 8 (by omega)), if_neg (show ¬ a1 = 9 from hne 9 (by omega))]
      exact ⟨-1, rfl, rfl⟩
  · rw [if_neg h1, if_neg (show ¬ (20 ≤ a1.toInt ∧ a1.toInt ≤ 19 + (r : Int)) by omega)]
    by_cases h2 : 40 ≤ a1.toInt ∧ a1.toInt ≤ 49
    · rw [if_pos h2, if_pos h2]
      have es : (a1 - 40).toInt = a1.toInt - 40 := by rw [sub_toInt (by rw [e40]; omega) (by rw [e40]; omega), e40]
      have hi : inb (a1 - 40) 10 = true := inb_i (by rw [es]; omega)
      unfold f10_gasOf f10_gasOf_j17
      rw [c_isCabinet, Option.bind_some, if_b1, if_pos (by rw [es]; omega), hi, hg]
      exact ⟨_, rfl, rfl⟩
    · rw [if_neg h2, if_neg h2]
      by_cases c0 : a1 = 0
      · rw [if_pos c0, if_pos c0, ht]; exact ⟨_, rfl, rfl⟩
      rw [if_neg c0, if_neg c0]
      by_cases c1 : a1 = 1
      · rw [if_pos c1, if_pos c1]; exact ⟨s11.1 0 3, by rw [p3, ← p2]; rfl, rfl⟩
      rw [if_neg c1, if_neg c1]
      by_cases c2 : a1 = 2
      · rw [if_pos c2, if_pos c2]; exact ⟨s11.1 0 4, by rw [q4, ← q3]; rfl, rfl⟩
      rw [if_neg c2, if_neg c2]
      by_cases c3 : a1 = 3
      · rw [if_pos c3, if_pos c3]; exact ⟨s11.1 0 6, by rw [r3, ← r2]; rfl, rfl⟩
      rw [if_neg c3, if_neg c3]
      by_cases c4 : a1 = 4
      · rw [if_pos c4, if_pos c4]; exact ⟨s11.1 0 5, by rw [q6, ← q5]; rfl, rfl⟩
      rw [if_neg c4, if_neg c4]
      by_cases c5 : a1 = 5
      · rw [if_pos c5, if_pos c5]; exact ⟨s11.1 0 7, by rw [w3, ← w2]; rfl, rfl⟩
      rw [if_neg c5, if_neg c5]
      by_cases c6 : a1 = 6
      · rw [if_pos c6, if_pos c6]; exact ⟨s11.1 0 8, by rw [g4, ← g3]; rfl, rfl⟩
      rw [if_neg c6, if_neg c6]
      by_cases c7 : a1 = 7
      · rw [if_pos c7, if_pos c7]
        refine ⟨s11.1 0 9, ?_, rfl⟩
        show some (s9.1 0 7 - s9.1 0 6) = _
        rw [g3, g5, g6, pk_sub (by omega), Nat.add_sub_cancel_left]
      rw [if_neg c7, if_neg c7]
      by_cases c8 : a1 = 8
      · rw [if_pos c8, if_pos c8]; exact ⟨s11.1 0 10, by rw [b3, ← b2]; rfl, rfl⟩
      rw [if_neg c8, if_neg c8]
      by_cases c9 : a1 = 9
      · rw [if_pos c9, if_pos c9]; exact ⟨s11.1 0 1, by rw [t3, ← t2]; rfl, rfl⟩
      rw [if_neg c9, if_neg c9]
      exact ⟨_, rfl, rfl⟩
