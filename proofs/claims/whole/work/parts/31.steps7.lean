-- steps: give, back
theorem nm_p {α β : Type} (v : α) (k : α → β) : nm v k = k v := Eq.trans (nm_d v k) rfl
theorem chk_p {α : Type} (k : Option α) : chk true k = k := Eq.trans (chk_t k) rfl
theorem st_give {k : Nat} {s0 s1 s2 s3 s4 s5 s6 s7 s8 s9 s10 s11 : OS} (h : Rel k s0 s1 s2 s3 s4 s5 s6 s7 s8 s9 s10 s11) (hk : k < 512) (a1 : Int32) (a2 : Int32) (a3 : Int32) : ∃ (rc : Int32 × OS × OS × OS) (rr : Int32 × OS), f10_give a1 a2 a3 s1 s4 s9 s10 = some rc ∧ f11_give a1 a2 a3 s11 = some rr ∧ rc.1 = rr.1 ∧ Rel (k + 1) s0 rc.2.1 s2 s3 rc.2.2.1 s5 s6 s7 s8 rc.2.2.2 s10 rr.2 := by
  obtain ⟨n, ⟨hg, ht, htr, hgr⟩, hP, hD, hL, hS, hT, ⟨g, t, q1, q2, q3, q4, q5, q6, q7, q8, q9, q10, q11, q12⟩, hA⟩ := id h
  obtain ⟨p1, p2, p3, p4, p5, p6, p7, p8, p9, p10, p11, p12, p13⟩ := id hP
  obtain ⟨d, d1, d2, d3, d4⟩ := hD.add hk p1
  have e40 : (nI g = (40 : Int32)) ↔ g = 40 := nI_eq (a := g) (b := 40) (by omega) (by omega)
  have hroom : f9_hasRoomForGift s9 = some (b1 (g < 40)) := by
    unfold f9_hasRoomForGift f9_hasRoomForGift_j14
    rw [q3]
    by_cases g1 : g < 40
    · rw [if_neg (show ¬ (40 : Int32) ≤ nI g from nI_ge (a := g) (b := 40) g1 (by omega)), b1_t g1]; rfl
    · rw [if_pos (show (40 : Int32) ≤ nI g from nI_le (a := 40) (b := g) (by omega) (by omega)), b1_f g1]; rfl
  unfold f10_give f10_give_j17 f10_give_j40 f11_give f11_give_j36
  rw [c_isPlace, r_isPlace, c_isAtHand p1 p2, hroom, r_isOpen p1 p3, q4, p8, p11]
  simp only [Option.bind_some, c_isWithin, r_lies, if_b1, Int32.toInt_toInt64]
  by_cases h1 : (0 : Int32).toInt ≤ a2.toInt ∧ a2.toInt ≤ (99 : Int32).toInt
  · rw [if_pos h1, if_pos (show (0 : Int64).toInt ≤ a2.toInt ∧ a2.toInt ≤ (99 : Int64).toInt from h1)]
    by_cases h2 : 0 ≤ a3.toInt ∧ a3.toInt ≤ 15
    · simp only [if_pos h2]
      by_cases h3 : ((0 ≤ a1.toInt ∧ a1.toInt < n) ∧ (s11.1 16 a1.toNatClampNeg).toInt < 10) ∧ s11.1 19 a1.toNatClampNeg = 0
      · simp only [if_pos h3]
        by_cases h4 : g < 40
        · rw [if_pos h4, if_neg (fun e => by have := e40.mp e; omega)]
          obtain ⟨p, hp, rfl⟩ := nI_of_in h3.1.1 (by omega)
          have hcl := nI_clamp (n := p) (by omega)
          have hcg := nI_clamp (n := g) (by omega)
          obtain ⟨g1, g2, g3, g4, g5⟩ := p12 p hp
          rw [c_weightOfP p1 p2 hp, Option.bind_some, c_change p1 p2 hp d1 d2, Option.bind_some]
          unfold f9_begin f9_begin_j15
          simp only [q3, nm_p, hcg, inb_n h4 (by omega : 40 < 2 ^ 31), chk_p]
          rw [if_neg (nI_pos (n := g) (by omega)), if_pos (show nI g < (40 : Int32) from nI_lt (a := g) (b := 40) h4 (by omega))]
          have e1 : ∀ x, (wI s9 3 g x).1 0 6 = nI g := fun _ => q3
          rw [e1, nI_1, c_see (s9 := wI (wI s9 3 g (s10.1 0 9)) 0 6 (nI (g + 1))) (q := g + t) (by omega) q5]
          simp only [Option.bind_some]
          have m1 : ∀ x, (wI s11 80 g x).1 0 8 = nI g := fun _ => q4
          have m2 : ∀ x y, (wI (wI s11 80 g x) 81 g y).1 0 8 = nI g := fun _ _ => q4
          simp only [q4, hcg, hcl, m1, m2, inb_n h4 (by omega : 40 < 2 ^ 31), inb_n (show p < 150 by omega) (by omega : 150 < 2 ^ 31), chk_p, nI_1]
          rw [rn_of (s11 := s11) (m := wI (wI (wI (wI s11 80 g (s11.1 0 2)) 81 g a3) 0 8 (nI (g + 1))) 16 p 11) (by omega) d3 (by omega) rfl]
          simp only [Option.bind_some]
          refine ⟨_, _, rfl, rfl, ?_, n, ⟨hg, ht, htr, hgr⟩, hP.upd hp (w := s4.1 3 p) (q := 0) (pl := 11) (by rw [p6]; exact g2) ⟨by decide, by decide⟩ ⟨by decide, by decide⟩ ?_ ?_ rfl, d4 _ _ _ _ _ _ _ _ _ _ rfl ht ?_ ?_ ?_, hL, hS, hT, ⟨g + 1, t, by omega, q2, rfl, rfl, ?_, q6, ?_, q8, q9, fun i hi => ?_, fun i hi => ?_, ?_⟩, hA⟩
          · show nI g = nI (g + 1) - 1
            rw [← nI_1, add_sub1]
          · show s11.1 14 = _
            rw [p6, fupd_id]
          · show s11.1 15 = _
            rw [or_0, fupd_id]
          · rw [p6]; rfl
          · rw [p7, or_0]; rfl
          · exact (wI_at (s := wI (wI (wI s11 80 g (s11.1 0 2)) 81 g a3) 0 8 (nI (g + 1))) (r := 16) (i := p)).symm
          · show nI (g + t + 1) = nI (g + 1 + t)
            rw [show g + t + 1 = g + 1 + t by omega]
          · show fupd (s9.1 3) g (s10.1 0 9) = fupd (s11.1 80) g (s11.1 0 2)
            rw [q7, ht]
          · show bw 0 99999 (fupd (s11.1 80) g (s11.1 0 2) i) ∧ bw 0 15 (fupd (s11.1 81) g a3 i)
            by_cases e : i = g
            · subst e; rw [fupd_s, fupd_s, ← ht]; exact ⟨htr, h2⟩
            · rw [fupd_n e, fupd_n e]; exact q10 i (by omega)
          · obtain ⟨⟨q, z1, z2⟩, z3⟩ := q11 i hi
            exact ⟨⟨q, by omega, z2⟩, z3⟩
          · intro u v w
            show (∃ i, i < g + 1 + t ∧ fupd (s9.1 4) (g + t) (nI g) i = u ∧ fupd (s9.1 5) (g + t) a3 i = v ∧ fupd (s9.1 6) (g + t) (s10.1 0 9) i = w) ↔ ((∃ i, i < g + 1 ∧ nI i = u ∧ fupd (s11.1 81) g a3 i = v ∧ fupd (s11.1 80) g (s11.1 0 2) i = w) ∨ ∃ i, i < t ∧ s11.1 82 i = u ∧ s11.1 83 i = v ∧ s11.1 84 i = w)
            rw [show g + 1 + t = g + t + 1 by omega, ex_add, q12, ht]
            have e3 : (∃ i, i < g + 1 ∧ nI i = u ∧ fupd (s11.1 81) g a3 i = v ∧ fupd (s11.1 80) g (s11.1 0 2) i = w) ↔ ((∃ i, i < g ∧ nI i = u ∧ s11.1 81 i = v ∧ s11.1 80 i = w) ∨ (nI g = u ∧ a3 = v ∧ s11.1 0 2 = w)) := by
              constructor
              · rintro ⟨i, z1, z2, z3, z4⟩
                by_cases e : i = g
                · subst e; rw [fupd_s] at z3 z4; exact Or.inr ⟨z2, z3, z4⟩
                · rw [fupd_n e] at z3 z4; exact Or.inl ⟨i, by omega, z2, z3, z4⟩
              · rintro (⟨i, z1, z2, z3, z4⟩ | ⟨z2, z3, z4⟩)
                · exact ⟨i, by omega, z2, by rw [fupd_n (by omega)]; exact z3, by rw [fupd_n (by omega)]; exact z4⟩
                · exact ⟨g, by omega, z2, by rw [fupd_s]; exact z3, by rw [fupd_s]; exact z4⟩
            rw [e3]
            constructor
            · rintro ((z | z) | z)
              · exact Or.inl (Or.inl z)
              · exact Or.inr z
              · exact Or.inl (Or.inr z)
            · rintro ((z | z) | z)
              · exact Or.inl (Or.inl z)
              · exact Or.inr z
              · exact Or.inl (Or.inr z)
        · rw [if_neg h4, if_pos (e40.mpr (by omega))]
          exact ⟨_, _, rfl, rfl, rfl, h.same⟩
      · simp only [if_neg h3, ite_self]
        exact ⟨_, _, rfl, rfl, rfl, h.same⟩
    · simp only [if_neg h2, ite_self]
      exact ⟨_, _, rfl, rfl, rfl, h.same⟩
  · rw [if_neg h1, if_neg (show ¬ ((0 : Int64).toInt ≤ a2.toInt ∧ a2.toInt ≤ (99 : Int64).toInt) from h1)]
    simp only [ite_self]
    exact ⟨_, _, rfl, rfl, rfl, h.same⟩
theorem i64_zero_add (x : Int64) : 0 + x = x := by simp
theorem misS_upd {bo mi : Nat → Int32} {a v : Int32} {i : Nat} (h0 : mi i = 0) : ∀ c, i < c → misS bo (fupd mi i v) a c = misS bo mi a c + (if bo i = a then v.toInt64 else 0)
  | 0, h => by omega
  | c + 1, h => by
    show misS bo (fupd mi i v) a c + (if bo c = a then (fupd mi i v c).toInt64 else 0) = misS bo mi a c + (if bo c = a then (mi c).toInt64 else 0) + (if bo i = a then v.toInt64 else 0)
    by_cases e : i = c
    · subst e
      have e2 : ∀ m, m ≤ i → misS bo (fupd mi i v) a m = misS bo mi a m := by
        intro m
        induction m with
        | zero => intro _; rfl
        | succ m ih =>
          intro hm
          show misS bo (fupd mi i v) a m + (if bo m = a then (fupd mi i v m).toInt64 else 0) = misS bo mi a m + (if bo m = a then (mi m).toInt64 else 0)
          rw [ih (by omega), fupd_n (by omega)]
      rw [e2 i (Nat.le_refl _), fupd_s, h0]
      by_cases e3 : bo i = a
      · simp only [if_pos e3]
        show _ = misS bo mi a i + 0 + _
        rw [Int64.add_zero]
      · simp only [if_neg e3, Int64.add_zero]
    · rw [misS_upd h0 c (by omega), fupd_n (by omega)]
      rw [Int64.add_assoc, Int64.add_assoc, Int64.add_comm (if bo i = a then v.toInt64 else 0)]
theorem st_back {k : Nat} {s0 s1 s2 s3 s4 s5 s6 s7 s8 s9 s10 s11 : OS} (h : Rel k s0 s1 s2 s3 s4 s5 s6 s7 s8 s9 s10 s11) (hk : k < 512) (a1 : Int32) (a2 : Int32) (a3 : Int32) (a4 : Int32) (a5 : Int32) : ∃ (rc : Int32 × OS × OS × OS) (rr : Int32 × OS), f10_back a1 a2 a3 a4 a5 s1 s2 s4 s10 = some rc ∧ f11_back a1 a2 a3 a4 a5 s11 = some rr ∧ rc.1 = rr.1 ∧ Rel (k + 1) s0 rc.2.1 rc.2.2.1 s3 rc.2.2.2 s5 s6 s7 s8 s9 s10 rr.2 := by
  obtain ⟨n, ⟨hg, ht, htr, hgr⟩, hP, hD, ⟨a, c, q1, q2, q3, q4, q5, q6, q7, q8, q9, q10, q11, q12, q13, q14, q15, q16⟩, hS⟩ := id h
  obtain ⟨p1, p2, p3, p4, p5, p6, p7, p8, p9, p10, p11, p12, p13⟩ := id hP
  obtain ⟨d, d1, d2, d3, d4⟩ := hD.add hk p1
  unfold f10_back f10_back_j27 f10_back_j72 f11_back f11_back_j42 f11_back_j88
  rw [c_isOut q2 q5, c_isBits, r_isBits, c_isCabinet, r_isCabinet, r_lies0 (by omega) q6, q13]
  simp only [Option.bind_some, if_b1]
  by_cases h1 : 0 ≤ a1.toInt ∧ a1.toInt < c
  · rw [if_pos h1, inb_i (N := 100) (by omega), chk_p, nm_p]
    obtain ⟨i, hi, rfl⟩ := nI_of_in h1 (by omega)
    have hcl := nI_clamp (n := i) (by omega)
    rw [hcl]
    by_cases h2 : s11.1 63 i = -1
    · rw [if_pos h2, if_pos ⟨h1, h2⟩]
      by_cases h3 : 0 ≤ a4.toInt ∧ a4.toInt ≤ 65535
      · simp only [if_pos h3]
        by_cases h4 : 0 ≤ a5.toInt ∧ a5.toInt ≤ 9
        · simp only [if_pos h4]
          obtain ⟨⟨p, hp, ep⟩, ⟨q, hq, eq⟩, hm0⟩ := q15 i hi
          have hm0 := hm0 h2
          have hpc := nI_clamp (n := p) (by omega)
          have hqc := nI_clamp (n := q) (by omega)
          obtain ⟨g1, g2, g3, g4, g5⟩ := p12 p hp
          obtain ⟨kk, -, hkk, ek⟩ := bw_nat (lo := 0) (hi := 7) g1 (by omega)
          obtain ⟨w, -, hw, ew⟩ := bw_nat (lo := 0) (hi := 1000000000) g2 (by omega)
          have hkc := nI_clamp (n := kk) (by omega)
          have ewt := nI_toInt (n := w) (by omega)
          have epo : f2_pieceOf (nI i) s2 = some (nI p) := by
            unfold f2_pieceOf f2_pieceOf_j18
            rw [c_hasLoan q2 q5, b1_t h1, Option.bind_some, if_neg (by decide), inb_n (by omega : i < 100) (by omega), chk_p, nm_p, hcl, q9, ep]
          rw [epo, Option.bind_some, c_weightOfP p1 p2 hp, Option.bind_some]
          simp only [c_isWithin, r_lies, Option.bind_some, if_b1, Int32.toInt_toInt64, hcl, ep, hpc, inb_n (show i < 100 by omega) (by omega : 100 < 2 ^ 31), inb_n (show p < 150 by omega) (by omega : 150 < 2 ^ 31), chk_p, nm_p, p6, ew, ewt]
          have e0 : (0 : Int32).toInt = 0 := rfl
          by_cases h5 : (0 : Int32).toInt ≤ a2.toInt ∧ a2.toInt ≤ w
          · rw [if_pos h5, if_pos (show (0 : Int64).toInt ≤ a2.toInt ∧ a2.toInt ≤ w from h5)]
            obtain ⟨x, hx, rfl⟩ := nI_of_in (x := a2) (n := w + 1) (by omega) (by omega)
            rw [pk_sub (show x ≤ w by omega)]
            have ewx := nI_toInt (n := w - x) (by omega)
            rw [ewx]
            by_cases h6 : (0 : Int32).toInt ≤ a3.toInt ∧ a3.toInt ≤ ((w - x : Nat) : Int)
            · rw [if_pos h6, if_pos (show (0 : Int64).toInt ≤ a3.toInt ∧ a3.toInt ≤ ((w - x : Nat) : Int) from h6)]
              obtain ⟨y, hy, rfl⟩ := nI_of_in (x := a3) (n := w - x + 1) (by omega) (by omega)
              rw [pk_sub (show y ≤ w - x by omega)]
              obtain ⟨z, hz⟩ : ∃ z : Int32, z = nI (w - x - y) := ⟨_, rfl⟩
              rw [← hz]
              have ec2 : f4_charge 2 (nI p) (nI y).toInt64 s4 = some (wL s4 9 (16 + kk) (s4.2 9 (16 + kk) + (nI y).toInt64)) := c_charge (acc := 2) p1 p2 hp (by omega) (by omega) (by rw [p4]; exact ek) _
              obtain ⟨t1, ht1⟩ : ∃ t1 : OS, t1 = wL s4 9 (16 + kk) (s4.2 9 (16 + kk) + (nI y).toInt64) := ⟨_, rfl⟩
              have t10 : t1.1 = s4.1 := by subst ht1; rfl
              have ec3 : f4_charge 3 (nI p) z.toInt64 t1 = some (wL t1 9 (24 + kk) (t1.2 9 (24 + kk) + z.toInt64)) := c_charge (acc := 3) p1 (by rw [t10]; exact p2) hp (by omega) (by omega) (by rw [t10, p4]; exact ek) _
              obtain ⟨t2, ht2⟩ : ∃ t2 : OS, t2 = wL t1 9 (24 + kk) (t1.2 9 (24 + kk) + z.toInt64) := ⟨_, rfl⟩
              have t20 : t2.1 = s4.1 := by subst ht2; exact t10
              rw [ec2, Option.bind_some, ← ht1, ec3, Option.bind_some, ← ht2]
              -- the account's new rows
              have hP2 : RelP n t2 (s11.1 0 3) (s11.1 12) (s11.1 13) (s11.1 14) (s11.1 15) (s11.1 16) (s11.1 17) (s11.1 18) (s11.1 19) (s11.2 21) (s11.2 22) (fun j => if j = kk then s11.2 23 kk + (nI y).toInt64 else s11.2 23 j) (fun j => if j = kk then s11.2 24 kk + z.toInt64 else s11.2 24 j) := by
                refine ⟨p1, by rw [t20]; exact p2, p3, by rw [t20]; exact p4, by rw [t20]; exact p5, by rw [t20]; exact p6, by rw [t20]; exact p7, by rw [t20]; exact p8, by rw [t20]; exact p9, by rw [t20]; exact p10, by rw [t20]; exact p11, p12, fun j hj => ?_⟩
                obtain ⟨c1, c2, c3, c4⟩ := p13 j hj
                have c1' := p13 kk (by omega)
                have cc : ∀ i, t2.2 9 i = if i = 24 + kk then t1.2 9 (24 + kk) + z.toInt64 else t1.2 9 i := by subst ht2; exact fun _ => rfl
                have cd : ∀ i, t1.2 9 i = if i = 16 + kk then s4.2 9 (16 + kk) + (nI y).toInt64 else s4.2 9 i := by subst ht1; exact fun _ => rfl
                rw [cc, cc, cc, cc, cd, cd, cd, cd, cd, if_neg (show ¬ j = 24 + kk by omega), if_neg (show ¬ j = 16 + kk by omega), if_neg (show ¬ 8 + j = 24 + kk by omega), if_neg (show ¬ 8 + j = 16 + kk by omega), if_neg (show ¬ 16 + j = 24 + kk by omega), if_neg (show ¬ 24 + j = 16 + kk by omega), if_neg (show ¬ 24 + kk = 16 + kk by omega)]
                refine ⟨c1, c2, ?_, ?_⟩
                · by_cases e : j = kk
                  · subst e; simp [c3]
                  · simp [e, c3]
                · by_cases e : j = kk
                  · subst e; simp [c4]
                  · simp [e, c4]
              -- the loan's end
              have ee : f2_end (nI i) (s10.1 0 9) z s2 = some (wI (wI s2 8 i (s10.1 0 9)) 9 i z) := by
                unfold f2_end f2_end_j22
                rw [c_hasLoan q2 q5, b1_t h1, Option.bind_some, if_neg (by decide), inb_n (by omega : i < 100) (by omega)]
                simp only [chk_p, nm_p, hcl]
              have hL2 : RelL n (wI (wI s2 8 i (s10.1 0 9)) 9 i z) (s11.1 0 4) (s11.1 0 5) (s11.1 31) (s11.1 32) (fun j => if j = q then s11.2 33 q + z.toInt64 else s11.2 33 j) (s11.1 59) (s11.1 60) (s11.1 61) (s11.1 62) (fupd (s11.1 63) i (s11.1 0 2)) (fupd (s11.1 64) i z) := by
                refine ⟨a, c, q1, q2, q3, q4, q5, q6, q7, q8, q9, q10, q11, q12, ?_, ?_, fun j hj => ?_, fun j hj => ?_⟩
                · show fupd (s2.1 8) i (s10.1 0 9) = _
                  rw [q13, ht]
                · show fupd (s2.1 9) i z = _
                  rw [q14]
                · obtain ⟨z1, z2, z3⟩ := q15 j hj
                  refine ⟨z1, z2, ?_⟩
                  by_cases e : j = i
                  · subst e; rw [fupd_s]
                    intro e9
                    unfold bw at htr
                    rw [ht, e9] at htr
                    exact absurd htr.1 (by decide)
                  · rw [fupd_n e, fupd_n e]; exact z3
                · show (if j = q then s11.2 33 q + z.toInt64 else s11.2 33 j) = _
                  rw [misS_upd hm0 c hi, eq]
                  by_cases e : j = q
                  · subst e; rw [if_pos rfl, if_pos rfl, q16 j hj]
                  · rw [if_neg e, if_neg (fun e9 => e ((nI_eq (a := q) (b := j) (by omega) (by omega)).mp e9).symm), q16 j hj, Int64.add_zero]
              unfold f10_back_j127 f11_back_j142
              have m1 : ∀ u, (wI s11 14 p u).1 15 p = s11.1 15 p := fun _ => rfl
              simp only [m1]
              have t2p : t2.1 0 10 = nI n := by rw [t20]; exact p2
              have hx0 : (nI x = (0 : Int32)) ↔ x = 0 := nI_eq (a := x) (b := 0) (by omega) (by omega)
              have hwx : bw 0 1000000000 (nI x) := by unfold bw; rw [nI_toInt (by omega)]; omega
              by_cases h7 : x = 0
              · rw [if_pos (hx0.mpr h7), if_pos (hx0.mpr h7), c_change p1 t2p hp d1 d2, Option.bind_some, ee, Option.bind_some]
                unfold f11_isDone
                simp only [hpc, inb_n (show p < 150 by omega) (by omega : 150 < 2 ^ 31), chk_p, nm_p, Option.bind_some]
                obtain ⟨mB, hmB⟩ : ∃ mB : OS, mB = wI (wI (wI (wI (wI s11 14 p (nI x)) 15 p (s11.1 15 p ||| a4)) 16 p a5) 14 p 0) 16 p 12 := ⟨_, rfl⟩
                rw [← hmB, rn_of (m := mB) (s11 := s11) (by omega) d3 (by omega) (by subst hmB; rfl), Option.bind_some]
                have n1 : (nW mB d p).1 12 p = nI kk := by subst hmB; exact ek
                have n2 : ∀ u v, (wL (nW mB d p) 23 u v).1 12 p = nI kk := by subst hmB; exact fun _ _ => ek
                have n3 : ∀ u v u' v', (wL (wL (nW mB d p) 23 u v) 24 u' v').1 60 i = nI q := by subst hmB; exact fun _ _ _ _ => eq
                simp only [hcl, hpc, nm_p, inb_n (show i < 100 by omega) (by omega : 100 < 2 ^ 31), inb_n (show p < 150 by omega) (by omega : 150 < 2 ^ 31), n1, n2, n3, hkc, hqc, inb_n (show kk < 8 by omega) (by omega : 8 < 2 ^ 31), inb_n (show q < 20 by omega) (by omega : 20 < 2 ^ 31), chk_p]
                subst hmB
                refine ⟨_, _, rfl, rfl, rfl, n, ⟨hg, ht, htr, hgr⟩, hP2.upd hp (w := nI x) (q := a4) (pl := 12) hwx h3 ⟨by decide, by decide⟩ ?_ rfl ?_, d4 _ _ _ _ _ _ _ _ _ _ rfl ht ?_ ?_ ?_, hL2, hS⟩
                · show fupd (fupd (s11.1 14) p (nI x)) p 0 = _
                  rw [fupd_2, h7]; rfl
                · show fupd (fupd (s11.1 16) p a5) p 12 = _
                  rw [fupd_2]
                · rw [h7]; exact (wI_at (r := 14) (i := p) (v := 0)).symm
                · rw [t20, p7]; exact (wI_at (r := 15) (i := p) (v := s11.1 15 p ||| a4)).symm
                · exact (wI_at (r := 16) (i := p) (v := 12)).symm
              · rw [if_neg (fun e => h7 (hx0.mp e)), if_neg (fun e => h7 (hx0.mp e)), c_change p1 t2p hp d1 d2, Option.bind_some, ee, Option.bind_some]
                obtain ⟨mB, hmB⟩ : ∃ mB : OS, mB = wI (wI (wI s11 14 p (nI x)) 15 p (s11.1 15 p ||| a4)) 16 p a5 := ⟨_, rfl⟩
                rw [← hmB, rn_of (m := mB) (s11 := s11) (by omega) d3 (by omega) (by subst hmB; rfl), Option.bind_some]
                have n1 : (nW mB d p).1 12 p = nI kk := by subst hmB; exact ek
                have n2 : ∀ u v, (wL (nW mB d p) 23 u v).1 12 p = nI kk := by subst hmB; exact fun _ _ => ek
                have n3 : ∀ u v u' v', (wL (wL (nW mB d p) 23 u v) 24 u' v').1 60 i = nI q := by subst hmB; exact fun _ _ _ _ => eq
                simp only [hcl, hpc, nm_p, inb_n (show i < 100 by omega) (by omega : 100 < 2 ^ 31), inb_n (show p < 150 by omega) (by omega : 150 < 2 ^ 31), n1, n2, n3, hkc, hqc, inb_n (show kk < 8 by omega) (by omega : 8 < 2 ^ 31), inb_n (show q < 20 by omega) (by omega : 20 < 2 ^ 31), chk_p]
                subst hmB
                refine ⟨_, _, rfl, rfl, rfl, n, ⟨hg, ht, htr, hgr⟩, hP2.upd hp (w := nI x) (q := a4) (pl := a5) hwx h3 ⟨h4.1, by omega⟩ rfl rfl rfl, d4 _ _ _ _ _ _ _ _ _ _ rfl ht ?_ ?_ ?_, hL2, hS⟩
                · exact (wI_at (r := 14) (i := p) (v := nI x)).symm
                · rw [t20, p7]; exact (wI_at (r := 15) (i := p) (v := s11.1 15 p ||| a4)).symm
                · exact (wI_at (r := 16) (i := p) (v := a5)).symm
            · rw [if_neg h6, if_neg (show ¬ ((0 : Int64).toInt ≤ a3.toInt ∧ a3.toInt ≤ ((w - x : Nat) : Int)) from h6)]
              exact ⟨_, _, rfl, rfl, rfl, h.same⟩
          · rw [if_neg h5, if_neg (show ¬ ((0 : Int64).toInt ≤ a2.toInt ∧ a2.toInt ≤ w) from h5)]
            exact ⟨_, _, rfl, rfl, rfl, h.same⟩
        · simp only [if_neg h4]
          exact ⟨_, _, rfl, rfl, rfl, h.same⟩
      · simp only [if_neg h3]
        exact ⟨_, _, rfl, rfl, rfl, h.same⟩
    · rw [if_neg h2, if_neg (fun e => h2 e.2)]
      exact ⟨_, _, rfl, rfl, rfl, h.same⟩
  · rw [if_neg h1, if_neg (fun e => h1 e.1)]
    exact ⟨_, _, rfl, rfl, rfl, h.same⟩
