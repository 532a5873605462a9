-- steps: way, weigh, give, sight
theorem c_hasRoom7 {s7 : OS} {w : Nat} (hw : w ≤ 200) (h : s7.1 0 4 = nI w) : f7_hasRoom s7 = some (b1 (w < 200)) := by
  unfold f7_hasRoom f7_hasRoom_j15
  rw [h]
  by_cases h1 : w < 200
  · rw [if_neg (show ¬ (200 : Int32) ≤ nI w from nI_ge (a := w) (b := 200) h1 (by omega)), b1_t h1]; rfl
  · rw [if_pos (show (200 : Int32) ≤ nI w from nI_le (a := 200) (b := w) (by omega) (by omega)), b1_f h1]; rfl
theorem st_weigh {k : Nat} {s0 s1 s2 s3 s4 s5 s6 s7 s8 s9 s10 s11 : OS} (h : Rel k s0 s1 s2 s3 s4 s5 s6 s7 s8 s9 s10 s11) (hk : k < 512) (a1 : Int32) (a2 : Int32) (a3 : Int32) (a4 : Int32) : ∃ (rc : Int32 × OS) (rr : Int32 × OS), f10_weigh a1 a2 a3 a4 s4 s7 s10 = some rc ∧ f11_weigh a1 a2 a3 a4 s11 = some rr ∧ rc.1 = rr.1 ∧ Rel (k + 1) s0 s1 s2 s3 s4 s5 s6 rc.2 s8 s9 s10 rr.2 := by
  obtain ⟨n, ⟨hg, ht, htr, hgr⟩, hP, hD, hL, ⟨w, w1, w2, w3, w4, w5, w6⟩, hT⟩ := id h
  obtain ⟨p1, p2, p3, p4, p5, p6, p7, p8, p9, p10, p11, p12, p13⟩ := id hP
  have e200 : (nI w = (200 : Int32)) ↔ w = 200 := nI_eq (a := w) (b := 200) (by omega) (by omega)
  unfold f10_weigh f10_weigh_j32 f10_weigh_j55 f11_weigh f11_weigh_j55
  rw [c_isWithin, Option.bind_some, if_b1, c_isWithin, Option.bind_some, if_b1, c_isWithin, Option.bind_some, if_b1, c_lies p1 p2, Option.bind_some, if_b1, c_hasRoom7 w1 w2, Option.bind_some, if_b1, r_isThere p1 p3, Option.bind_some, if_b1, r_lies, Option.bind_some, if_b1, r_lies, Option.bind_some, if_b1, r_lies, Option.bind_some, if_b1, Int32.toInt_toInt64, Int32.toInt_toInt64, Int32.toInt_toInt64, p8]
  by_cases h1 : (0 : Int32).toInt ≤ a2.toInt ∧ a2.toInt ≤ (3 : Int32).toInt
  · rw [if_pos h1, if_pos (show (0 : Int64).toInt ≤ a2.toInt ∧ a2.toInt ≤ (3 : Int64).toInt from h1)]
    by_cases h2 : (0 : Int32).toInt ≤ a3.toInt ∧ a3.toInt ≤ (1000001000 : Int32).toInt
    · rw [if_pos h2, if_pos (show (0 : Int64).toInt ≤ a3.toInt ∧ a3.toInt ≤ (1000001000 : Int64).toInt from h2)]
      by_cases h3 : (0 : Int32).toInt ≤ a4.toInt ∧ a4.toInt ≤ (1000 : Int32).toInt
      · rw [if_pos h3, if_pos (show (0 : Int64).toInt ≤ a4.toInt ∧ a4.toInt ≤ (1000 : Int64).toInt from h3)]
        by_cases h4 : (0 ≤ a1.toInt ∧ a1.toInt < n) ∧ (s11.1 16 a1.toNatClampNeg).toInt < 10
        · rw [if_pos h4, if_pos h4, w3]
          by_cases h5 : w < 200
          · rw [if_pos h5, if_neg (fun e => by have := e200.mp e; omega)]
            obtain ⟨p, hp, rfl⟩ := nI_of_in h4.1 (by omega)
            have hcl := nI_clamp (n := p) (by omega)
            have hcw := nI_clamp (n := w) (by omega)
            rw [c_weightOfP p1 p2 hp, Option.bind_some]
            unfold f7_add f7_add_j17
            simp only [w2, nm_d]
            rw [if_neg (nI_pos (n := w) (by omega)), if_pos (show nI w < (200 : Int32) from nI_lt (a := w) (b := 200) h5 (by omega))]
            have c1 : ∀ x, (wI s7 1 w x).1 0 4 = nI w := fun _ => w2
            have c2 : ∀ x y, (wI (wI s7 1 w x) 2 w y).1 0 4 = nI w := fun _ _ => w2
            have c3 : ∀ x y z, (wI (wI (wI s7 1 w x) 2 w y) 3 w z).1 0 4 = nI w := fun _ _ _ => w2
            have c4 : ∀ x y z u, (wI (wI (wI (wI s7 1 w x) 2 w y) 3 w z) 4 w u).1 0 4 = nI w := fun _ _ _ _ => w2
            have m1 : ∀ x, (wI s11 65 w x).1 0 7 = nI w := fun _ => w3
            have m2 : ∀ x y, (wI (wI s11 65 w x) 66 w y).1 0 7 = nI w := fun _ _ => w3
            have m3 : ∀ x y z, (wI (wI (wI s11 65 w x) 66 w y) 67 w z).1 0 7 = nI w := fun _ _ _ => w3
            have m4 : ∀ x y z u, (wI (wI (wI (wI s11 65 w x) 66 w y) 67 w z) 68 w u).1 0 7 = nI w := fun _ _ _ _ => w3
            simp only [c1, c2, c3, c4, m1, m2, m3, m4, hcl, hcw, inb_n h5 (by omega : 200 < 2 ^ 31), inb_n (show p < 150 by omega) (by omega : 150 < 2 ^ 31), chk_t, Option.bind_some, w3]
            refine ⟨_, _, rfl, rfl, rfl, n, ⟨hg, ht, htr, hgr⟩, hP, hD.up (Nat.le_refl _), hL, ⟨w + 1, by omega, ?_, ?_, ?_, ?_, fun i => ?_⟩, hT⟩
            · show nI w + 1 = nI (w + 1)
              exact nI_1 w
            · show nI w + 1 = nI (w + 1)
              exact nI_1 w
            · show fupd (s7.1 1) w a2 = fupd (s11.1 65) w a2
              rw [w4]
            · show fupd (s7.1 2) w (s10.1 0 9) = fupd (s11.1 66) w (s11.1 0 2)
              rw [w5, ht]
            · show fupd (s7.1 3) w (a3 - s4.1 3 p - a4) i = fupd (s11.1 67) w (a3 - s11.1 14 p) i - fupd (s11.1 68) w a4 i ∧ fupd (s7.1 4) w (a3 - s4.1 3 p + a4) i = fupd (s11.1 67) w (a3 - s11.1 14 p) i + fupd (s11.1 68) w a4 i
              by_cases e : i = w
              · subst e; simp only [fupd_s]; rw [p6]; exact ⟨rfl, rfl⟩
              · simp only [fupd_n e]; exact w6 i
          · rw [if_neg h5, if_pos (e200.mpr (by omega))]
            exact ⟨_, _, rfl, rfl, rfl, h.same⟩
        · rw [if_neg h4, if_neg h4]
          simp only [ite_self]
          exact ⟨_, _, rfl, rfl, rfl, h.same⟩
      · rw [if_neg h3, if_neg (show ¬ ((0 : Int64).toInt ≤ a4.toInt ∧ a4.toInt ≤ (1000 : Int64).toInt) from h3)]
        simp only [ite_self]
        exact ⟨_, _, rfl, rfl, rfl, h.same⟩
    · rw [if_neg h2, if_neg (show ¬ ((0 : Int64).toInt ≤ a3.toInt ∧ a3.toInt ≤ (1000001000 : Int64).toInt) from h2)]
      simp only [ite_self]
      exact ⟨_, _, rfl, rfl, rfl, h.same⟩
  · rw [if_neg h1, if_neg (show ¬ ((0 : Int64).toInt ≤ a2.toInt ∧ a2.toInt ≤ (3 : Int64).toInt) from h1)]
    simp only [ite_self]
    exact ⟨_, _, rfl, rfl, rfl, h.same⟩
theorem st_way {k : Nat} {s0 s1 s2 s3 s4 s5 s6 s7 s8 s9 s10 s11 : OS} (h : Rel k s0 s1 s2 s3 s4 s5 s6 s7 s8 s9 s10 s11) (hk : k < 512) (a1 : Int32) (a2 : Int32) (a3 : Int32) : ∃ (rc : Int32 × OS) (rr : Int32 × OS), f10_way a1 a2 a3 s9 = some rc ∧ f11_way a1 a2 a3 s11 = some rr ∧ rc.1 = rr.1 ∧ Rel (k + 1) s0 s1 s2 s3 s4 s5 s6 s7 s8 rc.2 s10 rr.2 := by
  obtain ⟨n, hV, hP, hD, hL, hS, hT, ⟨g, t, q1, q2, q3, q4, q5, q6, q7, q8, q9, q10⟩, hA⟩ := id h
  unfold f10_way f10_way_j30 f11_way f11_way_j31 f9_connect f9_connect_j38
  rw [c_isPlace, c_isPlace, r_isPlace, r_isPlace]
  simp only [Option.bind_some, if_b1, c_isWithin, r_lies, Int32.toInt_toInt64]
  by_cases h1 : 0 ≤ a1.toInt ∧ a1.toInt ≤ 15
  · simp only [if_pos h1]
    by_cases h2 : 0 ≤ a2.toInt ∧ a2.toInt ≤ 15
    · simp only [if_pos h2]
      by_cases h3 : a1 = a2
      · rw [if_pos h3, if_pos h3]
        exact ⟨_, _, rfl, rfl, rfl, h.same⟩
      · rw [if_neg h3, if_neg h3]
        by_cases h4 : (1 : Int32).toInt ≤ a3.toInt ∧ a3.toInt ≤ (1000 : Int32).toInt
        · rw [if_pos h4, if_pos (show (1 : Int64).toInt ≤ a3.toInt ∧ a3.toInt ≤ (1000 : Int64).toInt from h4)]
          obtain ⟨x, hx, rfl⟩ := nI_of_in (x := a1) (n := 16) (by omega) (by omega)
          obtain ⟨y, hy, rfl⟩ := nI_of_in (x := a2) (n := 16) (by omega) (by omega)
          have e1 : nI x * 16 + nI y = nI (x * 16 + y) := by rw [show (16 : Int32) = nI 16 from rfl, pk_mul, nI_add]
          have e2 : nI y * 16 + nI x = nI (y * 16 + x) := by rw [show (16 : Int32) = nI 16 from rfl, pk_mul, nI_add]
          have e3 : 16 * nI x + nI y = nI (x * 16 + y) := by rw [show (16 : Int32) = nI 16 from rfl, pk_mul, nI_add, Nat.mul_comm]
          have e4 : 16 * nI y + nI x = nI (y * 16 + x) := by rw [show (16 : Int32) = nI 16 from rfl, pk_mul, nI_add, Nat.mul_comm]
          simp only [e1, e2, e3, e4, inb_n (show x * 16 + y < 256 by omega) (by omega : 256 < 2 ^ 31), inb_n (show y * 16 + x < 256 by omega) (by omega : 256 < 2 ^ 31), chk_t, nm_d, Option.bind_some, nI_clamp (show x * 16 + y < 2 ^ 31 by omega), nI_clamp (show y * 16 + x < 2 ^ 31 by omega)]
          have hne : x ≠ y := fun e => h3 (by rw [e])
          refine ⟨_, _, rfl, rfl, rfl, n, hV, hP, hD.up (Nat.le_refl _), hL, hS, hT, ⟨g, t, q1, q2, q3, q4, q5, q6, q7, fun i hi => ?_, fun i j hi hj => ?_, q10⟩, hA⟩
          · show (fupd (fupd (s9.1 1) (x * 16 + y) a3) (y * 16 + x) a3 i = 0 ∧ fupd (fupd (s11.1 78) (x * 16 + y) a3) (y * 16 + x) a3 i = 1000000) ∨ (bw 1 1000 (fupd (fupd (s9.1 1) (x * 16 + y) a3) (y * 16 + x) a3 i) ∧ fupd (fupd (s11.1 78) (x * 16 + y) a3) (y * 16 + x) a3 i = fupd (fupd (s9.1 1) (x * 16 + y) a3) (y * 16 + x) a3 i)
            by_cases g1 : i = y * 16 + x
            · subst g1; simp only [fupd_s]; exact Or.inr ⟨h4, trivial⟩
            · simp only [fupd_n g1]
              by_cases g2 : i = x * 16 + y
              · subst g2; simp only [fupd_s]; exact Or.inr ⟨h4, trivial⟩
              · simp only [fupd_n g2]; exact q8 i hi
          · show fupd (fupd (s9.1 1) (x * 16 + y) a3) (y * 16 + x) a3 (i * 16 + j) = fupd (fupd (s9.1 1) (x * 16 + y) a3) (y * 16 + x) a3 (j * 16 + i)
            by_cases g1 : i = y ∧ j = x
            · obtain ⟨rfl, rfl⟩ := g1
              rw [fupd_s, fupd_n (by omega), fupd_s]
            · by_cases g2 : i = x ∧ j = y
              · obtain ⟨rfl, rfl⟩ := g2
                rw [fupd_n (by omega), fupd_s, fupd_s]
              · rw [fupd_n (by omega), fupd_n (by omega), fupd_n (by omega), fupd_n (by omega)]
                exact q9 i j hi hj
        · rw [if_neg h4, if_neg (show ¬ ((1 : Int64).toInt ≤ a3.toInt ∧ a3.toInt ≤ (1000 : Int64).toInt) from h4)]
          exact ⟨_, _, rfl, rfl, rfl, h.same⟩
    · simp only [if_neg h2]
      exact ⟨_, _, rfl, rfl, rfl, h.same⟩
  · simp only [if_neg h1]
    exact ⟨_, _, rfl, rfl, rfl, h.same⟩
