-- steps: the day, the gases, askers, losses, asks, what is told
theorem if_b1 {α : Sort _} {p : Prop} [Decidable p] (x y : α) : (if b1 p = 0 then x else y) = if p then y else x := by
  by_cases h : p
  · rw [b1_t h, if_neg (by decide), if_pos h]
  · rw [b1_f h, if_pos rfl, if_neg h]
theorem inb_n {p N : Nat} (h : p < N) (hN : N < 2 ^ 31) : inb (nI p) N = true := by
  unfold inb; rw [nI_toInt (by omega)]; simp; omega
theorem inb_i {x : Int32} {N : Nat} (h : 0 ≤ x.toInt ∧ x.toInt < N) : inb x N = true := by
  unfold inb; simp; exact h
theorem nI_of_in {x : Int32} {n : Nat} (h : 0 ≤ x.toInt ∧ x.toInt < n) (hn : n < 2 ^ 31) : ∃ p : Nat, p < n ∧ x = nI p := vp_in_of (vp_in_iff.mpr h) hn
theorem sub_toInt {a : Int32} {c : Int32} (h1 : -2147483648 ≤ a.toInt - c.toInt) (h2 : a.toInt - c.toInt < 2147483648) : (a - c).toInt = a.toInt - c.toInt := by
  rw [Int32.toInt_sub]
  exact Int.bmod_eq_of_le (by omega) (by omega)
theorem add_toInt {a : Int32} {c : Int32} (h1 : -2147483648 ≤ a.toInt + c.toInt) (h2 : a.toInt + c.toInt < 2147483648) : (a + c).toInt = a.toInt + c.toInt := by
  rw [Int32.toInt_add]
  exact Int.bmod_eq_of_le (by omega) (by omega)
theorem nI_pred_toInt {n : Nat} (h : n < 2 ^ 30) : (nI n - 1).toInt = (n : Int) - 1 := pk_sub_toInt (a := n) (b := 1) (by omega) (by omega)
theorem add_sub1 (x : Int32) : x + 1 - 1 = x := by
  rw [Int32.add_sub_cancel]
theorem c_has {a : Int32} {s4 : OS} {n : Nat} (hn : n ≤ 150) (h : s4.1 0 10 = nI n) : f4_has a s4 = some (b1 (0 ≤ a.toInt ∧ a.toInt < n)) := by
  unfold f4_has f4_has_j23 f4_has_j24
  rw [h]
  have e0 : (0 : Int32).toInt = 0 := rfl
  have en := nI_toInt (n := n) (by omega)
  have e150 : (150 : Int32).toInt = 150 := rfl
  simp only [Int32.lt_iff_toInt_lt, Int32.le_iff_toInt_le, e0, en, e150]
  by_cases h1 : a.toInt < 0
  · rw [if_pos h1, b1_f (by omega)]; rfl
  · rw [if_neg h1]
    by_cases h2 : (n : Int) ≤ a.toInt
    · rw [if_pos h2, b1_f (by omega)]; rfl
    · rw [if_neg h2, if_neg (by omega), b1_t (by omega)]; rfl
theorem r_isPiece {a : Int32} {m : OS} {n : Nat} (hn : n ≤ 150) (h : m.1 0 3 = nI n) : f11_isPiece a m = some (b1 (0 ≤ a.toInt ∧ a.toInt < n)) := by
  unfold f11_isPiece
  rw [r_lies, h, Option.bind_some, Int32.toInt_toInt64, Int32.toInt_toInt64, nI_pred_toInt (by omega), b1_B]
  show some _ = some _
  congr 1
  exact b1_c (by have : (0 : Int64).toInt = 0 := rfl; omega)
theorem st_now {k : Nat} {s0 s1 s2 s3 s4 s5 s6 s7 s8 s9 s10 s11 : OS} (h : Rel k s0 s1 s2 s3 s4 s5 s6 s7 s8 s9 s10 s11) (hk : k < 512) (a1 : Int32) : ∃ (rc : Int32 × OS) (rr : Int32 × OS), f10_now a1 s10 = some rc ∧ f11_now a1 s11 = some rr ∧ rc.1 = rr.1 ∧ Rel (k + 1) s0 s1 s2 s3 s4 s5 s6 s7 s8 s9 rc.2 rr.2 := by
  obtain ⟨n, ⟨hg, ht, htr, hgr⟩, hP, hD, hL⟩ := id h
  have eM : f11_now a1 s11 = if (s11.1 0 2).toInt ≤ a1.toInt ∧ a1.toInt ≤ 99999 then some (1, wI s11 0 2 a1) else some (0, s11) := by
    unfold f11_now
    rw [r_lies, Option.bind_some, if_b1, Int32.toInt_toInt64, Int32.toInt_toInt64]
    rfl
  have eC : f10_now a1 s10 = if (s11.1 0 2).toInt ≤ a1.toInt ∧ a1.toInt ≤ 99999 then some (1, wI s10 0 9 a1) else some (0, s10) := by
    unfold f10_now f10_now_j15
    rw [c_isDay, Option.bind_some, if_b1, ht]
    unfold bw at htr
    rw [ht] at htr
    simp only [Int32.le_iff_toInt_le]
    by_cases h1 : (s11.1 0 2).toInt ≤ a1.toInt ∧ a1.toInt ≤ 99999
    · rw [if_pos h1, if_pos (by omega), if_pos h1.1]; rfl
    · rw [if_neg h1]
      by_cases h2 : 0 ≤ a1.toInt ∧ a1.toInt ≤ 99999
      · rw [if_pos h2, if_neg (by omega)]
      · rw [if_neg h2]
  rw [eC, eM]
  by_cases h1 : (s11.1 0 2).toInt ≤ a1.toInt ∧ a1.toInt ≤ 99999
  · rw [if_pos h1, if_pos h1]
    refine ⟨_, _, rfl, rfl, rfl, n, ⟨hg, rfl, ⟨?_, h1.2⟩, hgr⟩, hP, hD.up (Nat.le_refl _), hL⟩
    have := htr.1
    rw [ht] at this
    show 0 ≤ a1.toInt
    omega
  · rw [if_neg h1, if_neg h1]
    exact ⟨_, _, rfl, rfl, rfl, h.same⟩
theorem st_gas {k : Nat} {s0 s1 s2 s3 s4 s5 s6 s7 s8 s9 s10 s11 : OS} (h : Rel k s0 s1 s2 s3 s4 s5 s6 s7 s8 s9 s10 s11) (hk : k < 512) (a1 : Int32) (a2 : Int32) : ∃ (rc : Int32 × OS) (rr : Int32 × OS), f10_gas a1 a2 s10 = some rc ∧ f11_gas a1 a2 s11 = some rr ∧ rc.1 = rr.1 ∧ Rel (k + 1) s0 s1 s2 s3 s4 s5 s6 s7 s8 s9 rc.2 rr.2 := by
  obtain ⟨n, ⟨hg, ht, htr, hgr⟩, hP, hD, hL⟩ := id h
  unfold f10_gas f10_gas_j14 f11_gas f11_gas_j14
  rw [c_isCabinet, r_isCabinet, Option.bind_some, Option.bind_some, if_b1, if_b1, c_isBits, r_isBits, Option.bind_some, Option.bind_some, if_b1, if_b1]
  by_cases h1 : 0 ≤ a1.toInt ∧ a1.toInt ≤ 9
  · rw [if_pos h1, if_pos h1]
    by_cases h2 : 0 ≤ a2.toInt ∧ a2.toInt ≤ 65535
    · rw [if_pos h2, if_pos h2, inb_i (N := 10) (by omega)]
      refine ⟨_, _, rfl, rfl, rfl, n, ⟨?_, ht, htr, ?_⟩, hP, hD.up (Nat.le_refl _), hL⟩
      · show (fun i' => if i' = _ then a2 else s10.1 1 i') = (fun i' => if i' = _ then a2 else s11.1 20 i')
        rw [hg]
      · intro i
        show bw 0 65535 (if i = _ then a2 else s10.1 1 i)
        by_cases hi : i = a1.toNatClampNeg
        · rw [if_pos hi]; exact h2
        · rw [if_neg hi]; exact hgr i
    · rw [if_neg h2, if_neg h2]
      exact ⟨_, _, rfl, rfl, rfl, h.same⟩
  · rw [if_neg h1, if_neg h1]
    exact ⟨_, _, rfl, rfl, rfl, h.same⟩
theorem st_loss {k : Nat} {s0 s1 s2 s3 s4 s5 s6 s7 s8 s9 s10 s11 : OS} (h : Rel k s0 s1 s2 s3 s4 s5 s6 s7 s8 s9 s10 s11) (hk : k < 512) (a1 : Int32) : ∃ (rc : Int32 × OS) (rr : Int32 × OS), f10_loss a1 s0 = some rc ∧ f11_loss a1 s11 = some rr ∧ rc.1 = rr.1 ∧ Rel (k + 1) rc.2 s1 s2 s3 s4 s5 s6 s7 s8 s9 s10 rr.2 := by
  obtain ⟨n, hV, hP, hD, hL, hS, hT, hW, ⟨a, g1, g2, g3, g4, g5, g6⟩, hM⟩ := id h
  unfold f10_loss f11_loss
  rw [c_isWithin, r_lies, Option.bind_some, Option.bind_some, if_b1, if_b1, Int32.toInt_toInt64]
  by_cases h1 : (0 : Int32).toInt ≤ a1.toInt ∧ a1.toInt ≤ (1000000 : Int32).toInt
  · rw [if_pos h1, if_pos (show (0 : Int64).toInt ≤ a1.toInt ∧ a1.toInt ≤ (1000000 : Int64).toInt from h1)]
    exact ⟨_, _, rfl, rfl, rfl, n, hV, hP, hD.up (Nat.le_refl _), hL, hS, hT, hW, ⟨a, g1, g2, g3, rfl, h1, g6⟩, hM⟩
  · rw [if_neg h1, if_neg (show ¬ ((0 : Int64).toInt ≤ a1.toInt ∧ a1.toInt ≤ (1000000 : Int64).toInt) from h1)]
    exact ⟨_, _, rfl, rfl, rfl, h.same⟩
theorem st_clear {k : Nat} {s0 s1 s2 s3 s4 s5 s6 s7 s8 s9 s10 s11 : OS} (h : Rel k s0 s1 s2 s3 s4 s5 s6 s7 s8 s9 s10 s11) (hk : k < 512) : ∃ (rc : Int32 × OS) (rr : Int32 × OS), f10_clear s0 = some rc ∧ f11_clear s11 = some rr ∧ rc.1 = rr.1 ∧ Rel (k + 1) rc.2 s1 s2 s3 s4 s5 s6 s7 s8 s9 s10 rr.2 := by
  obtain ⟨n, hV, hP, hD, hL, hS, hT, hW, ⟨a, g1, g2, g3, g4, g5, g6, g7, g8, g9⟩, hM⟩ := id h
  exact ⟨_, _, rfl, rfl, g2.trans g3.symm, n, hV, hP, hD.up (Nat.le_refl _), hL, hS, hT, hW, ⟨0, by omega, rfl, rfl, g4, g5, g6, g7, g8, fun i hi => by omega⟩, hM⟩
theorem st_asker {k : Nat} {s0 s1 s2 s3 s4 s5 s6 s7 s8 s9 s10 s11 : OS} (h : Rel k s0 s1 s2 s3 s4 s5 s6 s7 s8 s9 s10 s11) (hk : k < 512) (a1 : Int32) (a2 : Int32) : ∃ (rc : Int32 × OS) (rr : Int32 × OS), f10_asker a1 a2 s2 = some rc ∧ f11_asker a1 a2 s11 = some rr ∧ rc.1 = rr.1 ∧ Rel (k + 1) s0 s1 rc.2 s3 s4 s5 s6 s7 s8 s9 s10 rr.2 := by
  obtain ⟨n, hV, hP, hD, ⟨a, c, q1, q2, q3, q4, q5, q6, q7, q8, q9, q10, q11, q12, q13, q14, q15, q16⟩, hS⟩ := id h
  have e20 : (nI a = (20 : Int32)) ↔ a = 20 := nI_eq (a := a) (b := 20) (by omega) (by omega)
  unfold f10_asker f10_asker_j20 f11_asker f11_asker_j33 f2_addAsker f2_addAsker_j15
  rw [c_isWithin, r_lies, Option.bind_some, Option.bind_some, if_b1, if_b1, c_isWithin, r_lies, Option.bind_some, Option.bind_some, if_b1, if_b1, Int32.toInt_toInt64, Int32.toInt_toInt64]
  simp only [nm_d, q3, q4]
  by_cases h1 : (0 : Int32).toInt ≤ a1.toInt ∧ a1.toInt ≤ (9 : Int32).toInt
  · rw [if_pos h1, if_pos (show (0 : Int64).toInt ≤ a1.toInt ∧ a1.toInt ≤ (9 : Int64).toInt from h1)]
    by_cases h2 : (0 : Int32).toInt ≤ a2.toInt ∧ a2.toInt ≤ (7 : Int32).toInt
    · rw [if_pos h2, if_pos (show (0 : Int64).toInt ≤ a2.toInt ∧ a2.toInt ≤ (7 : Int64).toInt from h2)]
      rw [if_neg (nI_pos (n := a) (by omega))]
      by_cases h3 : a = 20
      · rw [if_pos (e20.mpr h3), if_neg (by subst h3; decide)]
        exact ⟨_, _, rfl, rfl, rfl, h.same⟩
      · have ha : a < 20 := by omega
        rw [if_neg (fun e => h3 (e20.mp e)), if_pos (show nI a < (20 : Int32) from nI_lt (a := a) (b := 20) ha (by omega))]
        have e1 : ∀ x y : Int32, (wI (wI s11 31 (nI a).toNatClampNeg x) 32 (nI a).toNatClampNeg y).1 0 4 = nI a := fun _ _ => q4
        have e2 : ∀ x : Int32, (wI s11 31 (nI a).toNatClampNeg x).1 0 4 = nI a := fun _ => q4
        have e3 : ∀ x y : Int32, (wI (wI s2 1 (nI a).toNatClampNeg x) 2 (nI a).toNatClampNeg y).1 0 2 = nI a := fun _ _ => q3
        simp only [e1, e2, e3, inb_n ha (by omega : 20 < 2 ^ 31), chk_t, Option.bind_some]
        refine ⟨_, _, rfl, rfl, ?_, n, hV, hP, hD.up (Nat.le_refl _), ⟨a + 1, c, by omega, q2, ?_, ?_, q5, q6, ?_, ?_, q9, q10, q11, q12, q13, q14, fun i hi => ?_, q16⟩, hS⟩
        · show nI a = nI a + 1 - 1
          exact (add_sub1 _).symm
        · show nI a + 1 = nI (a + 1)
          exact nI_1 a
        · show nI a + 1 = nI (a + 1)
          exact nI_1 a
        · show (fun i' => if i' = _ then a1 else s2.1 1 i') = (fun i' => if i' = _ then a1 else s11.1 31 i')
          rw [q7]
        · show (fun i' => if i' = _ then a2 else s2.1 2 i') = (fun i' => if i' = _ then a2 else s11.1 32 i')
          rw [q8]
        · obtain ⟨z1, ⟨z, z2, z3⟩, z4⟩ := q15 i hi
          exact ⟨z1, ⟨z, by omega, z3⟩, z4⟩
    · rw [if_neg h2, if_neg (show ¬ ((0 : Int64).toInt ≤ a2.toInt ∧ a2.toInt ≤ (7 : Int64).toInt) from h2)]
      simp only [ite_self]
      exact ⟨_, _, rfl, rfl, rfl, h.same⟩
  · rw [if_neg h1, if_neg (show ¬ ((0 : Int64).toInt ≤ a1.toInt ∧ a1.toInt ≤ (9 : Int64).toInt) from h1)]
    simp only [ite_self]
    exact ⟨_, _, rfl, rfl, rfl, h.same⟩
