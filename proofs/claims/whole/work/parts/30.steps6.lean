-- steps: stone, give, sight
theorem rn_of {m s11 : OS} {d p : Nat} (hd : d < 4800) (h : s11.1 0 24 = nI d) (hp : p < 150) (e : m.1 0 24 = s11.1 0 24) : f11_notes (nI p) m = some (nW m d p) := r_notes hd (e.trans h) hp
theorem st_stone {k : Nat} {s0 s1 s2 s3 s4 s5 s6 s7 s8 s9 s10 s11 : OS} (h : Rel k s0 s1 s2 s3 s4 s5 s6 s7 s8 s9 s10 s11) (hk : k < 512) (a1 : Int32) (a2 : Int32) (a3 : Int32) (a4 : Int32) (a5 : Int32) (hb : a5 = 0 ∨ a5 = 1) : ∃ (rc : Int32 × OS × OS) (rr : Int32 × OS), f10_stone a1 a2 a3 a4 a5 s1 s4 s10 = some rc ∧ f11_stone a1 a2 a3 a4 a5 s11 = some rr ∧ rc.1 = rr.1 ∧ Rel (k + 1) s0 rc.2.1 s2 s3 rc.2.2 s5 s6 s7 s8 s9 s10 rr.2 := by
  obtain ⟨n, ⟨hg, ht, htr, hgr⟩, hP, hD, hL, hS⟩ := id h
  obtain ⟨p1, p2, p3, p4, p5, p6, p7, p8, p9, p10, p11, p12, p13⟩ := id hP
  have hvb : bw 0 1 (vp_nar .boolean a5) := by
    rcases hb with rfl | rfl
    · exact ⟨by decide, by decide⟩
    · exact ⟨by decide, by decide⟩
  have e150 : (nI n = (150 : Int32)) ↔ n = 150 := nI_eq (a := n) (b := 150) (by omega) (by omega)
  have hroom : f4_hasRoomFor 1 s4 = some (b1 (n < 150)) := by
    unfold f4_hasRoomFor f4_hasRoomFor_j17
    rw [p2, nI_1]
    by_cases g : n < 150
    · rw [if_neg (show ¬ (150 : Int32) < nI (n + 1) from nI_nlt (a := 150) (b := n + 1) (by omega) (by omega)), b1_t g]; rfl
    · rw [if_pos (show (150 : Int32) < nI (n + 1) from nI_lt (a := 150) (b := n + 1) (by omega) (by omega)), b1_f g]; rfl
  unfold f10_stone f10_stone_j27 f10_stone_j48 f11_stone f11_stone_j49
  rw [c_isKind, r_isKind, c_isCabinet, r_isCabinet, hroom, p3]
  simp only [Option.bind_some, if_b1, c_isWithin, r_lies, Int32.toInt_toInt64]
  by_cases h1 : 0 ≤ a1.toInt ∧ a1.toInt ≤ 7
  · simp only [if_pos h1]
    by_cases h2 : (0 : Int32).toInt ≤ a2.toInt ∧ a2.toInt ≤ (9 : Int32).toInt
    · rw [if_pos h2, if_pos (show (0 : Int64).toInt ≤ a2.toInt ∧ a2.toInt ≤ (9 : Int64).toInt from h2)]
      by_cases h3 : (1 : Int32).toInt ≤ a3.toInt ∧ a3.toInt ≤ (1000000000 : Int32).toInt
      · rw [if_pos h3, if_pos (show (1 : Int64).toInt ≤ a3.toInt ∧ a3.toInt ≤ (1000000000 : Int64).toInt from h3)]
        by_cases h4 : 0 ≤ a4.toInt ∧ a4.toInt ≤ 9
        · simp only [if_pos h4]
          by_cases h5 : n < 150
          · rw [if_pos h5, if_neg (fun e => by have := e150.mp e; omega)]
            obtain ⟨kk, hkk, rfl⟩ := nI_of_in (x := a1) (n := 8) (by omega) (by omega)
            obtain ⟨d, d0, d2, d3, d5, d6, d7, d8, d9⟩ := hD
            have hw3 : bw 0 1000000000 a3 := ⟨by have := h3.1; have e : (1 : Int32).toInt = 1 := rfl; omega, h3.2⟩
            have hc4 : bw 0 12 a4 := ⟨h4.1, by omega⟩
            have hcl := nI_clamp (n := n) (by omega)
            have hkc := nI_clamp (n := kk) (by omega)
            -- the class
            unfold f4_bring f4_bring_j19
            simp only [p2, nm_d, hcl, inb_n (show n < 150 by omega) (by omega : 150 < 2 ^ 31), chk_t]
            rw [if_neg (nI_pos (n := n) (by omega)), if_pos (show nI n < (150 : Int32) from nI_lt (a := n) (b := 150) h5 (by omega)), nI_1]
            obtain ⟨sB, hsB⟩ : ∃ sB : OS, sB = wI (wI (wI (wI (wI (wI (wI s4 0 10 (nI (n + 1))) 1 n (nI kk)) 2 n a2) 4 n 0) 8 n (vp_nar .boolean a5)) 6 n (-1)) 7 n (nI n) := ⟨_, rfl⟩
            have b0 : sB.1 0 10 = nI (n + 1) := by subst hsB; rfl
            have bk : sB.1 1 n = nI kk := by subst hsB; exact wI_at (s := wI s4 0 10 (nI (n + 1))) (r := 1) (i := n)
            have ec : f4_charge 0 (nI n) a3.toInt64 sB = some (wL sB 9 kk (sB.2 9 kk + a3.toInt64)) := by
              have h9 := c_charge (acc := 0) (n := n + 1) (p := n) (by omega) b0 (by omega) (by omega) hkk bk a3.toInt64
              rw [Nat.zero_mul, Nat.zero_add] at h9
              exact h9
            rw [← hsB, ec, Option.bind_some, c_change (n := n + 1) (p := n) (d := d) (by omega) (show (wL sB 9 kk (sB.2 9 kk + a3.toInt64)).1 0 10 = _ from b0) (by omega) (by omega) d2, Option.bind_some]
            -- the reference
            unfold f11_comes f11_comes_j81
            simp only [p3, nm_d, hcl, inb_n (show n < 150 by omega) (by omega : 150 < 2 ^ 31), chk_t, if_true]
            obtain ⟨mB, hmB⟩ : ∃ mB : OS, mB = wI (wI (wI (wI (wI (wI (wI (wI s11 12 n (nI kk)) 13 n a2) 14 n a3) 15 n 0) 16 n a4) 17 n (-1)) 18 n (nI n)) 19 n (vp_nar .boolean 0) := ⟨_, rfl⟩
            rw [← hmB]
            have m0 : mB.1 0 3 = nI n := by subst hmB; exact p3
            have m24 : mB.1 0 24 = s11.1 0 24 := by subst hmB; rfl
            rw [m0, nI_1, rn_of (m := wI mB 0 3 (nI (n + 1))) (by omega) d3 (by omega) m24]
            simp only [Option.bind_some, hcl, hkc, inb_n (show n < 150 by omega) (by omega : 150 < 2 ^ 31), inb_n hkk (by omega : 8 < 2 ^ 31), chk_t, nm_d]
            subst hsB; subst hmB
            refine ⟨_, _, rfl, rfl, rfl, n + 1, ⟨hg, ht, htr, hgr⟩, ?_, ?_, hL.up (by omega), hS.1, hS.2.1, hS.2.2.1, hS.2.2.2.1, hS.2.2.2.2.1.up (by omega), hS.2.2.2.2.2⟩
            · refine ⟨by omega, rfl, rfl, ?_, ?_, ?_, ?_, ?_, ?_, ?_, ?_, fun i hi => ?_, fun j hj => ?_⟩
              · show fupd (s4.1 1) n (nI kk) = fupd (s11.1 12) n (nI kk)
                rw [p4]
              · show fupd (s4.1 2) n a2 = fupd (s11.1 13) n a2
                rw [p5]
              · show fupd (s4.1 3) n a3 = fupd (s11.1 14) n a3
                rw [p6]
              · show fupd (fupd (s4.1 4) n 0) n (fupd (s4.1 4) n 0 n ||| 0) = fupd (s11.1 15) n 0
                rw [fupd_2, fupd_s, or_0, p7]
              · show fupd (s4.1 5) n a4 = fupd (s11.1 16) n a4
                rw [p8]
              · show fupd (s4.1 6) n (-1) = fupd (s11.1 17) n (-1)
                rw [p9]
              · show fupd (s4.1 7) n (nI n) = fupd (s11.1 18) n (nI n)
                rw [p10]
              · show fupd (s4.1 8) n (vp_nar .boolean a5) = fupd (fupd (s11.1 19) n (vp_nar .boolean 0)) n (vp_nar .boolean a5)
                rw [fupd_2, p11]
              · show bw 0 7 (fupd (s11.1 12) n (nI kk) i) ∧ bw 0 1000000000 (fupd (s11.1 14) n a3 i) ∧ bw 0 65535 (fupd (s11.1 15) n 0 i) ∧ bw 0 12 (fupd (s11.1 16) n a4 i) ∧ bw 0 1 (fupd (fupd (s11.1 19) n (vp_nar .boolean 0)) n (vp_nar .boolean a5) i)
                by_cases e : i = n
                · subst e; simp only [fupd_s]
                  exact ⟨h1, hw3, ⟨by decide, by decide⟩, hc4, hvb⟩
                · simp only [fupd_n e]
                  exact p12 i (by omega)
              · obtain ⟨c1, c2, c3, c4⟩ := p13 j hj
                show (if j = kk then s4.2 9 kk + a3.toInt64 else s4.2 9 j) = (if j = kk then s11.2 21 kk + a3.toInt64 else s11.2 21 j) ∧ (if 8 + j = kk then s4.2 9 kk + a3.toInt64 else s4.2 9 (8 + j)) = s11.2 22 j ∧ (if 16 + j = kk then s4.2 9 kk + a3.toInt64 else s4.2 9 (16 + j)) = s11.2 23 j ∧ (if 24 + j = kk then s4.2 9 kk + a3.toInt64 else s4.2 9 (24 + j)) = s11.2 24 j
                rw [if_neg (show ¬ 8 + j = kk by omega), if_neg (show ¬ 16 + j = kk by omega), if_neg (show ¬ 24 + j = kk by omega)]
                refine ⟨?_, c2, c3, c4⟩
                by_cases e : j = kk
                · subst e; rw [if_pos rfl, if_pos rfl, c1]
                · rw [if_neg e, if_neg e, c1]
            · refine ⟨d + 1, by omega, rfl, rfl, ?_, ?_, ?_, ?_, ?_⟩
              · show fupd (s1.1 1) d (nI n) = fupd (s11.1 26) d (nI n)
                rw [d5]
              · show fupd (s1.1 2) d (s10.1 0 9) = fupd (s11.1 27) d (s11.1 0 2)
                rw [d6, ht]
              · show fupd (s1.1 3) d a3 = fupd (s11.1 28) d (fupd (s11.1 14) n a3 n)
                rw [d7, fupd_s]
              · show fupd (s1.1 4) d (fupd (s4.1 4) n 0 n ||| 0) = fupd (s11.1 29) d (fupd (s11.1 15) n 0 n)
                rw [d8, fupd_s, fupd_s, or_0]
              · show fupd (s1.1 5) d a4 = fupd (s11.1 30) d (fupd (s11.1 16) n a4 n)
                rw [d9, fupd_s]
          · rw [if_neg h5, if_pos (e150.mpr (by omega))]
            exact ⟨_, _, rfl, rfl, rfl, h.same⟩
        · simp only [if_neg h4, ite_self]
          exact ⟨_, _, rfl, rfl, rfl, h.same⟩
      · rw [if_neg h3, if_neg (show ¬ ((1 : Int64).toInt ≤ a3.toInt ∧ a3.toInt ≤ (1000000000 : Int64).toInt) from h3)]
        simp only [ite_self]
        exact ⟨_, _, rfl, rfl, rfl, h.same⟩
    · rw [if_neg h2, if_neg (show ¬ ((0 : Int64).toInt ≤ a2.toInt ∧ a2.toInt ≤ (9 : Int64).toInt) from h2)]
      simp only [ite_self]
      exact ⟨_, _, rfl, rfl, rfl, h.same⟩
  · simp only [if_neg h1, ite_self]
    exact ⟨_, _, rfl, rfl, rfl, h.same⟩
theorem c_see {s9 : OS} {q : Nat} (hq : q < 140) (h : s9.1 0 7 = nI q) (x y z : Int32) : f9_see x y z s9 = some (wI (wI (wI (wI s9 4 q x) 5 q y) 6 q z) 0 7 (nI (q + 1))) := by
  unfold f9_see f9_see_j17
  have c1 : ∀ x, (wI s9 4 q x).1 0 7 = nI q := fun _ => h
  have c2 : ∀ x y, (wI (wI s9 4 q x) 5 q y).1 0 7 = nI q := fun _ _ => h
  have c3 : ∀ x y z, (wI (wI (wI s9 4 q x) 5 q y) 6 q z).1 0 7 = nI q := fun _ _ _ => h
  simp only [h, nm_d]
  rw [if_neg (nI_pos (n := q) (by omega)), if_pos (show nI q < (140 : Int32) from nI_lt (a := q) (b := 140) hq (by omega))]
  simp only [nI_clamp (show q < 2 ^ 31 by omega), c1, c2, c3, inb_n hq (by omega : 140 < 2 ^ 31), chk_t, nI_1]
theorem c_hasGift {a : Int32} {s9 : OS} {g : Nat} (hg : g ≤ 40) (h : s9.1 0 6 = nI g) : f9_hasGift a s9 = some (b1 (0 ≤ a.toInt ∧ a.toInt < g)) := by
  unfold f9_hasGift f9_hasGift_j22 f9_hasGift_j23
  rw [h]
  have e0 : (0 : Int32).toInt = 0 := rfl
  have en := nI_toInt (n := g) (by omega)
  have e150 : (40 : Int32).toInt = 40 := rfl
  simp only [Int32.lt_iff_toInt_lt, Int32.le_iff_toInt_le, e0, en, e150]
  by_cases h1 : a.toInt < 0
  · rw [if_pos h1, b1_f (by omega)]; rfl
  · rw [if_neg h1]
    by_cases h2 : (g : Int) ≤ a.toInt
    · rw [if_pos h2, b1_f (by omega)]; rfl
    · rw [if_neg h2, if_neg (by omega), b1_t (by omega)]; rfl
theorem r_isGift {a : Int32} {m : OS} {g : Nat} (hg : g ≤ 40) (h : m.1 0 8 = nI g) : f11_isGift a m = some (b1 (0 ≤ a.toInt ∧ a.toInt < g)) := by
  unfold f11_isGift
  rw [r_lies0 (by omega) h, Option.bind_some, b1_B]; rfl
theorem c_givenOnP {s9 : OS} {g x : Nat} (hg : g ≤ 40) (h : s9.1 0 6 = nI g) (hx : x < g) : f9_givenOn (nI x) s9 = some (s9.1 3 x) := by
  unfold f9_givenOn f9_givenOn_j18
  rw [c_hasGift hg h, b1_t (by rw [nI_toInt (by omega)]; omega), Option.bind_some, if_neg (by decide), inb_n (by omega : x < 40) (by omega), chk_t, nm_d, nI_clamp (by omega)]
theorem told_add {N : Nat} {f g h : Nat → Int32} {P : Int32 → Int32 → Int32 → Prop} {a b c : Int32} (hI : ∀ x y z, (∃ i, i < N ∧ f i = x ∧ g i = y ∧ h i = z) ↔ P x y z) : ∀ x y z, (∃ i, i < N + 1 ∧ fupd f N a i = x ∧ fupd g N b i = y ∧ fupd h N c i = z) ↔ (P x y z ∨ (a = x ∧ b = y ∧ c = z)) := by
  intro x y z
  rw [← hI]
  constructor
  · rintro ⟨i, h1, h2⟩
    by_cases e : i = N
    · subst e; rw [fupd_s, fupd_s, fupd_s] at h2; exact Or.inr h2
    · rw [fupd_n e, fupd_n e, fupd_n e] at h2; exact Or.inl ⟨i, by omega, h2⟩
  · rintro (⟨i, h1, h2⟩ | h2)
    · refine ⟨i, by omega, ?_⟩
      rw [fupd_n (by omega), fupd_n (by omega), fupd_n (by omega)]; exact h2
    · refine ⟨N, by omega, ?_⟩
      rw [fupd_s, fupd_s, fupd_s]; exact h2
theorem ex_add {N : Nat} {f g h : Nat → Int32} {a b c x y z : Int32} : (∃ i, i < N + 1 ∧ fupd f N a i = x ∧ fupd g N b i = y ∧ fupd h N c i = z) ↔ ((∃ i, i < N ∧ f i = x ∧ g i = y ∧ h i = z) ∨ (a = x ∧ b = y ∧ c = z)) := told_add (P := fun x y z => ∃ i, i < N ∧ f i = x ∧ g i = y ∧ h i = z) (fun _ _ _ => Iff.rfl) x y z
theorem st_sight {k : Nat} {s0 s1 s2 s3 s4 s5 s6 s7 s8 s9 s10 s11 : OS} (h : Rel k s0 s1 s2 s3 s4 s5 s6 s7 s8 s9 s10 s11) (hk : k < 512) (a1 : Int32) (a2 : Int32) (a3 : Int32) : ∃ (rc : Int32 × OS) (rr : Int32 × OS), f10_sight a1 a2 a3 s9 s10 = some rc ∧ f11_sight a1 a2 a3 s11 = some rr ∧ rc.1 = rr.1 ∧ Rel (k + 1) s0 s1 s2 s3 s4 s5 s6 s7 s8 rc.2 s10 rr.2 := by
  obtain ⟨n, ⟨hg, ht, htr, hgr⟩, hP, hD, hL, hS, hT, ⟨g, t, q1, q2, q3, q4, q5, q6, q7, q8, q9, q10, q11, q12⟩, hA⟩ := id h
  have e100 : (nI t = (100 : Int32)) ↔ t = 100 := nI_eq (a := t) (b := 100) (by omega) (by omega)
  have hroom : f9_hasRoomForSight s9 = some (b1 (t < 100)) := by
    have e : f9_sightCount s9 = some (nI t) := by
      show some (s9.1 0 7 - s9.1 0 6) = _
      rw [q3, q5, pk_sub (by omega), Nat.add_sub_cancel_left]
    unfold f9_hasRoomForSight f9_hasRoomForSight_j14
    rw [e, Option.bind_some]
    by_cases g1 : t < 100
    · rw [if_neg (show ¬ (100 : Int32) ≤ nI t from nI_ge (a := t) (b := 100) g1 (by omega)), b1_t g1]; rfl
    · rw [if_pos (show (100 : Int32) ≤ nI t from nI_le (a := 100) (b := t) (by omega) (by omega)), b1_f g1]; rfl
  unfold f10_sight f10_sight_j28 f11_sight f11_sight_j44
  rw [c_hasGift q1 q3, r_isGift q1 q4, c_isPlace, r_isPlace, hroom, q6]
  simp only [Option.bind_some, if_b1]
  by_cases h1 : 0 ≤ a1.toInt ∧ a1.toInt < g
  · simp only [if_pos h1]
    obtain ⟨x, hx, rfl⟩ := nI_of_in h1 (by omega)
    by_cases h2 : 0 ≤ a2.toInt ∧ a2.toInt ≤ 15
    · simp only [if_pos h2]
      by_cases h3 : t < 100
      · rw [if_pos h3, if_neg (fun e => by have := e100.mp e; omega), c_givenOnP q1 q3 hx]
        simp only [Option.bind_some, c_isWithin, r_lies, if_b1, Int32.toInt_toInt64, nI_clamp (show x < 2 ^ 31 by omega), inb_n (show x < 40 by omega) (by omega : 40 < 2 ^ 31), chk_t, nm_d, q7, ht]
        by_cases h4 : (s11.1 80 x).toInt ≤ a3.toInt ∧ a3.toInt ≤ (s11.1 0 2).toInt
        · rw [if_pos h4, if_pos h4, c_see (by omega) q5, Option.bind_some]
          have m1 : ∀ x, (wI s11 82 t x).1 0 9 = nI t := fun _ => q6
          have m2 : ∀ x y, (wI (wI s11 82 t x) 83 t y).1 0 9 = nI t := fun _ _ => q6
          have m3 : ∀ x y z, (wI (wI (wI s11 82 t x) 83 t y) 84 t z).1 0 9 = nI t := fun _ _ _ => q6
          simp only [q6, nI_clamp (show t < 2 ^ 31 by omega), m1, m2, m3, inb_n h3 (by omega : 100 < 2 ^ 31), chk_t, nI_1]
          obtain ⟨b1', b2'⟩ := q10 x hx
          unfold bw at b1' htr
          rw [ht] at htr
          refine ⟨_, _, rfl, rfl, rfl, n, ⟨hg, ht, by unfold bw; rw [ht]; exact htr, hgr⟩, hP, hD.up (Nat.le_refl _), hL, hS, hT, ⟨g, t + 1, q1, by omega, q3, q4, rfl, rfl, q7, q8, q9, q10, fun i hi => ?_, ?_⟩, hA⟩
          · show (∃ q, q < g ∧ fupd (s11.1 82) t (nI x) i = nI q) ∧ bw 0 15 (fupd (s11.1 83) t a2 i) ∧ bw 0 99999 (fupd (s11.1 84) t a3 i)
            by_cases e : i = t
            · subst e; rw [fupd_s, fupd_s, fupd_s]
              exact ⟨⟨x, hx, rfl⟩, h2, by unfold bw; omega⟩
            · rw [fupd_n e, fupd_n e, fupd_n e]; exact q11 i (by omega)
          · intro u v w
            show (∃ i, i < g + t + 1 ∧ fupd (s9.1 4) (g + t) (nI x) i = u ∧ fupd (s9.1 5) (g + t) a2 i = v ∧ fupd (s9.1 6) (g + t) a3 i = w) ↔ ((∃ i, i < g ∧ nI i = u ∧ s11.1 81 i = v ∧ s11.1 80 i = w) ∨ ∃ i, i < t + 1 ∧ fupd (s11.1 82) t (nI x) i = u ∧ fupd (s11.1 83) t a2 i = v ∧ fupd (s11.1 84) t a3 i = w)
            rw [ex_add, ex_add, q12, or_assoc]
        · rw [if_neg h4, if_neg h4]
          exact ⟨_, _, rfl, rfl, rfl, h.same⟩
      · rw [if_neg h3, if_pos (e100.mpr (by omega))]
        exact ⟨_, _, rfl, rfl, rfl, h.same⟩
    · simp only [if_neg h2, ite_self]
      exact ⟨_, _, rfl, rfl, rfl, h.same⟩
  · simp only [if_neg h1, ite_self]
    exact ⟨_, _, rfl, rfl, rfl, h.same⟩
