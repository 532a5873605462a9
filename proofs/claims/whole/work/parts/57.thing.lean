-- thing
def wB (b : Nat → Bool) (pp : Nat → Nat) : Nat → (Nat → Bool)
  | 0 => fun _ => false
  | j + 1 => if b j = true then addB (wB b pp j) (pp j) else wB b pp j
theorem wB_is {b : Nat → Bool} {pp : Nat → Nat} : ∀ (c u : Nat), wB b pp c u = true ↔ ∃ j, j < c ∧ b j = true ∧ pp j = u
  | 0, u => ⟨fun h => (by cases h), fun ⟨j, hj, _⟩ => by omega⟩
  | c + 1, u => by
    have ih := wB_is (b := b) (pp := pp) c u
    show (if b c = true then addB (wB b pp c) (pp c) else wB b pp c) u = true ↔ _
    by_cases hb : b c = true
    · rw [if_pos hb]
      show (wB b pp c u || decide (u = pp c)) = true ↔ _
      rw [Bool.or_eq_true, decide_eq_true_eq, ih]
      constructor
      · rintro (⟨j, h1, h2⟩ | h)
        · exact ⟨j, by omega, h2⟩
        · exact ⟨c, by omega, hb, h.symm⟩
      · rintro ⟨j, h1, h2, h3⟩
        by_cases e : j = c
        · subst e; exact Or.inr h3.symm
        · exact Or.inl ⟨j, by omega, h2, h3⟩
    · rw [if_neg hb, ih]
      constructor
      · rintro ⟨j, h1, h2⟩; exact ⟨j, by omega, h2⟩
      · rintro ⟨j, h1, h2, h3⟩
        by_cases e : j = c
        · subst e; exact absurd h2 hb
        · exact ⟨j, by omega, h2, h3⟩
theorem wB_congr {b b' : Nat → Bool} {pp : Nat → Nat} : ∀ c, (∀ j, j < c → b j = b' j) → wB b pp c = wB b' pp c
  | 0, _ => rfl
  | c + 1, h => by
    show (if b c = true then addB (wB b pp c) (pp c) else wB b pp c) = (if b' c = true then addB (wB b' pp c) (pp c) else wB b' pp c)
    rw [wB_congr c (fun j hj => h j (by omega)), h c (by omega)]
theorem cntB_0 (n : Nat) : cntB (fun _ => false) n = 0 := cntB_const (a := 0) n (Nat.zero_le _) (fun _ _ _ => rfl)
theorem wB_cnt {b : Nat → Bool} {pp : Nat → Nat} {n : Nat} : ∀ c, (∀ j, j < c → pp j < n) → (∀ i j, i < c → j < c → pp i = pp j → i = j) → cntB (wB b pp c) n = cntB b c
  | 0, _, _ => cntB_0 n
  | c + 1, h1, h2 => by
    have ih := wB_cnt (b := b) (n := n) c (fun j hj => h1 j (by omega)) (fun i j hi hj => h2 i j (by omega) (by omega))
    show cntB (if b c = true then addB (wB b pp c) (pp c) else wB b pp c) n = cntB b c + (if b c = true then 1 else 0)
    by_cases hb : b c = true
    · rw [if_pos hb, if_pos hb]
      have hf : wB b pp c (pp c) = false := by
        cases e : wB b pp c (pp c)
        · rfl
        · obtain ⟨j, g1, g2, g3⟩ := (wB_is c (pp c)).mp e
          have := h2 j c (by omega) (by omega) g3
          omega
      rw [cntB_set hf, ih, if_pos (h1 c (by omega))]
    · rw [if_neg hb, if_neg hb, ih, Nat.add_zero]
theorem cnt_one {b : Nat → Bool} {n : Nat} : cntB b n = 1 ↔ ∃ j, j < n ∧ b j = true ∧ ∀ j', j' < n → b j' = true → j' = j := by
  have low : ∀ j, j < n → b j = true → cntB b (j + 1) ≤ cntB b n := fun j hj _ => cntB_mono b n (by omega)
  constructor
  · intro h
    have hex : ∃ j, j < n ∧ b j = true := by
      rcases Classical.em (∃ j, j < n ∧ b j = true) with e | e
      · exact e
      · have := cntB_const (V := b) (a := 0) n (Nat.zero_le _) (fun u _ hu => by
          cases hb : b u
          · rfl
          · exact absurd ⟨u, hu, hb⟩ e)
        rw [h] at this
        exact absurd this (by show ¬ 1 = 0; omega)
    obtain ⟨j, hj, hb⟩ := hex
    refine ⟨j, hj, hb, fun j' hj' hb' => ?_⟩
    have two : ∀ x y, x < y → y < n → b x = true → b y = true → False := by
      intro x y hxy hy hx1 hy1
      have e1 := low y hy hy1
      rw [cntB_step hy1] at e1
      have e2 := cntB_mono b (a := x + 1) y (by omega)
      rw [cntB_step hx1] at e2
      omega
    rcases Nat.lt_trichotomy j' j with e | e | e
    · exact (two j' j e hj hb' hb).elim
    · exact e
    · exact (two j j' e hj' hb hb').elim
  · rintro ⟨j, hj, hb, hu⟩
    have e1 := cntB_const (V := b) (a := 0) j (Nat.zero_le _) (fun u _ hu' => by
      cases hc : b u
      · rfl
      · have := hu u (by omega) hc; omega)
    have e2 := cntB_const (V := b) (a := j + 1) n (by omega) (fun u h1 h2 => by
      cases hc : b u
      · rfl
      · have := hu u h2 hc; omega)
    rw [e2, cntB_step hb, e1]; rfl
theorem NthS.none {V : Nat → Bool} {n kk : Nat} {r : Int32} (h : NthS V n kk r) (hv : ∀ u, ¬ V u = true) : r = -1 := by
  rcases h with ⟨p, _, h2, _⟩ | ⟨h, _⟩
  · exact absurd h2 (hv p)
  · exact h
theorem st_thing {k : Nat} {s0 s1 s2 s3 s4 s5 s6 s7 s8 s9 s10 s11 : OS} (h : Rel k s0 s1 s2 s3 s4 s5 s6 s7 s8 s9 s10 s11) (hk : k < 512) (a1 : Int32) (a2 : Int32) : ∃ (rc : Int32) (rr : Int32), f10_thing a1 a2 s3 = some rc ∧ f11_thing a1 a2 s11 = some rr ∧ rc = rr ∧ Rel (k + 1) s0 s1 s2 s3 s4 s5 s6 s7 s8 s9 s10 s11 := by
  obtain ⟨n, hV, hP, hD, hL, hS, hT, hW, hA, ⟨c, c1, c2, c3, A, ps, pp, bC, bM, bS, g1, g2, g3, g4, g5, g6⟩, hB⟩ := id h
  have p1 := hP.1
  have p3 := hP.2.2.1
  unfold f10_thing f3_tell f3_tell_j22 f3_tell_j58 f3_tell_j81 f11_thing f11_thing_j20 f11_thing_j63
  rw [r_lies0 (by omega) c3]
  simp only [Option.bind_some, if_b1, c2]
  by_cases h1 : 0 ≤ a1.toInt ∧ a1.toInt < c
  · rw [if_pos h1]
    obtain ⟨i, hi, rfl⟩ := nI_of_in h1 (by omega)
    have hcl := nI_clamp (n := i) (by omega)
    obtain ⟨⟨m1, m2, m3⟩, m4, m5, m6, m7⟩ := g6 i hi
    rw [if_neg (nI_pos (n := i) (by omega)), if_neg (nI_ge hi (by omega)), if_neg (show ¬ (6 : Int32) ≤ nI i from nI_ge (a := i) (b := 6) (by omega) (by omega))]
    by_cases h2 : (0 : Int32) ≤ a2
    · rw [if_pos h2, if_pos h2]
      have h2' : 0 ≤ a2.toInt := Int32.le_iff_toInt_le.mp h2
      obtain ⟨w, hw, rfl⟩ := nI_of2 (x := a2) (M := 2147483647) (n := 2147483647) (by decide) (fun e => by
        rw [Int32.lt_iff_toInt_lt] at e
        have : (0 : Int32).toInt = 0 := rfl
        omega) (by
        rw [Int32.le_iff_toInt_le]
        have : (2147483647 : Int32).toInt = 2147483647 := by decide
        have := (t_bound a2).2
        omega)
      obtain ⟨V, hVd⟩ : ∃ V : Nat → Bool, V = wB (bM i) pp c := ⟨_, rfl⟩
      have vM : ∀ u, V u = true ↔ ∃ j, j < c ∧ bM i j = true ∧ pp j = u := by subst hVd; exact wB_is c
      have vC : ∀ u, V u = true ↔ ∃ j, j < c ∧ bC i j = true ∧ ps j = u := fun u => (vM u).trans (m5 u).symm
      have kM : cntB V n = cntB (bM i) c := by subst hVd; exact wB_cnt c (fun j hj => (g3 j hj).2.2.2) g5
      have kC : cntB V n = cntB (bC i) c := asc_cnt vC g4 c n (Nat.le_refl _) (fun j hj => (g3 j hj).2.1) (fun j h3 h4 => by omega)
      have eM : cntB (bM i) 16 = cntB V n := (cntB_const 16 (by omega) (fun u h3 _ => (m4 u h3).2)).trans kM.symm
      have eC : cntB (bC i) 16 = cntB V n := (cntB_const 16 (by omega) (fun u h3 _ => (m4 u h3).1)).trans kC.symm
      have hK : cntB V n ≤ 16 := by rw [← eM]; exact cntB_le _ _
      have bc : fJ6_bitCount_0f7a4 (s3.1 3 i) = some (nI (cntB V n)) := by rw [m1, c_bitCount (mkB_lt _ _), ones_cnt, eC]
      have sz : f11_sizeOf (s11.1 76 i) = some (nI (cntB V n)) := by rw [m2, r_sizeOf (mkB_lt _ _), ones_cnt, eM]
      have nth : ∀ kk, kk < 2 ^ 31 → ∃ r, f3_nthOf (s3.1 3 i) (nI kk) s3 = some r ∧ NthS V n kk r := fun kk hkk => by
        rw [m1]; exact c_nthOf c1 p1 hkk (fun j hj => ⟨(g3 j hj).1, (g3 j hj).2.1⟩) (fun j hj => (m4 j hj).1) vC g4
      have low : ∀ kk, kk < 2 ^ 31 → ∃ r, f11_lowest (s11.1 76 i) (nI kk) s11 = some r ∧ NthS V n kk r := fun kk hkk => by
        rw [m2]; exact r_lowest c1 p1 hkk p3 c3 (fun j hj => (g3 j hj).2.2) vM g5
      have low0 : ∃ r, f11_lowest (s11.1 77 i) (nI 0) s11 = some r ∧ NthS (wB (bS i) pp c) n 0 r := by
        rw [m3]; exact r_lowest c1 p1 (by omega) p3 c3 (fun j hj => (g3 j hj).2.2) (wB_is c) g5
      simp only [hcl, inb_n (show i < 6 by omega) (by omega : 6 < 2 ^ 31), chk_p, nm_p, bc, sz, Option.bind_some]
      by_cases w0 : w = 0
      · subst w0
        rw [if_pos (show nI 0 = (0 : Int32) from rfl), if_neg (show ¬ nI 0 = (1 : Int32) by decide), if_pos (show nI 0 = (0 : Int32) from rfl), g1]
        obtain ⟨r, e1, e2⟩ := nth 0 (by omega)
        obtain ⟨r', e3, e4⟩ := low0
        have e1 : f3_nthOf (s3.1 3 i) 0 s3 = some r := e1
        have e3 : f11_lowest (s11.1 77 i) 0 s11 = some r' := e3
        rw [e1, e3]
        by_cases hA0 : A = 0
        · have hv : ∀ u, ¬ V u = true := fun u hu => by
            obtain ⟨j, _, e, _⟩ := (vM u).mp hu
            rw [m6 hA0 j] at e; cases e
          have h0 : cntB V n = 0 := cntB_const (a := 0) n (Nat.zero_le _) (fun u _ _ => by
            cases e : V u
            · rfl
            · exact absurd e (hv u))
          rw [if_neg (show ¬ nI (cntB V n) = 1 by rw [h0]; decide), if_pos (show nI A ≤ 0 by rw [hA0]; decide)]
          exact ⟨_, _, rfl, rfl, rfl, h.same⟩
        · obtain ⟨⟨j0, q1, q2⟩, q3⟩ := m7 (by omega)
          rw [if_neg (show ¬ nI A ≤ 0 from nI_ge (a := 0) (b := A) (by omega) (by omega))]
          by_cases hK1 : cntB V n = 1
          · rw [if_pos (show nI (cntB V n) = 1 by rw [hK1]; rfl)]
            have hu := cnt_one.mp (kM.symm.trans hK1)
            obtain ⟨j, z1, z2, z3⟩ := hu
            have hj : ∀ x, x < c → bS i x = bM i x := fun x hx => by
              have hall : ∀ j', bM i j' = true → j' = j := fun j' hb' => by
                rcases Nat.lt_or_ge j' c with e | e
                · exact z3 j' e hb'
                · rw [(m4 j' e).2] at hb'; cases hb'
              have hiff : bS i x = true ↔ bM i x = true := by
                rw [q3 x hx]
                constructor
                · intro e; rw [← e j z2]; exact z2
                · intro e j' hb'; rw [hall j' hb', hall x e]
              exact Bool.eq_iff_iff.mpr hiff
            rw [wB_congr c hj, ← hVd] at e4
            exact ⟨_, _, rfl, rfl, e2.same e4, h.same⟩
          · rw [if_neg (show ¬ nI (cntB V n) = (1 : Int32) from fun e => hK1 ((nI_eq (a := cntB V n) (b := 1) (by omega) (by omega)).mp e))]
            have hv : ∀ u, ¬ wB (bS i) pp c u = true := fun u hu => by
              obtain ⟨j, z1, z2, _⟩ := (wB_is c u).mp hu
              have z3 := (q3 j z1).mp z2
              have e5 := z3 j0 q2
              refine hK1 (kM.trans (cnt_one.mpr ⟨j, z1, ?_, fun j' _ hb' => z3 j' hb'⟩))
              rw [← e5]; exact q2
            exact ⟨_, _, rfl, rfl, (e4.none hv).symm, h.same⟩
      · rw [if_neg (show ¬ nI w = (0 : Int32) from fun e => w0 ((nI_eq (a := w) (b := 0) (by omega) (by omega)).mp e)), if_neg (show ¬ nI w = (0 : Int32) from fun e => w0 ((nI_eq (a := w) (b := 0) (by omega) (by omega)).mp e))]
        by_cases w1 : w = 1
        · subst w1
          rw [if_pos (show nI 1 = (1 : Int32) from rfl), if_pos (show nI 1 = (1 : Int32) from rfl)]
          exact ⟨_, _, rfl, rfl, rfl, h.same⟩
        · have hw1 : ¬ nI w = (1 : Int32) := fun e => w1 ((nI_eq (a := w) (b := 1) (by omega) (by omega)).mp e)
          rw [if_neg hw1, if_neg hw1]
          have e2 : nI w - (2 : Int32) = nI (w - 2) := by rw [show (2 : Int32) = nI 2 from rfl, pk_sub (by omega)]
          obtain ⟨r, e3, e4⟩ := nth (w - 2) (by omega)
          obtain ⟨r', e5, e6⟩ := low (w - 2) (by omega)
          rw [e2, e3, e5]
          exact ⟨_, _, rfl, rfl, e4.same e6, h.same⟩
    · rw [if_neg h2, if_neg h2]
      exact ⟨_, _, rfl, rfl, rfl, h.same⟩
  · rw [if_neg h1]
    by_cases h3 : a1 < 0
    · rw [if_pos h3]
      exact ⟨_, _, rfl, rfl, rfl, h.same⟩
    · rw [if_neg h3]
      have h3' : 0 ≤ a1.toInt := by
        rw [Int32.lt_iff_toInt_lt] at h3
        have : (0 : Int32).toInt = 0 := rfl
        omega
      have h4 : nI c ≤ a1 := by
        rw [Int32.le_iff_toInt_le, nI_toInt (by omega)]
        omega
      rw [if_pos h4]
      exact ⟨_, _, rfl, rfl, rfl, h.same⟩
