-- judge, best: the stocks, and the reference's rows
def selP (kd pl sl : Nat → Int32) (k : Int32) (p : Nat) : Bool := decide (kd p = k) && (decide ((pl p).toInt < 10) && decide (sl p = 0))
theorem selP_is {kd pl sl : Nat → Int32} {k : Int32} {p : Nat} : selP kd pl sl k p = true ↔ kd p = k ∧ (pl p).toInt < 10 ∧ sl p = 0 := by
  unfold selP
  rw [Bool.and_eq_true, Bool.and_eq_true, decide_eq_true_eq, decide_eq_true_eq, decide_eq_true_eq]
theorem cnt_inj {V : Nat → Bool} {x y : Nat} (hx : V x = true) (hy : V y = true) (h : cntB V x = cntB V y) : x = y := by
  have two : ∀ a b, a < b → V a = true → cntB V a = cntB V b → False := fun a b hab ha e => by
    have := cntB_mono V (a := a + 1) b (by omega)
    rw [cntB_step ha] at this
    omega
  rcases Nat.lt_trichotomy x y with c | c | c
  · exact (two x y c hx h).elim
  · exact c
  · exact (two y x c hy h.symm).elim
theorem c_stock {n : Nat} {s0 s4 : OS} {k : Int32} (hn : n ≤ 150) (h : s4.1 0 10 = nI n) : ∃ u, f10_takeStock k s0 s4 = some u ∧ (∀ r, r ≠ 0 → r ≠ 4 → r ≠ 5 → u.1 r = s0.1 r) ∧ (∀ i, i ≠ 10 → u.1 0 i = s0.1 0 i) ∧ u.1 0 10 = nI (min 4 (cntB (selP (s4.1 1) (s4.1 5) (s4.1 8) k) n)) ∧ ∀ s, s < min 4 (cntB (selP (s4.1 1) (s4.1 5) (s4.1 8) k) n) → ∃ x, x < n ∧ selP (s4.1 1) (s4.1 5) (s4.1 8) k x = true ∧ cntB (selP (s4.1 1) (s4.1 5) (s4.1 8) k) x = s ∧ u.1 4 s = s4.1 3 x ∧ u.1 5 s = s4.1 4 x := by
  obtain ⟨V, hV⟩ : ∃ V, V = selP (s4.1 1) (s4.1 5) (s4.1 8) k := ⟨_, rfl⟩
  rw [← hV]
  have hsz : f4_size s4 = some (nI n) := by show some (s4.1 0 10) = _; rw [h]
  unfold f10_takeStock
  rw [show f0_emptyStock s0 = some (wI s0 0 10 0) from rfl, Option.bind_some]
  refine loop_inv n (fun p t => p ≤ n ∧ t.1 = nI p ∧ (∀ r, r ≠ 0 → r ≠ 4 → r ≠ 5 → t.2.1 r = s0.1 r) ∧ (∀ i, i ≠ 10 → t.2.1 0 i = s0.1 0 i) ∧ t.2.1 0 10 = nI (min 4 (cntB V p)) ∧ ∀ s, s < min 4 (cntB V p) → ∃ x, x < n ∧ V x = true ∧ cntB V x = s ∧ t.2.1 4 s = s4.1 3 x ∧ t.2.1 5 s = s4.1 4 x) _ ?_ n 0 _ (by omega) ⟨by omega, rfl, fun r h1 _ _ => wI_of h1, fun i hi => if_neg hi, rfl, fun s hs => by
    have : cntB V 0 = 0 := rfl
    omega⟩
  rintro p ⟨y, u⟩ ⟨hp, e1, e2, e3, e4, e5⟩
  have e1 : y = nI p := e1
  subst e1
  have e2 : ∀ r, r ≠ 0 → r ≠ 4 → r ≠ 5 → u.1 r = s0.1 r := e2
  have e3 : ∀ i, i ≠ 10 → u.1 0 i = s0.1 0 i := e3
  have e4 : u.1 0 10 = nI (min 4 (cntB V p)) := e4
  have e5 : ∀ s, s < min 4 (cntB V p) → ∃ x, x < n ∧ V x = true ∧ cntB V x = s ∧ u.1 4 s = s4.1 3 x ∧ u.1 5 s = s4.1 4 x := e5
  unfold f10_takeStock_l9 f10_takeStock_j66
  simp only [hsz, Option.bind_some]
  by_cases c : p = n
  · right
    subst c
    rw [if_pos (show nI p ≤ nI p from nI_le (Nat.le_refl _) (by omega))]
    exact ⟨u, rfl, e2, e3, e4, e5⟩
  · have hlt : p < n := by omega
    left
    refine ⟨hlt, ?_⟩
    rw [if_neg (nI_ge hlt (by omega)), c_isAtHand hn h]
    simp only [Option.bind_some, if_b1, nI_clamp (n := p) (by omega), nI_toInt (n := p) (by omega), nm_p, nI_1]
    have hno : V p = false → p + 1 ≤ n ∧ nI (p + 1) = nI (p + 1) ∧ (∀ r, r ≠ 0 → r ≠ 4 → r ≠ 5 → u.1 r = s0.1 r) ∧ (∀ i, i ≠ 10 → u.1 0 i = s0.1 0 i) ∧ u.1 0 10 = nI (min 4 (cntB V (p + 1))) ∧ ∀ s, s < min 4 (cntB V (p + 1)) → ∃ x, x < n ∧ V x = true ∧ cntB V x = s ∧ u.1 4 s = s4.1 3 x ∧ u.1 5 s = s4.1 4 x := by
      intro hf
      have : cntB V (p + 1) = cntB V p := by
        show cntB V p + (if V p = true then 1 else 0) = _
        rw [hf]; rfl
      rw [this]
      exact ⟨by omega, rfl, e2, e3, e4, e5⟩
    by_cases c1 : ((0 ≤ (p : Int) ∧ (p : Int) < n) ∧ (s4.1 5 p).toInt < 10) ∧ s4.1 8 p = 0
    · rw [if_pos c1, c_kindOfP hn h hlt, Option.bind_some]
      by_cases c2 : s4.1 1 p = k
      · have hVp : V p = true := by rw [hV, selP_is]; exact ⟨c2, c1.1.2, c1.2⟩
        rw [if_pos c2, c_weightOfP hn h hlt, Option.bind_some, c_metOfP hn h hlt, Option.bind_some]
        have hst := cntB_step hVp
        unfold f0_addToStock f0_addToStock_j45
        rw [e4, if_neg (nI_pos (n := min 4 (cntB V p)) (by omega))]
        by_cases c3 : 4 ≤ cntB V p
        · rw [if_pos (show (4 : Int32) ≤ nI (min 4 (cntB V p)) from nI_le (a := 4) (b := min 4 (cntB V p)) (by omega) (by omega))]
          refine ⟨_, rfl, by omega, rfl, e2, e3, ?_, ?_⟩
          · rw [hst, show min 4 (cntB V p + 1) = min 4 (cntB V p) by omega]; exact e4
          · rw [hst, show min 4 (cntB V p + 1) = min 4 (cntB V p) by omega]; exact e5
        · rw [if_neg (show ¬ (4 : Int32) ≤ nI (min 4 (cntB V p)) from nI_ge (a := min 4 (cntB V p)) (b := 4) (by omega) (by omega))]
          have hm : min 4 (cntB V p) = cntB V p := by omega
          rw [hm]
          have m1 : ∀ a b, (wI u 4 a b).1 0 10 = nI (cntB V p) := fun _ _ => by rw [← hm]; exact e4
          have m2 : ∀ a b a' b', (wI (wI u 4 a b) 5 a' b').1 0 10 = nI (cntB V p) := fun _ _ _ _ => by rw [← hm]; exact e4
          simp only [m1, m2, nI_clamp (n := cntB V p) (by omega), inb_n (show cntB V p < 4 by omega) (by omega : 4 < 2 ^ 31), chk_p, nm_p, nI_1, Option.bind_some]
          refine ⟨_, rfl, by omega, rfl, fun r h1 h2 h3 => ?_, fun i hi => ?_, ?_, fun s hs => ?_⟩
          · show (if r = 0 then _ else if r = 5 then _ else if r = 4 then _ else u.1 r) = _
            rw [if_neg h1, if_neg h3, if_neg h2]; exact e2 r h1 h2 h3
          · show (if i = 10 then _ else u.1 0 i) = _
            rw [if_neg hi]; exact e3 i hi
          · rw [hst, show min 4 (cntB V p + 1) = cntB V p + 1 by omega]
            exact wI_at (r := 0) (i := 10)
          · rw [hst] at hs
            show ∃ x, x < n ∧ V x = true ∧ cntB V x = s ∧ (if s = cntB V p then s4.1 3 p else u.1 4 s) = s4.1 3 x ∧ (if s = cntB V p then s4.1 4 p else u.1 5 s) = s4.1 4 x
            by_cases c4 : s = cntB V p
            · rw [if_pos c4, if_pos c4]
              exact ⟨p, hlt, hVp, c4.symm, rfl, rfl⟩
            · rw [if_neg c4, if_neg c4]
              exact e5 s (by omega)
      · rw [if_neg c2]
        refine ⟨_, rfl, hno ?_⟩
        cases hf : V p
        · rfl
        · rw [hV, selP_is] at hf; exact absurd hf.1 c2
    · rw [if_neg c1]
      refine ⟨_, rfl, hno ?_⟩
      cases hf : V p
      · rfl
      · rw [hV, selP_is] at hf
        exact absurd ⟨⟨⟨by omega, by omega⟩, hf.2.1⟩, hf.2.2⟩ c1
theorem r_stock {n : Nat} {m : OS} {k : Int32} (hn : n ≤ 150) (h : m.1 0 3 = nI n) : ∃ u, f11_stocks k m = some u ∧ (∀ r, r ≠ 0 → r ≠ 88 → u.1 r = m.1 r) ∧ (∀ i, i ≠ 90 → u.1 0 i = m.1 0 i) ∧ u.2 = m.2 ∧ u.1 0 90 = nI (min 4 (cntB (selP (m.1 12) (m.1 16) (m.1 19) k) n)) ∧ ∀ s, s < min 4 (cntB (selP (m.1 12) (m.1 16) (m.1 19) k) n) → ∃ x, x < n ∧ selP (m.1 12) (m.1 16) (m.1 19) k x = true ∧ cntB (selP (m.1 12) (m.1 16) (m.1 19) k) x = s ∧ u.1 88 s = nI x := by
  obtain ⟨V, hV⟩ : ∃ V, V = selP (m.1 12) (m.1 16) (m.1 19) k := ⟨_, rfl⟩
  rw [← hV]
  unfold f11_stocks
  simp only [nm_p]
  refine loop_inv n (fun p t => p ≤ n ∧ t.1 = nI p ∧ (∀ r, r ≠ 0 → r ≠ 88 → t.2.1 r = m.1 r) ∧ (∀ i, i ≠ 90 → t.2.1 0 i = m.1 0 i) ∧ t.2.2 = m.2 ∧ t.2.1 0 90 = nI (cntB V p) ∧ cntB V p ≤ 4 ∧ ∀ s, s < cntB V p → ∃ x, x < n ∧ V x = true ∧ cntB V x = s ∧ t.2.1 88 s = nI x) _ ?_ n 0 _ (by omega) ⟨by omega, rfl, fun r h1 _ => wI_of h1, fun i hi => if_neg hi, rfl, rfl, Nat.zero_le _, fun s hs => by
    have : cntB V 0 = 0 := rfl
    omega⟩
  rintro p ⟨y, u⟩ ⟨hp, e1, e2, e3, e3', e4, e6, e5⟩
  have e1 : y = nI p := e1
  subst e1
  have e2 : ∀ r, r ≠ 0 → r ≠ 88 → u.1 r = m.1 r := e2
  have e3 : ∀ i, i ≠ 90 → u.1 0 i = m.1 0 i := e3
  have e3' : u.2 = m.2 := e3'
  have e4 : u.1 0 90 = nI (cntB V p) := e4
  have e5 : ∀ s, s < cntB V p → ∃ x, x < n ∧ V x = true ∧ cntB V x = s ∧ u.1 88 s = nI x := e5
  have u3 : u.1 0 3 = nI n := by rw [e3 3 (by decide)]; exact h
  have done : min 4 (cntB V n) = cntB V p → ∃ r, (Option.map Sum.inr (f11_stocks_j70 u) : Option ((Int32 × OS) ⊕ OS)) = some (Sum.inr r) ∧ (∀ r', r' ≠ 0 → r' ≠ 88 → r.1 r' = m.1 r') ∧ (∀ i, i ≠ 90 → r.1 0 i = m.1 0 i) ∧ r.2 = m.2 ∧ r.1 0 90 = nI (min 4 (cntB V n)) ∧ ∀ s, s < min 4 (cntB V n) → ∃ x, x < n ∧ V x = true ∧ cntB V x = s ∧ r.1 88 s = nI x := by
    intro e
    rw [e]
    exact ⟨u, rfl, e2, e3, e3', e4, e5⟩
  have hmono := cntB_mono V (a := p) n hp
  unfold f11_stocks_l7 f11_stocks_j64
  by_cases c : p = n
  · right
    subst c
    show ∃ r, (if u.1 0 3 ≤ nI p then _ else _) = some (Sum.inr r) ∧ _
    rw [u3, if_pos (show nI p ≤ nI p from nI_le (Nat.le_refl _) (by omega))]
    exact done (by omega)
  · have hlt : p < n := by omega
    show (p < n ∧ ∃ t, (if u.1 0 3 ≤ nI p then _ else _) = some (Sum.inl t) ∧ _) ∨ ∃ r, (if u.1 0 3 ≤ nI p then _ else _) = some (Sum.inr r) ∧ _
    rw [u3, if_neg (nI_ge hlt (by omega)), e4]
    by_cases c4 : cntB V p = 4
    · right
      rw [if_pos (show (4 : Int32) ≤ nI (cntB V p) by rw [c4]; decide)]
      exact done (by omega)
    · left
      refine ⟨hlt, ?_⟩
      rw [if_neg (show ¬ (4 : Int32) ≤ nI (cntB V p) from nI_ge (a := cntB V p) (b := 4) (by omega) (by omega)), r_isOpen hn u3, e2 12 (by decide) (by decide), e2 16 (by decide) (by decide), e2 19 (by decide) (by decide)]
      simp only [Option.bind_some, if_b1, nI_clamp (n := p) (by omega), nI_toInt (n := p) (by omega), nm_p, nI_1, inb_n (show p < 150 by omega) (by omega : 150 < 2 ^ 31), chk_p]
      have hno : V p = false → p + 1 ≤ n ∧ nI (p + 1) = nI (p + 1) ∧ (∀ r, r ≠ 0 → r ≠ 88 → u.1 r = m.1 r) ∧ (∀ i, i ≠ 90 → u.1 0 i = m.1 0 i) ∧ u.2 = m.2 ∧ u.1 0 90 = nI (cntB V (p + 1)) ∧ cntB V (p + 1) ≤ 4 ∧ ∀ s, s < cntB V (p + 1) → ∃ x, x < n ∧ V x = true ∧ cntB V x = s ∧ u.1 88 s = nI x := by
        intro hf
        have : cntB V (p + 1) = cntB V p := by
          show cntB V p + (if V p = true then 1 else 0) = _
          rw [hf]; rfl
        rw [this]
        exact ⟨by omega, rfl, e2, e3, e3', e4, e6, e5⟩
      by_cases c2 : m.1 12 p = k
      · rw [if_pos c2]
        by_cases c1 : ((0 ≤ (p : Int) ∧ (p : Int) < n) ∧ (m.1 16 p).toInt < 10) ∧ m.1 19 p = 0
        · have hVp : V p = true := by rw [hV, selP_is]; exact ⟨c2, c1.1.2, c1.2⟩
          have hst := cntB_step hVp
          rw [if_pos c1]
          have m1 : ∀ a b, (wI u 88 a b).1 0 90 = nI (cntB V p) := fun _ _ => e4
          simp only [m1, nI_clamp (n := cntB V p) (by omega), inb_n (show cntB V p < 4 by omega) (by omega : 4 < 2 ^ 31), chk_p, nI_1]
          refine ⟨_, rfl, by omega, rfl, fun r h1 h2 => ?_, fun i hi => ?_, e3', ?_, by omega, fun s hs => ?_⟩
          · show (if r = 0 then _ else if r = 88 then _ else u.1 r) = _
            rw [if_neg h1, if_neg h2]; exact e2 r h1 h2
          · show (if i = 90 then _ else u.1 0 i) = _
            rw [if_neg hi]; exact e3 i hi
          · rw [hst]
            exact wI_at (r := 0) (i := 90)
          · rw [hst] at hs
            show ∃ x, x < n ∧ V x = true ∧ cntB V x = s ∧ (if s = cntB V p then nI p else u.1 88 s) = nI x
            by_cases c5 : s = cntB V p
            · rw [if_pos c5]; exact ⟨p, hlt, hVp, c5.symm, rfl⟩
            · rw [if_neg c5]; exact e5 s (by omega)
        · rw [if_neg c1]
          refine ⟨_, rfl, hno ?_⟩
          cases hf : V p
          · rfl
          · rw [hV, selP_is] at hf
            exact absurd ⟨⟨⟨by omega, by omega⟩, hf.2.1⟩, hf.2.2⟩ c1
      · rw [if_neg c2]
        refine ⟨_, rfl, hno ?_⟩
        cases hf : V p
        · rfl
        · rw [hV, selP_is] at hf; exact absurd hf.1 c2
