-- thing: the nth of a set of pieces, on both sides
def NthS (V : Nat → Bool) (n kk : Nat) (r : Int32) : Prop := (∃ p, p < n ∧ V p = true ∧ cntB V p = kk ∧ r = nI p) ∨ (r = -1 ∧ cntB V n ≤ kk)
theorem cntB_mono (V : Nat → Bool) {a : Nat} : ∀ b, a ≤ b → cntB V a ≤ cntB V b
  | 0, h => by
    have : a = 0 := by omega
    subst this; exact Nat.le_refl _
  | b + 1, h => by
    show cntB V a ≤ cntB V b + (if V b = true then 1 else 0)
    by_cases e : a = b + 1
    · subst e; exact Nat.le_refl _
    · have := cntB_mono V (a := a) b (by omega)
      omega
theorem cntB_const {V : Nat → Bool} {a : Nat} : ∀ b, a ≤ b → (∀ u, a ≤ u → u < b → V u = false) → cntB V b = cntB V a
  | 0, h, _ => by
    have : a = 0 := by omega
    subst this; rfl
  | b + 1, h, hv => by
    by_cases e : a = b + 1
    · subst e; rfl
    · show cntB V b + (if V b = true then 1 else 0) = cntB V a
      rw [cntB_const b (by omega) (fun u h1 h2 => hv u h1 (by omega)), hv b (by omega) (by omega)]
      rfl
theorem cntB_step {V : Nat → Bool} {p : Nat} (h : V p = true) : cntB V (p + 1) = cntB V p + 1 := by
  show cntB V p + (if V p = true then 1 else 0) = _
  rw [if_pos h]
theorem NthS.same {V : Nat → Bool} {n kk : Nat} {r r' : Int32} (h : NthS V n kk r) (h' : NthS V n kk r') : r = r' := by
  have lt : ∀ p q, p < q → V p = true → cntB V p = kk → cntB V q = kk → False := by
    intro p q hpq hv h1 h2
    have := cntB_mono V (a := p + 1) q (by omega)
    rw [cntB_step hv] at this
    omega
  rcases h with ⟨p, h1, h2, h3, h4⟩ | ⟨h1, h2⟩
  · rcases h' with ⟨q, g1, g2, g3, g4⟩ | ⟨g1, g2⟩
    · rw [h4, g4]
      rcases Nat.lt_trichotomy p q with e | e | e
      · exact absurd (lt p q e h2 h3 g3) (by simp)
      · rw [e]
      · exact absurd (lt q p e g2 g3 h3) (by simp)
    · have := cntB_mono V (a := p + 1) n (by omega)
      rw [cntB_step h2] at this
      omega
  · rcases h' with ⟨q, g1, g2, g3, g4⟩ | ⟨g1, g2⟩
    · have := cntB_mono V (a := q + 1) n (by omega)
      rw [cntB_step g2] at this
      omega
    · rw [h1, g1]
theorem asc_cnt {V b : Nat → Bool} {sp : Nat → Nat} {c : Nat} (hV : ∀ u, V u = true ↔ ∃ j, j < c ∧ b j = true ∧ sp j = u) (ha : ∀ i j, i < j → j < c → sp i < sp j) : ∀ j v, j ≤ c → (∀ i, i < j → sp i < v) → (∀ i, j ≤ i → i < c → v ≤ sp i) → cntB V v = cntB b j
  | 0, v, _, _, h2 => by
    have e := cntB_const (V := V) (a := 0) v (by omega) (fun u _ hu => by
      cases hv : V u
      · rfl
      · obtain ⟨j, hj, _, e⟩ := (hV u).mp hv
        have := h2 j (by omega) hj
        omega)
    rw [e]; rfl
  | j + 1, v, hj, h1, h2 => by
    have ih := asc_cnt hV ha j (sp j) (by omega) (fun i hi => ha i j hi (by omega)) (fun i h3 h4 => by
      by_cases e : i = j
      · subst e; exact Nat.le_refl _
      · exact Nat.le_of_lt (ha j i (by omega) h4))
    have hsv := h1 j (by omega)
    have e := cntB_const (V := V) (a := sp j + 1) v (by omega) (fun u h3 h4 => by
      cases hv : V u
      · rfl
      · obtain ⟨i, hi, _, e⟩ := (hV u).mp hv
        rcases Nat.lt_trichotomy i j with e2 | e2 | e2
        · have := ha i j e2 (by omega); omega
        · subst e2; omega
        · have := h2 i (by omega) hi; omega)
    rw [e]
    show cntB V (sp j) + (if V (sp j) = true then 1 else 0) = cntB b j + (if b j = true then 1 else 0)
    rw [ih]
    have hb : V (sp j) = true ↔ b j = true := by
      rw [hV]
      constructor
      · rintro ⟨i, hi, hbi, e3⟩
        rcases Nat.lt_trichotomy i j with e2 | e2 | e2
        · have := ha i j e2 (by omega); omega
        · subst e2; exact hbi
        · have := ha j i e2 hi; omega
      · intro h; exact ⟨j, by omega, h, rfl⟩
    by_cases h : b j = true
    · rw [if_pos h, if_pos (hb.mpr h)]
    · rw [if_neg h, if_neg (fun e => h (hb.mp e))]
theorem c_nthOf {s3 : OS} {V b : Nat → Bool} {sp : Nat → Nat} {c n kk : Nat} (hc : c ≤ 6) (hn : n ≤ 150) (hk : kk < 2 ^ 31) (hs : ∀ j, j < c → s3.1 1 j = nI (sp j) ∧ sp j < n) (hb : ∀ j, c ≤ j → b j = false) (hV : ∀ u, V u = true ↔ ∃ j, j < c ∧ b j = true ∧ sp j = u) (ha : ∀ i j, i < j → j < c → sp i < sp j) : ∃ r, f3_nthOf (nI (mkB b 16)) (nI kk) s3 = some r ∧ NthS V n kk r := by
  unfold f3_nthOf
  refine loop_inv 6 (fun j s => j ≤ 6 ∧ s.2 = nI j ∧ s.1 = nI (cntB b j) ∧ cntB b j ≤ kk) _ ?_ 6 0 _ (by omega) ⟨by omega, rfl, rfl, Nat.zero_le _⟩
  rintro j ⟨x, y⟩ ⟨hj, e1, e2, e3⟩
  have e1 : y = nI j := e1
  have e2 : x = nI (cntB b j) := e2
  subst e1 e2
  have hle := cntB_le b j
  unfold f3_nthOf_l5 f3_nthOf_j37
  by_cases h6 : j = 6
  · right
    subst h6
    refine ⟨-1, ?_, Or.inr ⟨rfl, ?_⟩⟩
    · show (if (6 : Int32) ≤ nI 6 then _ else _) = _
      rw [if_pos (show (6 : Int32) ≤ nI 6 from by decide)]; rfl
    · rw [asc_cnt hV ha c n (Nat.le_refl _) (fun i hi => (hs i hi).2) (fun i h1 h2 => by omega)]
      exact Nat.le_trans (cntB_mono b 6 hc) e3
  · have hlt : j < 6 := by omega
    show _ ∨ ∃ r, (if (6 : Int32) ≤ nI j then _ else _) = some (Sum.inr r) ∧ _
    simp only [nm_p, nI_1]
    rw [if_neg (show ¬ (6 : Int32) ≤ nI j from nI_ge (a := j) (b := 6) hlt (by omega))]
    by_cases hbj : b j = false
    · left
      refine ⟨hlt, ?_⟩
      rw [if_pos (mkB_test (b := b) (by omega) |>.mpr hbj)]
      have ec : cntB b (j + 1) = cntB b j := by
        show cntB b j + (if b j = true then 1 else 0) = _
        rw [hbj]; rfl
      exact ⟨_, rfl, by omega, rfl, by rw [ec], by rw [ec]; exact e3⟩
    · have hbt : b j = true := by simpa using hbj
      have hjc : j < c := by
        rcases Nat.lt_or_ge j c with e | e
        · exact e
        · exact absurd (hb j e) hbj
      obtain ⟨g1, g2⟩ := hs j hjc
      rw [if_neg (fun e => hbj ((mkB_test (b := b) (by omega)).mp e))]
      by_cases hk2 : cntB b j = kk
      · right
        rw [if_pos (congrArg nI hk2), inb_n hlt (by omega), chk_p, nI_clamp (by omega), g1]
        refine ⟨_, rfl, Or.inl ⟨sp j, g2, (hV _).mpr ⟨j, hjc, hbt, rfl⟩, ?_, rfl⟩⟩
        rw [asc_cnt hV ha j (sp j) (by omega) (fun i hi => ha i j hi hjc) (fun i h3 h4 => by
          by_cases e : i = j
          · subst e; exact Nat.le_refl _
          · exact Nat.le_of_lt (ha j i (by omega) h4))]
        exact hk2
      · left
        refine ⟨hlt, ?_⟩
        rw [if_neg (fun e => hk2 ((nI_eq (by omega) (by omega)).mp e))]
        exact ⟨_, rfl, by omega, rfl, by rw [cntB_step hbt], by rw [cntB_step hbt]; omega⟩
theorem r_lowest {m : OS} {V b : Nat → Bool} {pp : Nat → Nat} {c n kk : Nat} (hc : c ≤ 6) (hn : n ≤ 150) (hk : kk < 2 ^ 31) (h3 : m.1 0 3 = nI n) (h68 : m.1 0 68 = nI c) (hs : ∀ i, i < c → m.1 71 i = nI (pp i) ∧ pp i < n) (hV : ∀ u, V u = true ↔ ∃ i, i < c ∧ b i = true ∧ pp i = u) (hd : ∀ i j, i < c → j < c → pp i = pp j → i = j) : ∃ r, f11_lowest (nI (mkB b 16)) (nI kk) m = some r ∧ NthS V n kk r := by
  have inner : ∀ v, v < n → cntB V v ≤ kk → ∃ r, loop (f11_lowest_l17 (nI (mkB b 16)) (nI kk) (nI v) m) (nI (cntB V v), (0 : Int32)) = some r ∧ ((r = Sum.inl (nI (cntB V (v + 1)), nI (v + 1)) ∧ cntB V (v + 1) ≤ kk) ∨ (r = Sum.inr (nI v) ∧ V v = true ∧ cntB V v = kk)) := by
    intro v hv hle
    have hVv := cntB_le V v
    refine loop_inv c (fun i s => i ≤ c ∧ s.2 = nI i ∧ (((∀ i', i' < i → ¬ (b i' = true ∧ pp i' = v)) ∧ s.1 = nI (cntB V v)) ∨ ((∃ i', i' < i ∧ b i' = true ∧ pp i' = v) ∧ s.1 = nI (cntB V v + 1) ∧ cntB V v + 1 ≤ kk))) _ ?_ c 0 _ (by omega) ⟨by omega, rfl, Or.inl ⟨fun i hi => by omega, rfl⟩⟩
    rintro i ⟨x, y⟩ ⟨hi, e1, hx⟩
    have e1 : y = nI i := e1
    subst e1
    have hx : ((∀ i', i' < i → ¬ (b i' = true ∧ pp i' = v)) ∧ x = nI (cntB V v)) ∨ ((∃ i', i' < i ∧ b i' = true ∧ pp i' = v) ∧ x = nI (cntB V v + 1) ∧ cntB V v + 1 ≤ kk) := hx
    unfold f11_lowest_l17 f11_lowest_j61
    by_cases hic : i = c
    · right
      subst hic
      refine ⟨Sum.inl (x, nI (v + 1)), ?_, Or.inl ?_⟩
      · show (if m.1 0 68 ≤ nI i then _ else _) = _
        rw [h68, if_pos (show nI i ≤ nI i from nI_le (Nat.le_refl _) (by omega)), nm_p, nI_1]; rfl
      · rcases hx with ⟨h1, rfl⟩ | ⟨h1, rfl, h2⟩
        · have hf : V v = false := by
            cases hvv : V v
            · rfl
            · obtain ⟨i', g1, g2, g3⟩ := (hV v).mp hvv
              exact absurd ⟨g2, g3⟩ (h1 i' g1)
          have : cntB V (v + 1) = cntB V v := by
            show cntB V v + (if V v = true then 1 else 0) = _
            rw [hf]; rfl
          rw [this]; exact ⟨rfl, hle⟩
        · obtain ⟨i', g1, g2⟩ := h1
          rw [cntB_step ((hV v).mpr ⟨i', g1, g2⟩)]
          exact ⟨rfl, h2⟩
    · have hlt : i < c := by omega
      obtain ⟨g1, g2⟩ := hs i hlt
      show (i < c ∧ ∃ t, (if m.1 0 68 ≤ nI i then _ else _) = some (Sum.inl t) ∧ _) ∨ ∃ r, (if m.1 0 68 ≤ nI i then _ else _) = some (Sum.inr r) ∧ _
      simp only [h68, if_neg (nI_ge hlt (show c < 2 ^ 31 by omega)), r_has (b := b) (show i < 16 by omega), Option.bind_some, nI_clamp (n := i) (by omega), inb_n (show i < 6 by omega) (by omega : 6 < 2 ^ 31), chk_p, nm_p, g1, nI_1]
      by_cases hb : b i = true
      · rw [b1_t hb, if_neg (show ¬ (1 : Int32) = 0 by decide)]
        by_cases hp : pp i = v
        · rw [if_pos (congrArg nI hp)]
          rcases hx with ⟨h1, rfl⟩ | ⟨⟨i', h1, h2, h3'⟩, _, _⟩
          · by_cases hkk : cntB V v = kk
            · right
              rw [if_pos (congrArg nI hkk)]
              exact ⟨_, rfl, Or.inr ⟨rfl, (hV v).mpr ⟨i, hlt, hb, hp⟩, hkk⟩⟩
            · left
              rw [if_neg (fun e => hkk ((nI_eq (by omega) (by omega)).mp e))]
              exact ⟨hlt, _, rfl, by omega, rfl, Or.inr ⟨⟨i, by omega, hb, hp⟩, nI_1 _, by omega⟩⟩
          · have := hd i' i (by omega) hlt (h3'.trans hp.symm)
            omega
        · left
          rw [if_neg (fun e => hp ((nI_eq (by omega) (by omega)).mp e))]
          refine ⟨hlt, _, rfl, by omega, rfl, ?_⟩
          rcases hx with ⟨h1, h2⟩ | ⟨⟨i', h1, h2⟩, h4⟩
          · refine Or.inl ⟨fun i' hi' => ?_, h2⟩
            by_cases e : i' = i
            · subst e; exact fun e => hp e.2
            · exact h1 i' (by omega)
          · exact Or.inr ⟨⟨i', by omega, h2⟩, h4⟩
      · left
        rw [b1_f hb, if_pos (show (0 : Int32) = 0 from rfl)]
        refine ⟨hlt, _, rfl, by omega, rfl, ?_⟩
        rcases hx with ⟨h1, h2⟩ | ⟨⟨i', h1, h2⟩, h4⟩
        · refine Or.inl ⟨fun i' hi' => ?_, h2⟩
          by_cases e : i' = i
          · subst e; exact fun e => hb e.1
          · exact h1 i' (by omega)
        · exact Or.inr ⟨⟨i', by omega, h2⟩, h4⟩
  unfold f11_lowest
  refine loop_inv n (fun v s => v ≤ n ∧ s.2 = nI v ∧ s.1 = nI (cntB V v) ∧ cntB V v ≤ kk) _ ?_ n 0 _ (by omega) ⟨by omega, rfl, rfl, Nat.zero_le _⟩
  rintro v ⟨x, y⟩ ⟨hv, e1, e2, e3⟩
  have e1 : y = nI v := e1
  have e2 : x = nI (cntB V v) := e2
  subst e1 e2
  unfold f11_lowest_l5
  by_cases hvn : v = n
  · right
    subst hvn
    refine ⟨-1, ?_, Or.inr ⟨rfl, e3⟩⟩
    show (if m.1 0 3 ≤ nI v then _ else _) = _
    rw [h3, if_pos (show nI v ≤ nI v from nI_le (Nat.le_refl _) (by omega))]; rfl
  · have hlt : v < n := by omega
    obtain ⟨r, k1, k2⟩ := inner v hlt e3
    show (v < n ∧ ∃ t, (if m.1 0 3 ≤ nI v then _ else _) = some (Sum.inl t) ∧ _) ∨ ∃ r, (if m.1 0 3 ≤ nI v then _ else _) = some (Sum.inr r) ∧ _
    rw [h3, if_neg (nI_ge hlt (by omega)), k1]
    rcases k2 with ⟨rfl, k3⟩ | ⟨rfl, k3, k4⟩
    · exact Or.inl ⟨hlt, _, rfl, by omega, rfl, rfl, k3⟩
    · exact Or.inr ⟨_, rfl, Or.inl ⟨v, hlt, k3, k4, rfl⟩⟩
