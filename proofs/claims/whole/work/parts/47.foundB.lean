-- found: what fits, on both sides
theorem subL_toInt {a c : Int64} (h1 : -9223372036854775808 ≤ a.toInt - c.toInt) (h2 : a.toInt - c.toInt < 9223372036854775808) : (a - c).toInt = a.toInt - c.toInt := by
  rw [Int64.toInt_sub]
  exact Int.bmod_eq_of_le (by omega) (by omega)
def FitP (w k : Nat → Int32) (rd sl kd : Int32) (p : Nat) : Prop := ((w p).toInt - rd.toInt ≤ sl.toInt ∧ rd.toInt - (w p).toInt ≤ sl.toInt) ∧ (kd = 8 ∨ kd = k p)
theorem c_fitting {n c : Nat} {s3 s4 : OS} {sp : Nat → Nat} {rd sl kd : Int32} (hn : n ≤ 150) (h : s4.1 0 10 = nI n) (hc : c ≤ 6) (h3 : s3.1 0 3 = nI c) (hs : ∀ j, j < c → s3.1 1 j = nI (sp j) ∧ sp j < n) (hw : ∀ p, p < n → bw 0 1000000000 (s4.1 3 p)) (hrd : bw 0 1000001000 rd) : ∃ b, f3_fitting rd sl kd s3 s4 = some (nI (mkB b 16)) ∧ (∀ j, j < c → (b j = true ↔ FitP (s4.1 3) (s4.1 1) rd sl kd (sp j))) ∧ ∀ j, c ≤ j → b j = false := by
  unfold f3_fitting
  have key : ∃ r, loop (f3_fitting_l6 rd sl kd s3 s4) ((0 : Int32), (0 : Int32)) = some r ∧ ∃ b, r = nI (mkB b 16) ∧ (∀ j, j < c → (b j = true ↔ FitP (s4.1 3) (s4.1 1) rd sl kd (sp j))) ∧ ∀ j, c ≤ j → b j = false := by
    refine loop_inv c (fun i s => i ≤ c ∧ s.2 = nI i ∧ ∃ b, s.1 = nI (mkB b 16) ∧ (∀ j, j < i → (b j = true ↔ FitP (s4.1 3) (s4.1 1) rd sl kd (sp j))) ∧ ∀ j, i ≤ j → b j = false) _ ?_ c 0 _ (by omega) ⟨by omega, rfl, fun _ => false, rfl, fun j hj => by omega, fun _ _ => rfl⟩
    rintro i ⟨x, y⟩ ⟨hi, e1, b, e2, hb1, hb2⟩
    have e1 : y = nI i := e1
    have e2 : x = nI (mkB b 16) := e2
    subst e1 e2
    unfold f3_fitting_l6 f3_fitting_j69 f3_fitting_j78 f3_fitting_j84
    by_cases hic : i = c
    · right
      subst hic
      refine ⟨_, ?_, b, rfl, hb1, hb2⟩
      show (if s3.1 0 3 ≤ nI i then _ else _) = _
      rw [h3, if_pos (show nI i ≤ nI i from nI_le (Nat.le_refl _) (by omega))]; rfl
    · left
      have hlt : i < c := by omega
      refine ⟨hlt, ?_⟩
      obtain ⟨g1, g2⟩ := hs i hlt
      obtain ⟨w1, w2⟩ := hw (sp i) g2
      obtain ⟨r1, r2⟩ := hrd
      show ∃ t, (if s3.1 0 3 ≤ nI i then _ else _) = some (Sum.inl t) ∧ _
      rw [h3, if_neg (nI_ge hlt (by omega)), if_neg (show ¬ (6 : Int32) ≤ nI i from nI_ge (a := i) (b := 6) (by omega) (by omega))]
      simp only [nI_clamp (n := i) (by omega), inb_n (show i < 6 by omega) (by omega : 6 < 2 ^ 31), chk_p, nm_p, g1, c_weightOfP hn h g2, c_kindOfP hn h g2, Option.bind_some, nI_1]
      have d1 : (s4.1 3 (sp i) - rd).toInt = (s4.1 3 (sp i)).toInt - rd.toInt := sub_toInt (by omega) (by omega)
      have z0 : (0 : Int32).toInt = 0 := rfl
      obtain ⟨D, hD⟩ : ∃ D : Int32, D = (if 0 ≤ s4.1 3 (sp i) - rd then s4.1 3 (sp i) - rd else 0 - (s4.1 3 (sp i) - rd)) := ⟨_, rfl⟩
      have hDv : (0 ≤ (s4.1 3 (sp i)).toInt - rd.toInt ∧ D.toInt = (s4.1 3 (sp i)).toInt - rd.toInt) ∨ ((s4.1 3 (sp i)).toInt - rd.toInt < 0 ∧ D.toInt = rd.toInt - (s4.1 3 (sp i)).toInt) := by
        by_cases e : 0 ≤ s4.1 3 (sp i) - rd
        · rw [if_pos e] at hD
          have e' := Int32.le_iff_toInt_le.mp e
          rw [hD]; exact Or.inl ⟨by omega, d1⟩
        · rw [if_neg e] at hD
          have e' : ¬ (0 : Int32).toInt ≤ (s4.1 3 (sp i) - rd).toInt := fun h => e (Int32.le_iff_toInt_le.mpr h)
          have := sub_toInt (a := 0) (c := s4.1 3 (sp i) - rd) (by omega) (by omega)
          rw [hD]; exact Or.inr ⟨by omega, by omega⟩
      rw [← hD]
      have skip : ¬ FitP (s4.1 3) (s4.1 1) rd sl kd (sp i) → i + 1 ≤ c ∧ nI (i + 1) = nI (i + 1) ∧ ∃ b', nI (mkB b 16) = nI (mkB b' 16) ∧ (∀ j, j < i + 1 → (b' j = true ↔ FitP (s4.1 3) (s4.1 1) rd sl kd (sp j))) ∧ ∀ j, i + 1 ≤ j → b' j = false := by
        intro hf
        refine ⟨by omega, rfl, b, rfl, fun j hj => ?_, fun j hj => hb2 j (by omega)⟩
        by_cases e : j = i
        · subst e
          rw [hb2 j (Nat.le_refl _)]
          exact ⟨fun e => (by cases e), fun e => absurd e hf⟩
        · exact hb1 j (by omega)
      have take : FitP (s4.1 3) (s4.1 1) rd sl kd (sp i) → i + 1 ≤ c ∧ nI (i + 1) = nI (i + 1) ∧ ∃ b', nI (mkB b 16) ||| (1 : Int32) <<< (nI i &&& 31) = nI (mkB b' 16) ∧ (∀ j, j < i + 1 → (b' j = true ↔ FitP (s4.1 3) (s4.1 1) rd sl kd (sp j))) ∧ ∀ j, i + 1 ≤ j → b' j = false := by
        intro hf
        refine ⟨by omega, rfl, _, mkB_set (by omega), fun j hj => ?_, fun j hj => ?_⟩
        · rw [Bool.or_eq_true, decide_eq_true_eq]
          by_cases e : j = i
          · subst e; exact ⟨fun _ => hf, fun _ => Or.inr rfl⟩
          · rw [hb1 j (by omega)]; exact ⟨fun e2 => e2.elim id (fun e2 => absurd e2 e), Or.inl⟩
        · have e : ¬ j = i := by omega
          show (b j || decide (j = i)) = false
          rw [hb2 j (by omega)]; simp [e]
      by_cases c1 : sl < D
      · rw [if_pos c1]
        have c1' := Int32.lt_iff_toInt_lt.mp c1
        exact ⟨_, rfl, skip (fun hf => by have := hf.1; omega)⟩
      · rw [if_neg c1]
        have c1' : ¬ sl.toInt < D.toInt := fun e => c1 (Int32.lt_iff_toInt_lt.mpr e)
        by_cases c2 : kd = 8
        · rw [if_pos c2]
          exact ⟨_, rfl, take ⟨by omega, Or.inl c2⟩⟩
        · rw [if_neg c2]
          by_cases c3 : kd = s4.1 1 (sp i)
          · rw [if_pos c3]
            exact ⟨_, rfl, take ⟨by omega, Or.inr c3⟩⟩
          · rw [if_neg c3]
            exact ⟨_, rfl, skip (fun hf => hf.2.elim c2 c3)⟩
  obtain ⟨r, k1, b, rfl, k2⟩ := key
  exact ⟨b, k1, k2⟩
theorem r_isFit {m : OS} {n i j p : Nat} [Decidable (FitP (m.1 14) (m.1 12) (m.1 72 i) (m.1 73 i) (m.1 74 i) p)] (hn : n ≤ 150) (hi : i < 6) (hj : j < 6) (hp : p < n) (h71 : m.1 71 j = nI p) (hw : bw 0 1000000000 (m.1 14 p)) (hrd : bw 0 1000001000 (m.1 72 i)) : f11_isFit (nI i) (nI j) m = some (b1 (FitP (m.1 14) (m.1 12) (m.1 72 i) (m.1 73 i) (m.1 74 i) p)) := by
  unfold f11_isFit f11_isFit_j33 f11_isFit_j77 f11_isFit_j81 f11_isFit_j82
  obtain ⟨w1, w2⟩ := hw
  obtain ⟨r1, r2⟩ := hrd
  simp only [nI_clamp (n := i) (by omega), nI_clamp (n := j) (by omega), nI_clamp (n := p) (by omega), inb_n hi (by omega : 6 < 2 ^ 31), inb_n hj (by omega : 6 < 2 ^ 31), inb_n (show p < 150 by omega) (by omega : 150 < 2 ^ 31), chk_p, nm_p, h71]
  have d1 : ((m.1 14 p).toInt64 - (m.1 72 i).toInt64).toInt = (m.1 14 p).toInt - (m.1 72 i).toInt := by
    have := subL_toInt (a := (m.1 14 p).toInt64) (c := (m.1 72 i).toInt64) (by rw [Int32.toInt_toInt64, Int32.toInt_toInt64]; omega) (by rw [Int32.toInt_toInt64, Int32.toInt_toInt64]; omega)
    rw [this, Int32.toInt_toInt64, Int32.toInt_toInt64]
  have z0 : (0 : Int64).toInt = 0 := rfl
  have fin : ∀ D : Int64, ((0 ≤ (m.1 14 p).toInt - (m.1 72 i).toInt ∧ D.toInt = (m.1 14 p).toInt - (m.1 72 i).toInt) ∨ ((m.1 14 p).toInt - (m.1 72 i).toInt < 0 ∧ D.toInt = (m.1 72 i).toInt - (m.1 14 p).toInt)) →
      (if 0 < lg_cmp D (m.1 73 i).toInt64 then chk (isB (0 : Int32)) (some (0 : Int32)) else if m.1 74 i = 8 then chk (isB (1 : Int32)) (some (1 : Int32)) else if m.1 74 i = m.1 12 p then chk (isB (1 : Int32)) (some (1 : Int32)) else chk (isB (0 : Int32)) (some (0 : Int32))) = some (b1 (FitP (m.1 14) (m.1 12) (m.1 72 i) (m.1 73 i) (m.1 74 i) p)) := by
    intro D hD
    by_cases c1 : 0 < lg_cmp D (m.1 73 i).toInt64
    · have c1' := (lg_gt0 _ _).mp c1
      rw [Int32.toInt_toInt64] at c1'
      rw [if_pos c1, b1_f (fun hf => by have := hf.1; omega)]; rfl
    · have c1' : ¬ (m.1 73 i).toInt < D.toInt := fun e => c1 ((lg_gt0 _ _).mpr (by rw [Int32.toInt_toInt64]; exact e))
      rw [if_neg c1]
      by_cases c2 : m.1 74 i = 8
      · rw [if_pos c2, b1_t ⟨by omega, Or.inl c2⟩]; rfl
      · rw [if_neg c2]
        by_cases c3 : m.1 74 i = m.1 12 p
        · rw [if_pos c3, b1_t ⟨by omega, Or.inr c3⟩]; rfl
        · rw [if_neg c3, b1_f (fun hf => hf.2.elim c2 c3)]; rfl
  by_cases e : 0 ≤ lg_cmp ((m.1 14 p).toInt64 - (m.1 72 i).toInt64) 0
  · have e' := (lg_ge0 _ _).mp e
    rw [if_pos e]
    exact fin _ (Or.inl ⟨by omega, d1⟩)
  · have e' : ¬ (0 : Int64).toInt ≤ ((m.1 14 p).toInt64 - (m.1 72 i).toInt64).toInt := fun h => e ((lg_ge0 _ _).mpr h)
    rw [if_neg e]
    have := subL_toInt (a := 0) (c := (m.1 14 p).toInt64 - (m.1 72 i).toInt64) (by omega) (by omega)
    exact fin _ (Or.inr ⟨by omega, by omega⟩)
