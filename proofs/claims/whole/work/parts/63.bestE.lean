-- judge, best: the reference's row
def MsH (a st L : Nat) (w v W : Nat → Nat) (q M : Nat → Int32) (P : Nat → Nat) (m : OS) : Prop := (a ≤ 6 ∧ st ≤ 4 ∧ L ≤ 1000000) ∧ (m.1 0 10 = nI a ∧ m.1 0 90 = nI st ∧ m.1 0 89 = nI L) ∧ (∀ i, i < a → m.1 85 i = nI (w i) ∧ m.1 86 i = nI (v i) ∧ m.1 87 i = q i ∧ w i ≤ 1000000000 ∧ v i ≤ 1000) ∧ ∀ s, s < st → (m.1 88 s = nI (P s) ∧ P s < 150) ∧ m.1 14 (P s) = nI (W s) ∧ m.1 15 (P s) = M s ∧ W s ≤ 1000000000
/-- one place's part of what is right -/
def Rg1 (a st L : Nat) (w W : Nat → Nat) (q M : Nat → Int32) (e : Nat → Nat) (s : Nat) : Prop := (∀ i, i < a → e i = s → okQ st M q s i) ∧ fitS L (tkS w e s a) (nuS e s a) (W s)
def woP (v e : Nat → Nat) (a s : Nat) : Nat := sumB (fun k => sumB (fun j => if e j = k then v j else 0) a) s
theorem woP_all {v e : Nat → Nat} {a : Nat} (h : ∀ j, j < a → e j ≤ 4) : woP v e a 4 = woS v e a := by
  unfold woP woS
  rw [sumB_swap]
  refine sumB_congr a (fun j hj => ?_)
  have h4 := h j hj
  have e1 : sumB (fun k => if e j = k then v j else 0) 4 = sumB (fun k => if k = e j then v j else 0) 4 := sumB_congr 4 (fun k _ => by
    by_cases c : e j = k
    · rw [if_pos c, if_pos c.symm]
    · rw [if_neg c, if_neg (fun z => c z.symm)])
  rw [e1, sumB_pick]
  by_cases c : e j = 4
  · rw [if_neg (by omega), if_pos c]
  · rw [if_pos (by omega), if_neg c]
theorem woP_le {v e : Nat → Nat} {a : Nat} (ha : a ≤ 6) (hv : ∀ j, j < a → v j ≤ 1000) (s : Nat) (hs : s ≤ 4) : woP v e a s ≤ 24000 := by
  have h1 : woP v e a s ≤ s * 6000 := sumB_le s (fun k _ => by
    have := sumB_le (g := fun j => if e j = k then v j else 0) (b := 1000) a (fun j hj => by
      by_cases c : e j = k
      · simp only [if_pos c]; exact hv j hj
      · simp only [if_neg c]; exact Nat.zero_le _)
    exact Nat.le_trans this (show a * 1000 ≤ 6000 by omega))
  exact Nat.le_trans h1 (show s * 6000 ≤ 24000 by omega)
theorem r_row1 {a st L : Nat} {w v W : Nat → Nat} {q M : Nat → Int32} {P : Nat → Nat} {m : OS} {e : Nat → Nat} {s : Nat} (h : MsH a st L w v W q M P m) (he : ∀ i, i < a → m.1 89 i = nI (e i) ∧ e i ≤ 4) (hs : s < 4) :
    ∃ r, loop (f11_worthOfRow_l22 (nI s) m) (nI (woP v e a s), (0 : Int64), (0 : Int32), (0 : Int32)) = some r ∧ ((Rg1 a st L w W q M e s ∧ ∃ m', r = Sum.inl (nI (woP v e a (s + 1)), nI (s + 1), m') ∧ m'.1 = m.1 ∧ (∀ r, r ≠ 0 → m'.2 r = m.2 r) ∧ (∀ i, i ≠ 91 → m'.2 0 i = m.2 0 i) ∧ ((0 ≤ (m.2 0 91).toInt ∧ (m.2 0 91).toInt ≤ 24000000) → (m'.2 0 91).toInt = (m.2 0 91).toInt + (los1 L (tkS w e s a) (nuS e s a) (W s) : Nat))) ∨ (¬ Rg1 a st L w W q M e s ∧ r = Sum.inr (-1, m))) := by
  obtain ⟨⟨h1, h2, h3⟩, ⟨g1, g2, g3⟩, g4, g5⟩ := h
  refine loop_inv a (fun i (t : Int32 × Int64 × Int32 × Int32) => i ≤ a ∧ t.2.2.2 = nI i ∧ t.1 = nI (woP v e a s + sumB (fun j => if e j = s then v j else 0) i) ∧ t.2.1.toInt = (tkS w e s i : Nat) ∧ t.2.2.1 = nI (nuS e s i) ∧ ∀ j, j < i → e j = s → okQ st M q s j) _ ?_ a 0 _ (by omega) ⟨by omega, rfl, rfl, rfl, rfl, fun j hj => by omega⟩
  rintro i ⟨x, su, nn, y⟩ ⟨hi, e1, e2, e3, e4, e5⟩
  have e1 : y = nI i := e1
  have e2 : x = nI (woP v e a s + sumB (fun j => if e j = s then v j else 0) i) := e2
  have e3 : su.toInt = (tkS w e s i : Nat) := e3
  have e4 : nn = nI (nuS e s i) := e4
  subst e1 e2 e4
  have hnu := nuS_le e s i
  have htk := tkS_le (w := w) (b := 1000000000) e s i (fun j hj => (g4 j (by omega)).2.2.2.1)
  have htk : tkS w e s i ≤ 6 * 1000000000 := Nat.le_trans htk (Nat.mul_le_mul_right _ (by omega))
  unfold f11_worthOfRow_l22 f11_worthOfRow_j202 f11_worthOfRow_j75 f11_worthOfRow_j101
  by_cases c : i = a
  · right
    subst c
    show ∃ r, (if m.1 0 10 ≤ nI i then _ else _) = some (Sum.inr r) ∧ _
    rw [g1, if_pos (show nI i ≤ nI i from nI_le (Nat.le_refl _) (by omega))]
    have wo1 : woP v e i (s + 1) = woP v e i s + sumB (fun j => if e j = s then v j else 0) i := rfl
    rw [← wo1]
    by_cases c0 : nuS e s i = 0
    · refine ⟨Sum.inl (nI (woP v e i (s + 1)), nI (s + 1), m), ?_, Or.inl ⟨⟨e5, Or.inl c0⟩, m, rfl, rfl, fun _ _ => rfl, fun _ _ => rfl, fun _ => ?_⟩⟩
      · show Option.map Sum.inr (if nI (nuS e s i) = 0 then _ else _) = _
        rw [if_pos (show nI (nuS e s i) = 0 by rw [c0]; rfl), nm_p, nI_1]; rfl
      · unfold los1; rw [if_pos c0]; omega
    · obtain ⟨j, hj, hjs⟩ := sumB_pos i (show 0 < sumB (fun j => if e j = s then 1 else 0) i from Nat.pos_of_ne_zero c0)
      have hej : e j = s := by
        by_cases c : e j = s
        · exact c
        · rw [if_neg c] at hjs; omega
      have hst := (e5 j hj hej).1
      obtain ⟨⟨w1, w2⟩, w3, w4, w5⟩ := g5 s hst
      have hmul1 := nl_mul (n := nuS e s i - 1) (L := L) (by omega) h3
      have hmul0 := nl_mul (n := nuS e s i) (L := L) (by omega) h3
      have hmle1 : (nuS e s i - 1) * L ≤ 10 * 1000000 := Nat.mul_le_mul (by omega) h3
      have hmle0 : nuS e s i * L ≤ 10 * 1000000 := Nat.mul_le_mul (by omega) h3
      have hW := nl_toInt (x := W s) (by omega)
      have en64 : (nI (nuS e s i)).toInt64 - (1 : Int64) = (nI (nuS e s i - 1)).toInt64 := by
        rw [← Int64.toInt_inj, subL_toInt (by rw [nl_toInt (by omega)]; have : (1 : Int64).toInt = 1 := rfl; omega) (by rw [nl_toInt (by omega)]; have : (1 : Int64).toInt = 1 := rfl; omega), nl_toInt (by omega), nl_toInt (by omega)]
        have : (1 : Int64).toInt = 1 := rfl
        omega
      have en32 : nI (nuS e s i) - (1 : Int32) = nI (nuS e s i - 1) := by rw [show (1 : Int32) = nI 1 from rfl, pk_sub (by omega)]
      -- the last look, with k cuts
      have last : ∀ k : Nat, k ≤ 6 → los1 L (tkS w e s i) (nuS e s i) (W s) = k * L → (tkS w e s i + k * L ≤ W s ↔ fitS L (tkS w e s i) (nuS e s i) (W s)) → ∃ r, (Option.map Sum.inr (f11_worthOfRow_j153 (nI (woP v e i (s + 1))) (nI s) su (nI k) m) : Option ((Int32 × Int64 × Int32 × Int32) ⊕ ((Int32 × Int32 × OS) ⊕ (Int32 × OS)))) = some (Sum.inr r) ∧ ((Rg1 i st L w W q M e s ∧ ∃ m', r = Sum.inl (nI (woP v e i (s + 1)), nI (s + 1), m') ∧ m'.1 = m.1 ∧ (∀ r, r ≠ 0 → m'.2 r = m.2 r) ∧ (∀ i, i ≠ 91 → m'.2 0 i = m.2 0 i) ∧ ((0 ≤ (m.2 0 91).toInt ∧ (m.2 0 91).toInt ≤ 24000000) → (m'.2 0 91).toInt = (m.2 0 91).toInt + (los1 L (tkS w e s i) (nuS e s i) (W s) : Nat))) ∨ (¬ Rg1 i st L w W q M e s ∧ r = Sum.inr (-1, m))) := by
        intro k hk hlos hfit
        have hmul := nl_mul (n := k) (L := L) (by omega) h3
        have hmle : k * L ≤ 10 * 1000000 := Nat.mul_le_mul (by omega) h3
        unfold f11_worthOfRow_j153 f11_worthOfRow_j202
        simp only [nI_clamp (n := s) (by omega), nI_clamp (n := P s) (by omega), inb_n hs (by omega : 4 < 2 ^ 31), inb_n w2 (by omega : 150 < 2 ^ 31), chk_p, nm_p, w1, w3, g3, nI_1]
        have d1 := addL_toInt (a := su) (c := (nI k).toInt64 * (nI L).toInt64) (by rw [e3, hmul]; omega) (by rw [e3, hmul]; omega)
        rw [e3, hmul] at d1
        by_cases c1 : tkS w e s i + k * L ≤ W s
        · rw [if_pos ((lg_le0 _ _).mpr (by rw [hW, d1]; omega))]
          refine ⟨_, rfl, Or.inl ⟨⟨e5, hfit.mp c1⟩, _, rfl, rfl, fun r hr => if_neg hr, fun j hj => if_neg hj, fun hb => ?_⟩⟩
          show (m.2 0 91 + (nI k).toInt64 * (nI L).toInt64).toInt = _
          rw [addL_toInt (by rw [hmul]; omega) (by rw [hmul]; omega), hmul, hlos]
        · rw [if_neg (fun z => by have := (lg_le0 _ _).mp z; rw [hW, d1] at this; omega)]
          exact ⟨_, rfl, Or.inr ⟨fun z => c1 (hfit.mpr z.2), rfl⟩⟩
      rw [if_neg (show ¬ nI (nuS e s i) = (0 : Int32) from fun z => c0 ((nI_eq (a := nuS e s i) (b := 0) (by omega) (by omega)).mp z))]
      simp only [nI_clamp (n := s) (by omega), nI_clamp (n := P s) (by omega), inb_n hs (by omega : 4 < 2 ^ 31), inb_n w2 (by omega : 150 < 2 ^ 31), chk_p, nm_p, w1, w3, g3]
      have d1 := addL_toInt (a := su) (c := (nI (nuS e s i - 1)).toInt64 * (nI L).toInt64) (by rw [e3, hmul1]; omega) (by rw [e3, hmul1]; omega)
      rw [e3, hmul1] at d1
      have e0 : (lg_cmp (su + ((nI (nuS e s i)).toInt64 - (1 : Int64)) * (nI L).toInt64) (nI (W s)).toInt64 = 0) ↔ tkS w e s i + (nuS e s i - 1) * L = W s := by
        rw [lg_eq0, ← Int64.toInt_inj, en64, d1, hW]
        omega
      by_cases c1 : tkS w e s i + (nuS e s i - 1) * L = W s
      · rw [if_pos (e0.mpr c1), en32]
        refine last _ (by omega) ?_ ⟨fun _ => Or.inr (Or.inl c1), fun _ => by omega⟩
        unfold los1; rw [if_neg c0, if_pos c1]
      · rw [if_neg (fun z => c1 (e0.mp z))]
        refine last _ (by omega) ?_ ⟨fun z => Or.inr (Or.inr z), fun z => ?_⟩
        · unfold los1; rw [if_neg c0, if_neg c1]
        · rcases z with z | z | z
          · exact absurd z c0
          · exact absurd z c1
          · exact z
  · have hlt : i < a := by omega
    obtain ⟨k1, k2, k3, k4, k5⟩ := g4 i hlt
    obtain ⟨z1, z2⟩ := he i hlt
    show (i < a ∧ ∃ t, (if m.1 0 10 ≤ nI i then _ else _) = some (Sum.inl t) ∧ _) ∨ ∃ r, (if m.1 0 10 ≤ nI i then _ else _) = some (Sum.inr r) ∧ _
    rw [g1, if_neg (nI_ge hlt (by omega))]
    simp only [nI_clamp (n := i) (by omega), inb_n (show i < 6 by omega) (by omega : 6 < 2 ^ 31), chk_p, nm_p, z1, k1, k2, k3, nI_1]
    have tu : tkS w e s (i + 1) = tkS w e s i + if e i = s then w i else 0 := rfl
    have nu : nuS e s (i + 1) = nuS e s i + if e i = s then 1 else 0 := rfl
    have wu : sumB (fun j => if e j = s then v j else 0) (i + 1) = sumB (fun j => if e j = s then v j else 0) i + if e i = s then v i else 0 := rfl
    by_cases ce : e i = s
    · rw [if_pos ce] at tu nu wu
      rw [if_pos (congrArg nI ce), g2]
      have bad : ¬ okQ st M q s i → ¬ Rg1 a st L w W q M e s := fun hn hR => hn (hR.1 i hlt ce)
      by_cases c1 : st ≤ s
      · right
        rw [if_pos (nI_le c1 (by omega))]
        exact ⟨_, rfl, Or.inr ⟨bad (fun z => by have := z.1; omega), rfl⟩⟩
      · obtain ⟨⟨w1, w2⟩, w3, w4, w5⟩ := g5 s (by omega)
        rw [if_neg (nI_ge (by omega) (by omega))]
        simp only [nI_clamp (n := s) (by omega), nI_clamp (n := P s) (by omega), inb_n hs (by omega : 4 < 2 ^ 31), inb_n w2 (by omega : 150 < 2 ^ 31), chk_p, w1, w4]
        by_cases c2 : M s &&& q i = 0
        · left
          refine ⟨hlt, ?_⟩
          rw [if_pos c2]
          refine ⟨_, rfl, by omega, rfl, ?_, ?_, ?_, fun j hj hjs => ?_⟩
          · show nI _ + nI (v i) = _
            rw [nI_add, wu, Nat.add_assoc]
          · show (su + (nI (w i)).toInt64).toInt = _
            rw [addL_toInt (by rw [e3, nl_toInt (by omega)]; omega) (by rw [e3, nl_toInt (by omega)]; omega), e3, nl_toInt (by omega), tu]
            omega
          · show nI (nuS e s i + 1) = _
            rw [nu]
          · by_cases c3 : j = i
            · subst c3; exact ⟨by omega, c2⟩
            · exact e5 j (by omega) hjs
        · right
          rw [if_neg c2]
          exact ⟨_, rfl, Or.inr ⟨bad (fun z => c2 z.2), rfl⟩⟩
    · left
      refine ⟨hlt, ?_⟩
      rw [if_neg ce] at tu nu wu
      rw [if_neg (fun z => ce ((nI_eq (by omega) (by omega)).mp z))]
      refine ⟨_, rfl, by omega, rfl, ?_, ?_, ?_, fun j hj hjs => ?_⟩
      · show nI _ = _
        rw [wu]; rfl
      · show su.toInt = _
        rw [e3, tu]; rfl
      · show nI (nuS e s i) = _
        rw [nu]; rfl
      · by_cases c3 : j = i
        · subst c3; exact absurd hjs ce
        · exact e5 j (by omega) hjs
theorem MsH.of {a st L : Nat} {w v W : Nat → Nat} {q M : Nat → Int32} {P : Nat → Nat} {m m' : OS} (h : MsH a st L w v W q M P m) (e : m'.1 = m.1) : MsH a st L w v W q M P m' := by
  unfold MsH
  rw [e]; exact h
theorem r_worth {a st L : Nat} {w v W : Nat → Nat} {q M : Nat → Int32} {P : Nat → Nat} {m : OS} {e : Nat → Nat} (h : MsH a st L w v W q M P m) (he : ∀ i, i < a → m.1 89 i = nI (e i) ∧ e i ≤ 4) :
    ∃ r m', f11_worthOfRow m = some (r, m') ∧ m'.1 = m.1 ∧ (∀ r, r ≠ 0 → m'.2 r = m.2 r) ∧ (∀ i, i ≠ 91 → m'.2 0 i = m.2 0 i) ∧ ((Rgt a st L w W q M e ∧ r = nI (woS v e a) ∧ (m'.2 0 91).toInt = (losS L w W e a 4 : Nat)) ∨ (¬ Rgt a st L w W q M e ∧ r = -1)) := by
  have key : ∃ r : Int32 × OS, f11_worthOfRow m = some r ∧ r.2.1 = m.1 ∧ (∀ q, q ≠ 0 → r.2.2 q = m.2 q) ∧ (∀ i, i ≠ 91 → r.2.2 0 i = m.2 0 i) ∧ ((Rgt a st L w W q M e ∧ r.1 = nI (woS v e a) ∧ (r.2.2 0 91).toInt = (losS L w W e a 4 : Nat)) ∨ (¬ Rgt a st L w W q M e ∧ r.1 = -1)) := by
    obtain ⟨h1, h2, h3⟩ := id h.1
    unfold f11_worthOfRow
    rw [nm_p]
    refine loop_inv 4 (fun s (t : Int32 × Int32 × OS) => s ≤ 4 ∧ t.2.1 = nI s ∧ t.1 = nI (woP v e a s) ∧ t.2.2.1 = m.1 ∧ (∀ q, q ≠ 0 → t.2.2.2 q = m.2 q) ∧ (∀ i, i ≠ 91 → t.2.2.2 0 i = m.2 0 i) ∧ (t.2.2.2 0 91).toInt = (losS L w W e a s : Nat) ∧ ∀ s', s' < s → Rg1 a st L w W q M e s') _ ?_ 4 0 _ (by omega) ⟨by omega, rfl, rfl, rfl, fun r hr => if_neg hr, fun i hi => if_neg hi, rfl, fun s hs => by omega⟩
    rintro s ⟨x, y, u⟩ ⟨hs, e1, e2, e3, e4, e5, e6, e7⟩
    have e1 : y = nI s := e1
    have e2 : x = nI (woP v e a s) := e2
    subst e1 e2
    have e3 : u.1 = m.1 := e3
    have e4 : ∀ q, q ≠ 0 → u.2 q = m.2 q := e4
    have e5 : ∀ i, i ≠ 91 → u.2 0 i = m.2 0 i := e5
    have e6 : (u.2 0 91).toInt = (losS L w W e a s : Nat) := e6
    unfold f11_worthOfRow_l9
    by_cases c : s = 4
    · right
      subst c
      refine ⟨(nI (woP v e a 4), u), ?_, e3, e4, e5, Or.inl ⟨fun s hs => e7 s hs, congrArg nI (woP_all (fun j hj => (he j hj).2)), e6⟩⟩
      show (if (4 : Int32) ≤ nI 4 then _ else _) = _
      rw [if_pos (show (4 : Int32) ≤ nI 4 by decide)]; rfl
    · have hs4 : s < 4 := by omega
      obtain ⟨r, k1, k2⟩ := r_row1 (h.of e3) (fun i hi => by rw [e3]; exact he i hi) hs4
      show (s < 4 ∧ ∃ t, (if (4 : Int32) ≤ nI s then _ else _) = some (Sum.inl t) ∧ _) ∨ ∃ r, (if (4 : Int32) ≤ nI s then _ else _) = some (Sum.inr r) ∧ _
      rw [if_neg (show ¬ (4 : Int32) ≤ nI s from nI_ge (a := s) (b := 4) hs4 (by omega)), k1]
      rcases k2 with ⟨hR, m', rfl, f1, f2, f3, f4⟩ | ⟨hR, rfl⟩
      · left
        have hl := losS_le (L := L) (w := w) (W := W) (e := e) (a := a) s
        have hl2 : s * (a * L) ≤ 4 * 6000000 := Nat.mul_le_mul hs (Nat.le_trans (Nat.mul_le_mul h1 h3) (by omega))
        refine ⟨hs4, _, rfl, by omega, rfl, rfl, f1.trans e3, fun q hq => (f2 q hq).trans (e4 q hq), fun i hi => (f3 i hi).trans (e5 i hi), ?_, fun s' hs' => ?_⟩
        · rw [f4 (by rw [e6]; omega), e6]
          show _ = ((losS L w W e a s + los1 L (tkS w e s a) (nuS e s a) (W s) : Nat) : Int)
          omega
        · by_cases c2 : s' = s
          · subst c2; exact hR
          · exact e7 s' (by omega)
      · right
        exact ⟨_, rfl, e3, e4, e5, Or.inr ⟨fun z => hR (z s hs4), rfl⟩⟩
  obtain ⟨⟨r, m'⟩, k1, k2⟩ := key
  exact ⟨r, m', k1, k2⟩
