-- lend: what the letters are
theorem c_loansOut {s2 : OS} {c : Nat} (hc : c ≤ 100) (h : s2.1 0 9 = nI c) (a : Int32) : f2_loansOut a s2 = some (nI (cntB (fun i => decide (s2.1 8 i = -1) && decide (s2.1 5 i = a)) c)) := by
  obtain ⟨b, hb⟩ : ∃ b : Nat → Bool, b = fun i => decide (s2.1 8 i = -1) && decide (s2.1 5 i = a) := ⟨_, rfl⟩
  rw [← hb]
  have key : ∃ o, f2_loansOut a s2 = some o ∧ o = nI (cntB b c) := by
    unfold f2_loansOut
    refine loop_inv c (fun i (t : Int32 × Int32) => i ≤ c ∧ t.1 = nI (cntB b i) ∧ t.2 = nI i) _ ?_ c 0 _ (by omega) ⟨by omega, rfl, rfl⟩
    rintro i ⟨x, y⟩ ⟨hi, e1, e2⟩
    have e1 : x = nI (cntB b i) := e1
    have e2 : y = nI i := e2
    subst e1 e2
    unfold f2_loansOut_l4 f2_loansOut_j33
    by_cases cc : i = c
    · right
      subst cc
      refine ⟨_, ?_, rfl⟩
      show (if s2.1 0 9 ≤ nI i then _ else _) = _
      rw [h, if_pos (show nI i ≤ nI i from nI_le (Nat.le_refl _) (by omega))]; rfl
    · left
      have hlt : i < c := by omega
      refine ⟨hlt, ?_⟩
      show ∃ t, (if s2.1 0 9 ≤ nI i then _ else Option.bind (f2_isOut (nI i) s2) fun q_14 => _) = some (Sum.inl t) ∧ _
      rw [h, if_neg (nI_ge hlt (by omega)), c_isOut hc h, Option.bind_some, if_b1, nI_clamp (by omega), nI_toInt (by omega)]
      have cb : cntB b (i + 1) = cntB b i + if b i = true then 1 else 0 := rfl
      by_cases c1 : (0 ≤ (i : Int) ∧ (i : Int) < c) ∧ s2.1 8 i = -1
      · rw [if_pos c1, inb_n (show i < 100 by omega) (by omega), chk_p, nm_p]
        by_cases c2 : s2.1 5 i = a
        · have hbi : b i = true := by rw [hb]; show (decide (s2.1 8 i = -1) && decide (s2.1 5 i = a)) = true; rw [decide_eq_true c1.2, decide_eq_true c2]; rfl
          rw [if_pos c2]
          refine ⟨_, rfl, by omega, ?_, nI_1 i⟩
          show nI (cntB b i) + 1 = _
          rw [cb, if_pos hbi, nI_1]
        · have hbi : ¬ b i = true := by rw [hb]; show ¬ (decide (s2.1 8 i = -1) && decide (s2.1 5 i = a)) = true; rw [decide_eq_false c2, Bool.and_false]; decide
          rw [if_neg c2]
          refine ⟨_, rfl, by omega, ?_, nI_1 i⟩
          show nI (cntB b i) = _
          rw [cb, if_neg hbi]; rfl
      · have hbi : ¬ b i = true := by
          rw [hb]
          show ¬ (decide (s2.1 8 i = -1) && decide (s2.1 5 i = a)) = true
          rw [decide_eq_false (fun e => c1 ⟨⟨by omega, by omega⟩, e⟩), Bool.false_and]; decide
        rw [if_neg c1]
        refine ⟨_, rfl, by omega, ?_, nI_1 i⟩
        show nI (cntB b i) = _
        rw [cb, if_neg hbi]; rfl
  obtain ⟨o, k1, rfl⟩ := key
  exact k1
theorem r_loansOf {m : OS} {c : Nat} (hc : c ≤ 100) (h : m.1 0 5 = nI c) (a : Int32) : f11_loansOf a m = some (nI (cntB (fun i => decide (m.1 63 i = -1) && decide (m.1 60 i = a)) c)) := by
  obtain ⟨b, hb⟩ : ∃ b : Nat → Bool, b = fun i => decide (m.1 63 i = -1) && decide (m.1 60 i = a) := ⟨_, rfl⟩
  rw [← hb]
  have key : ∃ o, f11_loansOf a m = some o ∧ o = nI (cntB b c) := by
    unfold f11_loansOf
    refine loop_inv c (fun i (t : Int32 × Int32) => i ≤ c ∧ t.1 = nI (cntB b i) ∧ t.2 = nI i) _ ?_ c 0 _ (by omega) ⟨by omega, rfl, rfl⟩
    rintro i ⟨x, y⟩ ⟨hi, e1, e2⟩
    have e1 : x = nI (cntB b i) := e1
    have e2 : y = nI i := e2
    subst e1 e2
    unfold f11_loansOf_l4 f11_loansOf_j37 f11_loansOf_j38
    by_cases cc : i = c
    · right
      subst cc
      refine ⟨_, ?_, rfl⟩
      show (if m.1 0 5 ≤ nI i then _ else _) = _
      rw [h, if_pos (show nI i ≤ nI i from nI_le (Nat.le_refl _) (by omega))]; rfl
    · left
      have hlt : i < c := by omega
      refine ⟨hlt, ?_⟩
      show ∃ t, (if m.1 0 5 ≤ nI i then _ else _) = some (Sum.inl t) ∧ _
      rw [h, if_neg (nI_ge hlt (by omega))]
      simp only [nI_clamp (n := i) (by omega), inb_n (show i < 100 by omega) (by omega : 100 < 2 ^ 31), chk_p, nm_p, nI_1]
      have cb : cntB b (i + 1) = cntB b i + if b i = true then 1 else 0 := rfl
      by_cases c2 : m.1 60 i = a
      · rw [if_pos c2]
        by_cases c1 : m.1 63 i = -1
        · have hbi : b i = true := by rw [hb]; show (decide (m.1 63 i = -1) && decide (m.1 60 i = a)) = true; rw [decide_eq_true c1, decide_eq_true c2]; rfl
          rw [if_pos c1]
          refine ⟨_, rfl, by omega, ?_, rfl⟩
          show nI (cntB b i + 1) = _
          rw [cb, if_pos hbi]
        · have hbi : ¬ b i = true := by rw [hb]; show ¬ (decide (m.1 63 i = -1) && decide (m.1 60 i = a)) = true; rw [decide_eq_false c1, Bool.false_and]; decide
          rw [if_neg c1]
          refine ⟨_, rfl, by omega, ?_, rfl⟩
          show nI (cntB b i) + 0 = _
          rw [cb, if_neg hbi, Int32.add_zero]; rfl
      · have hbi : ¬ b i = true := by rw [hb]; show ¬ (decide (m.1 63 i = -1) && decide (m.1 60 i = a)) = true; rw [decide_eq_false c2, Bool.and_false]; decide
        rw [if_neg c2]
        refine ⟨_, rfl, by omega, ?_, rfl⟩
        show nI (cntB b i) + 0 = _
        rw [cb, if_neg hbi, Int32.add_zero]; rfl
  obtain ⟨o, k1, rfl⟩ := key
  exact k1
theorem c_missing {s2 : OS} {c : Nat} (hc : c ≤ 100) (h : s2.1 0 9 = nI c) (a : Int32) : f2_missingBy a s2 = some (misS (s2.1 5) (s2.1 9) a c) := by
  have key : ∃ o, f2_missingBy a s2 = some o ∧ o = misS (s2.1 5) (s2.1 9) a c := by
    unfold f2_missingBy
    refine loop_inv c (fun i (t : Int64 × Int32) => i ≤ c ∧ t.1 = misS (s2.1 5) (s2.1 9) a i ∧ t.2 = nI i) _ ?_ c 0 _ (by omega) ⟨by omega, rfl, rfl⟩
    rintro i ⟨x, y⟩ ⟨hi, e1, e2⟩
    have e1 : x = misS (s2.1 5) (s2.1 9) a i := e1
    have e2 : y = nI i := e2
    subst e1 e2
    unfold f2_missingBy_l5 f2_missingBy_j45
    by_cases cc : i = c
    · right
      subst cc
      refine ⟨_, ?_, rfl⟩
      show (if s2.1 0 9 ≤ nI i then _ else _) = _
      rw [h, if_pos (show nI i ≤ nI i from nI_le (Nat.le_refl _) (by omega))]; rfl
    · left
      have hlt : i < c := by omega
      refine ⟨hlt, ?_⟩
      show ∃ t, (if s2.1 0 9 ≤ nI i then _ else Option.bind (f2_hasLoan (nI i) s2) fun q_17 => _) = some (Sum.inl t) ∧ _
      rw [h, if_neg (nI_ge hlt (by omega)), c_hasLoan hc h, Option.bind_some, if_b1, nI_toInt (by omega), if_pos (show 0 ≤ (i : Int) ∧ (i : Int) < c by omega)]
      simp only [nI_clamp (n := i) (by omega), inb_n (show i < 100 by omega) (by omega : 100 < 2 ^ 31), chk_p, nm_p, nI_1]
      have cb : misS (s2.1 5) (s2.1 9) a (i + 1) = misS (s2.1 5) (s2.1 9) a i + if s2.1 5 i = a then (s2.1 9 i).toInt64 else 0 := rfl
      by_cases c2 : s2.1 5 i = a
      · rw [if_pos c2]
        refine ⟨_, rfl, by omega, ?_, rfl⟩
        show misS (s2.1 5) (s2.1 9) a i + (s2.1 9 i).toInt64 = _
        rw [cb, if_pos c2]
      · rw [if_neg c2]
        refine ⟨_, rfl, by omega, ?_, rfl⟩
        show misS (s2.1 5) (s2.1 9) a i = _
        rw [cb, if_neg c2, Int64.add_zero]
  obtain ⟨o, k1, rfl⟩ := key
  exact k1
theorem c_hasAsker {s2 : OS} {a : Nat} (ha : a ≤ 20) (h : s2.1 0 2 = nI a) (x : Int32) : f2_hasAsker x s2 = some (b1 (0 ≤ x.toInt ∧ x.toInt < a)) := by
  unfold f2_hasAsker f2_hasAsker_j22 f2_hasAsker_j23
  rw [h]
  have z0 : (0 : Int32).toInt = 0 := rfl
  by_cases c1 : x < 0
  · rw [if_pos c1, b1_f (fun e => by rw [Int32.lt_iff_toInt_lt] at c1; omega)]; rfl
  · rw [if_neg c1]
    rw [Int32.lt_iff_toInt_lt] at c1
    by_cases c2 : nI a ≤ x
    · rw [if_pos c2, b1_f (fun e => by rw [Int32.le_iff_toInt_le, nI_toInt (by omega)] at c2; omega)]; rfl
    · rw [if_neg c2]
      rw [Int32.le_iff_toInt_le, nI_toInt (by omega)] at c2
      have z20 : (20 : Int32).toInt = 20 := rfl
      rw [if_neg (show ¬ (20 : Int32) ≤ x by rw [Int32.le_iff_toInt_le]; omega), b1_t (by omega)]; rfl
theorem c_setLetter {j : Nat} (hj : j < 9) (v : Int64) (s6 : OS) : f5_tell (letC j) v s6 = some (wL s6 3 j v) := by
  have hix : ixOf (letC j) = nI j := by
    have : ∀ q : Fin 9, ixOf (letC q.1) = nI q.1 := by decide
    exact this ⟨j, hj⟩
  unfold f5_tell f6_setLetter f6_setLetter_j31
  rw [nm_p, hix, if_neg (nI_pos (n := j) (by omega)), if_neg (show ¬ (9 : Int32) ≤ nI j from nI_ge (a := j) (b := 9) hj (by omega)), inb_n hj (by omega), chk_p, nm_p, nI_clamp (by omega), Option.bind_some]
/-- the letters' values -/
def envL (f h k w m l a s d : Int64) (j : Nat) : Int64 := if j = 0 then f else if j = 1 then h else if j = 2 then k else if j = 3 then w else if j = 4 then m else if j = 5 then l else if j = 6 then a else if j = 7 then s else d
theorem sumN_but {g : Nat → Int64} {n p : Nat} (hp : p < n) : sumN g n - g p = sumN (fun x => if x = p then 0 else g x) n := by
  have e : sumN g n = sumN (fun x => if x = p then 0 else g x) n + g p := by
    have h1 : sumN g n = sumN (fun x => (if x = p then 0 else g x) + (if x = p then g p else 0)) n := sumN_congr n (fun x _ => by
      by_cases c : x = p
      · simp only [if_pos c]; rw [c, i64_zero_add]
      · simp only [if_neg c, Int64.add_zero])
    rw [h1, sumN_add, sumN_pick, if_pos hp]
  rw [e, Int64.add_sub_cancel]
theorem sumN_nn {g : Nat → Int64} {n : Nat} (hn : n ≤ 150) (h : ∀ x, x < n → 0 ≤ (g x).toInt ∧ (g x).toInt ≤ 1000000000) : ∀ k, k ≤ n → 0 ≤ (sumN g k).toInt ∧ (sumN g k).toInt ≤ k * 1000000000
  | 0, _ => ⟨Int.le_refl _, Int.le_refl _⟩
  | k + 1, hk => by
    obtain ⟨h1, h2⟩ := sumN_nn hn h k (by omega)
    obtain ⟨h3, h4⟩ := h k (by omega)
    have : (sumN g (k + 1)).toInt = (sumN g k).toInt + (g k).toInt := addL_toInt (by omega) (by omega)
    rw [this]
    omega
theorem r_without {m : OS} {n p : Nat} (hn : n ≤ 150) (h : m.1 0 3 = nI n) (hp : p < n) (hr : ∀ p, p < n → 0 ≤ (m.1 16 p).toInt) (a : Int32) : f11_inCabinets a 1 (nI p) m = some (sumN (fun x => if x = p then 0 else wSum (m.1 12) (m.1 14) (m.1 15) (m.1 16) 0 9 true (fun p => m.1 12 p = a) x) n) := by
  obtain ⟨g, hg⟩ : ∃ g : Nat → Int64, g = fun x => if x = p then 0 else wSum (m.1 12) (m.1 14) (m.1 15) (m.1 16) 0 9 true (fun p => m.1 12 p = a) x := ⟨_, rfl⟩
  rw [← hg]
  have key : ∃ o, f11_inCabinets a 1 (nI p) m = some o ∧ o = sumN g n := by
    unfold f11_inCabinets
    refine loop_inv n (fun i (t : Int64 × Int32) => i ≤ n ∧ t.1 = sumN g i ∧ t.2 = nI i) _ ?_ n 0 _ (by omega) ⟨by omega, rfl, rfl⟩
    rintro i ⟨x, y⟩ ⟨hi, e1, e2⟩
    have e1 : x = sumN g i := e1
    have e2 : y = nI i := e2
    subst e1 e2
    unfold f11_inCabinets_l6 f11_inCabinets_j60 f11_inCabinets_j71 f11_inCabinets_j72
    by_cases cc : i = n
    · right
      subst cc
      refine ⟨_, ?_, rfl⟩
      show (if m.1 0 3 ≤ nI i then _ else _) = _
      rw [h, if_pos (show nI i ≤ nI i from nI_le (Nat.le_refl _) (by omega))]; rfl
    · left
      have hlt : i < n := by omega
      refine ⟨hlt, ?_⟩
      show ∃ t, (if m.1 0 3 ≤ nI i then _ else _) = some (Sum.inl t) ∧ _
      rw [h, if_neg (nI_ge hlt (by omega))]
      simp only [nI_clamp (n := i) (by omega), inb_n (show i < 150 by omega) (by omega : 150 < 2 ^ 31), chk_p, nm_p, nI_1]
      have gs : sumN g (i + 1) = sumN g i + g i := rfl
      have zero : g i = 0 → i + 1 ≤ n ∧ sumN g i + 0 = sumN g (i + 1) ∧ nI (i + 1) = nI (i + 1) := fun e => ⟨by omega, by rw [gs, e], rfl⟩
      have h10 : (10 : Int32).toInt = 10 := rfl
      have hri := hr i hlt
      have g0 : (∀ x, x ≠ p → wSum (m.1 12) (m.1 14) (m.1 15) (m.1 16) 0 9 true (fun p => m.1 12 p = a) i = 0 → True) := fun _ _ _ => trivial
      have gw : wSum (m.1 12) (m.1 14) (m.1 15) (m.1 16) 0 9 true (fun p => m.1 12 p = a) i = 0 → g i = 0 := fun e => by
        rw [hg]
        show (if i = p then 0 else _) = _
        by_cases c : i = p
        · rw [if_pos c]
        · rw [if_neg c]; exact e
      by_cases c1 : m.1 12 i = a
      · rw [if_pos c1]
        by_cases c2 : (10 : Int32) ≤ m.1 16 i
        · rw [if_pos c2]
          rw [Int32.le_iff_toInt_le] at c2
          exact ⟨_, rfl, zero (gw (wSum_f2 (fun e => by have := e.2; omega)))⟩
        · rw [if_neg c2]
          rw [Int32.le_iff_toInt_le] at c2
          by_cases c3 : i = p
          · rw [if_pos (congrArg nI c3)]
            exact ⟨_, rfl, zero (by rw [hg]; exact if_pos c3)⟩
          · rw [if_neg (fun e => c3 ((nI_eq (by omega) (by omega)).mp e)), if_neg (show ¬ (1 : Int32) = 0 by decide)]
            by_cases c4 : m.1 15 i = 0
            · rw [if_pos c4]
              refine ⟨_, rfl, by omega, ?_, rfl⟩
              show sumN g i + (m.1 14 i).toInt64 = _
              rw [gs]
              have : g i = (m.1 14 i).toInt64 := by
                rw [hg]
                show (if i = p then 0 else _) = _
                rw [if_neg c3]
                exact wSum_t c1 ⟨by omega, by omega⟩ (fun _ => c4)
              rw [this]
            · rw [if_neg c4]
              exact ⟨_, rfl, zero (gw (wSum_f3 (fun e => c4 (e rfl))))⟩
      · rw [if_neg c1]
        exact ⟨_, rfl, zero (gw (wSum_f1 c1))⟩
  obtain ⟨o, k1, rfl⟩ := key
  exact k1
