-- lend: the class's walk over one rule
def FrB (s u : OS) : Prop := (∀ r, r ≠ 0 → r ≠ 7 → u.1 r = s.1 r) ∧ u.2 = s.2 ∧ ∀ x, x ≠ 9 → x ≠ 10 → x ≠ 11 → u.1 0 x = s.1 0 x
/-- the mask of the rule t -/
def mk7 (b : Nat → Bool) (t : Nat) : Int32 := nI (mkB (fun s => decide (s < 12) && b (12 * t + s)) 16)
def vF (F : Nat → Int32) (x : Int32) : Int32 := if x = -1 then -1 else F x.toNatClampNeg
/-- the class's rules: what is read of them with the letters env -/
def MC (r : Nat) (K N : Nat → Nat) (fc H : Nat → Bool) (L F S : Nat → Int32) (env : Nat → Int64) (day : Int32) (s5 : OS) : Prop :=
  s5.1 0 8 = nI r ∧ ∀ i, i < r → N i ≤ 160 ∧ s5.1 2 i = nI (N i) ∧ s5.1 5 i = nI (K i) ∧ (∀ x, x < N i → bw 0 255 (s5.1 1 (160 * i + x))) ∧ fc i = decide ((s5.1 3 i).toInt ≤ day.toInt ∧ day.toInt ≤ (s5.1 4 i).toInt) ∧
    ∀ j, j < K i → ∃ p : Nat, s5.1 6 (12 * i + j) = nI p ∧ (L (12 * i + j) = 98 ∨ L (12 * i + j) = 100 ∨ L (12 * i + j) = 116 ∨ L (12 * i + j) = 120) ∧
      ∀ (p0 : Nat) (s : OS), RdS (fun x => s5.1 1 (160 * i + x)) (N i) p0 s → s.2 3 = env → ∃ (x : Int32) (p' : Nat) (s' : OS), f6_asksClause (nI p) s = some (x, s') ∧ FrC s s' ∧ RdS (fun x => s5.1 1 (160 * i + x)) (N i) p' s' ∧ s'.1 0 8 = L (12 * i + j) ∧ (¬ L (12 * i + j) = 98 → s'.1 0 9 = F (12 * i + j)) ∧ (L (12 * i + j) = 120 → s'.1 0 10 = S (12 * i + j)) ∧ (¬ L (12 * i + j) = 120 → x = bI (H (12 * i + j)))
theorem vF_step {F : Nat → Int32} {cd : Nat → Bool} {i j : Nat} (hi : i < 20) (hj : j < 12) : vF F (bJ cd i (j + 1)) = if cd (12 * i + j) = true then F (12 * i + j) else vF F (bJ cd i j) := by
  show vF F (if cd (12 * i + j) = true then nI (12 * i + j) else bJ cd i j) = _
  by_cases c : cd (12 * i + j) = true
  · rw [if_pos c, if_pos c]
    unfold vF
    rw [if_neg (nI_m1 (by omega)), nI_clamp (by omega)]
  · rw [if_neg c, if_neg c]
theorem cd_f {L : Nat → Int32} {X H : Nat → Bool} {c : Int32} {z : Nat} (h : ¬ L z = c ∨ X z = true ∨ H z = false) : cdX L X H c z = false := by
  unfold cdX
  rcases h with h | h | h
  · rw [decide_eq_false h, Bool.false_and, Bool.false_and]
  · rw [h, Bool.not_true, Bool.and_false, Bool.false_and]
  · rw [h, Bool.and_false]
theorem cd_t {L : Nat → Int32} {X H : Nat → Bool} {c : Int32} {z : Nat} (h1 : L z = c) (h2 : X z = false) : cdX L X H c z = H z := by
  unfold cdX
  rw [h2, decide_eq_true h1]; rfl
theorem c_has5 {s5 : OS} {r t : Nat} (h : s5.1 0 8 = nI r) (hr : r ≤ 20) (ht : t < r) : f5_has (nI t) s5 = some 1 := by
  unfold f5_has f5_has_j22 f5_has_j23
  rw [h, if_neg (nI_pos (n := t) (by omega)), if_neg (nI_ge (a := t) (b := r) ht (by omega)), if_neg (show ¬ (20 : Int32) ≤ nI t from nI_ge (a := t) (b := 20) (by omega) (by omega))]; rfl
theorem c_force {r : Nat} {K N : Nat → Nat} {fc H : Nat → Bool} {L F S : Nat → Int32} {env : Nat → Int64} {day : Int32} {s5 u : OS} (h : MC r K N fc H L F S env day s5) (hu : FrB s5 u) (hr : r ≤ 20) {t : Nat} (ht : t < r) : f5_isInForce (nI t) day u = some (bI (fc t)) := by
  unfold f5_isInForce f5_isInForce_j31 f5_isInForce_j32
  rw [c_has5 ((hu.2.2 8 (by decide) (by decide) (by decide)).trans h.1) hr ht, Option.bind_some, if_neg (show ¬ (1 : Int32) = 0 by decide), inb_n (show t < 20 by omega) (by omega), chk_p, nm_p, chk_p, nm_p, nI_clamp (by omega), c_isWithin, Option.bind_some, hu.1 3 (by decide) (by decide), hu.1 4 (by decide) (by decide), (h.2 t ht).2.2.2.2.1, if_b1]
  by_cases c : (s5.1 3 t).toInt ≤ day.toInt ∧ day.toInt ≤ (s5.1 4 t).toInt
  · rw [if_pos c, decide_eq_true c]; rfl
  · rw [if_neg c, decide_eq_false c]; rfl
theorem mk7_set {b : Nat → Bool} {I J : Nat} (hJ : J < 12) (t : Nat) : mk7 (fun y => b y || decide (y = 12 * I + J)) t = if t = I then (mk7 b I ||| (1 : Int32) <<< (nI J &&& 31)) else mk7 b t := by
  by_cases c : t = I
  · subst c
    rw [if_pos rfl]
    unfold mk7
    rw [mkB_set (by omega)]
    congr 1
    congr 1
    funext j
    dsimp only
    by_cases e : j = J
    · subst e
      rw [decide_eq_true hJ, decide_eq_true (rfl : 12 * t + j = 12 * t + j), decide_eq_true (rfl : j = j), Bool.or_true, Bool.or_true]; rfl
    · rw [decide_eq_false (show ¬ 12 * t + j = 12 * t + J by omega), decide_eq_false e, Bool.or_false, Bool.or_false]
  · rw [if_neg c]
    unfold mk7
    congr 1
    congr 1
    funext j
    dsimp only
    by_cases e : j < 12
    · rw [decide_eq_false (show ¬ 12 * t + j = 12 * I + J by omega), Bool.or_false]
    · rw [decide_eq_false e]; rfl
/-- what holds of the class's state behind j clauses of the rule i -/
def InB (r i : Nat) (T : Nat → Int32) (n : Nat) (L F S : Nat → Int32) (fc X H : Nat → Bool) (env : Nat → Int64) (s0 : OS) (f9 : Int32) (b : Nat → Bool) (j : Nat) (s : Int32 × Int32 × Int32 × OS × OS) : Prop :=
  s.1 = vF F (bJ (cdX L X H 100) i j) ∧ s.2.1 = vF F (bJ (cdX L X H 116) i j) ∧ s.2.2.1 = nI j ∧ FrB s0 s.2.2.2.1 ∧ s.2.2.2.1.1 0 10 = s0.1 0 10 ∧ s.2.2.2.1.1 0 11 = s0.1 0 11 ∧ (s.2.2.2.1.1 0 9 = if bJ (cdX L X H 98) i j = -1 then f9 else 1) ∧
    (∀ t, t < r → s.2.2.2.1.1 7 t = mk7 (ruX L F S fc i b j) t) ∧ s.2.2.2.2.2 3 = env ∧ ∃ p, RdS T n p (wI s.2.2.2.2 0 11 0)
theorem c_strike {r : Nat} {K N : Nat → Nat} {fc H : Nat → Bool} {L F S : Nat → Int32} {env : Nat → Int64} {day : Int32} {s5 u s6 : OS} (h : MC r K N fc H L F S env day s5) (hR : RuS r K L F S) (hu : FrB s5 u) {i j : Nat} (hi : i < r) (hj : j < K i) (hL : L (12 * i + j) = 120) {b : Nat → Bool} (h7 : ∀ t, t < r → u.1 7 t = mk7 b t) (hb : b (12 * i + j) = false) (e9 : s6.1 0 9 = F (12 * i + j)) (e10 : s6.1 0 10 = S (12 * i + j)) :
    ∃ u', f5_strike (nI i) day u s6 = some u' ∧ FrB s5 u' ∧ (u'.1 0 = u.1 0) ∧ ∀ t, t < r → u'.1 7 t = mk7 (stX L F S fc i (12 * i + j) b) t := by
  have hr := hR.1
  obtain ⟨I, J, g1, g2, g3, g4⟩ := (hR.2 i hi).2 j hj hL
  have cI' := nI_clamp (n := I) (by omega)
  have cJ' := nI_clamp (n := J) (by omega)
  unfold f5_strike f5_strike_j40 f6_first f6_second stX
  rw [Option.bind_some, e9, e10, g3, g4, cI', cJ']
  by_cases cI : I < i
  · rw [if_neg (nI_ge (a := I) (b := i) cI (by omega)), c_force h hu hr (show I < r by omega), Option.bind_some]
    by_cases cf : fc I = true
    · rw [cf, if_neg (show ¬ bI true = 0 by decide), inb_n (show I < 20 by omega) (by omega), chk_p, nm_p, Option.bind_some, chk_p, nm_p, if_pos ⟨hL, hb, cI, rfl⟩]
      refine ⟨_, rfl, ⟨fun r' z1 z2 => (lw_row z2).trans (hu.1 r' z1 z2), hu.2.1, fun x z1 z2 z3 => ?_⟩, lw_row (by decide), fun t ht => ?_⟩
      · rw [lw_row (by decide)]; exact hu.2.2 x z1 z2 z3
      · rw [mk7_set g2]
        by_cases c : t = I
        · subst c
          rw [lw_s, if_pos rfl, h7 t ht]
        · rw [lw_n c, if_neg c, h7 t ht]
    · have cf := Bool.eq_false_iff.mpr cf
      rw [cf, if_pos (show bI false = 0 from rfl), if_neg (fun e => by cases e.2.2.2)]
      exact ⟨u, rfl, hu, rfl, h7⟩
  · rw [if_pos (nI_le (a := i) (b := I) (by omega) (by omega)), if_neg (fun e => cI e.2.2.1)]
    exact ⟨u, rfl, hu, rfl, h7⟩
theorem c_one1 {r : Nat} {K N : Nat → Nat} {fc X H : Nat → Bool} {L F S : Nat → Int32} {env : Nat → Int64} {day : Int32} {s5 s0 : OS} (h : MC r K N fc H L F S env day s5) (hR : RuS r K L F S) (h0 : FrB s5 s0) {i : Nat} (hi : i < r) {b : Nat → Bool} {f9 : Int32} (hf9 : f9 = 0 ∨ f9 = 1)
    (hXb : ∀ j, j < K i → X (12 * i + j) = b (12 * i + j)) {j : Nat} (hj : j < K i) {s : Int32 × Int32 × Int32 × OS × OS} (hI : InB r i (fun x => s5.1 1 (160 * i + x)) (N i) L F S fc X H env s0 f9 b j s) :
    ∃ t, f5_applyOne_l39 (nI i) day s = some (.inl t) ∧ InB r i (fun x => s5.1 1 (160 * i + x)) (N i) L F S fc X H env s0 f9 b (j + 1) t := by
  have hr := hR.1
  obtain ⟨v3, v4, v5, u, s6⟩ := s
  obtain ⟨i1, i2, i3, i4, i5, i6, i7, i8, i9, p0, i10⟩ := hI
  have i1 : v3 = vF F (bJ (cdX L X H 100) i j) := i1
  have i2 : v4 = vF F (bJ (cdX L X H 116) i j) := i2
  have i3 : v5 = nI j := i3
  have i4 : FrB s0 u := i4
  have i5 : u.1 0 10 = s0.1 0 10 := i5
  have i6 : u.1 0 11 = s0.1 0 11 := i6
  have i7 : u.1 0 9 = if bJ (cdX L X H 98) i j = -1 then f9 else 1 := i7
  have i8 : ∀ t, t < r → u.1 7 t = mk7 (ruX L F S fc i b j) t := i8
  have i9 : s6.2 3 = env := i9
  have i10 : RdS (fun x => s5.1 1 (160 * i + x)) (N i) p0 (wI s6 0 11 0) := i10
  subst i3
  have hu : FrB s5 u := ⟨fun r' z1 z2 => (i4.1 r' z1 z2).trans (h0.1 r' z1 z2), i4.2.1.trans h0.2.1, fun x z1 z2 z3 => (i4.2.2 x z1 z2 z3).trans (h0.2.2 x z1 z2 z3)⟩
  obtain ⟨y1, y2, y3, y4, y5, y6⟩ := h.2 i hi
  obtain ⟨hK, _⟩ := hR.2 i hi
  obtain ⟨p, q1, q2, q3⟩ := y6 j hj
  have hz : 12 * i + j < 240 := by omega
  have w5 : u.1 5 i = nI (K i) := by rw [hu.1 5 (by decide) (by decide), y3]
  have w6 : u.1 6 (12 * i + j) = nI p := by rw [hu.1 6 (by decide) (by decide), q1]
  have e12 : nI i * (12 : Int32) = nI (12 * i) := by rw [show (12 : Int32) = nI 12 from rfl, pk_mul, Nat.mul_comm]
  have hXj : X (12 * i + j) = ruX L F S fc i b j (12 * i + j) := by rw [hXb j hj, ruX_above hR hi (Nat.le_refl _) (by omega) j (by omega)]
  have ht7 : ((u.1 7 i >>> (nI j &&& 31)) &&& (1 : Int32) = 0) ↔ X (12 * i + j) = false := by
    rw [i8 i hi]
    unfold mk7
    rw [mkB_test (by omega), decide_eq_true (show j < 12 by omega), hXj, Bool.true_and]
  have hru : ruX L F S fc i b (j + 1) = stX L F S fc i (12 * i + j) (ruX L F S fc i b j) := rfl
  have h9 : u.1 0 9 = 0 ∨ u.1 0 9 = 1 := by
    rw [i7]
    by_cases c : bJ (cdX L X H 98) i j = -1
    · rw [if_pos c]; exact hf9
    · rw [if_neg c]; exact Or.inr rfl
  -- the step that leaves the marks
  have keep : (¬ L (12 * i + j) = 120 ∨ X (12 * i + j) = true) → ruX L F S fc i b (j + 1) = ruX L F S fc i b j := fun e => by
    rw [hru]; unfold stX
    rw [if_neg (fun e' => by
      rcases e with e | e
      · exact e e'.1
      · rw [hXj, e'.2.1] at e; cases e)]
  have cdk : ∀ c, ¬ L (12 * i + j) = c ∨ X (12 * i + j) = true ∨ H (12 * i + j) = false → bJ (cdX L X H c) i (j + 1) = bJ (cdX L X H c) i j := fun c e => by
    show (if cdX L X H c (12 * i + j) = true then _ else _) = _
    rw [cd_f e, if_neg (by decide)]
  unfold f5_applyOne_l39 f5_applyOne_j174 f5_applyOne_j179 f5_applyOne_j201 f5_applyOne_j222 f5_applyOne_j227
  simp only [inb_n (show i < 20 by omega) (by omega : 20 < 2 ^ 31), chk_p, nm_p, nI_clamp (n := i) (by omega), w5, e12, nI_add, inb_n hz (by omega : 240 < 2 ^ 31), nI_clamp (n := 12 * i + j) (by omega), w6]
  rw [if_neg (nI_ge (a := j) (b := K i) hj (by omega)), if_neg (show ¬ (12 : Int32) ≤ nI j from nI_ge (a := j) (b := 12) (by omega) (by omega))]
  by_cases cX : X (12 * i + j) = false
  · rw [if_pos (ht7.mpr cX)]
    obtain ⟨x, p', s', g1, g2, g3, g4, g5, g6, g7⟩ := q3 p0 (wI s6 0 11 0) i10 i9
    rw [asks_go, asks_11, g1]
    simp only [Option.bind_some, f6_letter, f6_first, g4]
    have henv : s'.2 3 = env := by rw [g2.2.1]; exact i9
    have hrd : ∃ p, RdS (fun x => s5.1 1 (160 * i + x)) (N i) p (wI s' 0 11 0) := ⟨p', g3.1, g3.2.1, g3.2.2.1, Or.inl rfl, g3.2.2.2.2⟩
    rcases q2 with cL | cL | cL | cL
    · have e98 : (if u.1 0 9 = 0 then (if x = 0 then (0 : Int32) else 1) else 1) = if bJ (cdX L X H 98) i (j + 1) = -1 then f9 else 1 := by
        show _ = if (if cdX L X H 98 (12 * i + j) = true then nI (12 * i + j) else bJ (cdX L X H 98) i j) = -1 then f9 else 1
        rw [cd_t cL cX, g7 (by rw [cL]; decide)]
        cases hh : H (12 * i + j) with
        | true =>
          rw [if_neg (show ¬ bI true = 0 by decide), if_pos rfl, if_neg (nI_m1 (by omega)), ite_self]
        | false =>
          rw [if_pos (show bI false = 0 from rfl), if_neg (show ¬ false = true by decide), ← i7]
          rcases h9 with h9 | h9
          · rw [h9, if_pos rfl]
          · rw [h9, if_neg (by decide)]
      refine ⟨(v3, v4, nI j + 1, wI u 0 9 (if u.1 0 9 = 0 then (if x = 0 then (0 : Int32) else 1) else 1), s'), ?_, ?_⟩
      · rw [if_pos cL]
        by_cases c9 : u.1 0 9 = 0
        · rw [if_pos c9, if_pos c9]
          by_cases cx : x = 0
          · rw [if_pos cx, if_pos cx, show isB (0 : Int32) = true from by decide, chk_p]
          · rw [if_neg cx, if_neg cx, show isB (1 : Int32) = true from by decide, chk_p]
        · rw [if_neg c9, if_neg c9, show isB (1 : Int32) = true from by decide, chk_p]
      · refine ⟨?_, ?_, nI_1 j, ⟨fun r' z1 z2 => (lw_row z1).trans (i4.1 r' z1 z2), i4.2.1, fun x z1 z2 z3 => (lw_n z1).trans (i4.2.2 x z1 z2 z3)⟩, (lw_n (by decide)).trans i5, (lw_n (by decide)).trans i6, ?_, fun t ht => ?_, henv, hrd⟩
        · rw [cdk 100 (Or.inl (by rw [cL]; decide))]; exact i1
        · rw [cdk 116 (Or.inl (by rw [cL]; decide))]; exact i2
        · exact lw_s.trans e98
        · rw [keep (Or.inl (by rw [cL]; decide))]; exact (congrFun (lw_row (by decide)) t).trans (i8 t ht)
    · have ev : (if x = 0 then v3 else F (12 * i + j)) = vF F (bJ (cdX L X H 100) i (j + 1)) := by
        rw [vF_step (by omega) (by omega), cd_t cL cX, g7 (by rw [cL]; decide), ← i1]
        cases hh : H (12 * i + j) with
        | true => rw [if_neg (show ¬ bI true = 0 by decide), if_pos rfl]
        | false => rw [if_pos (show bI false = 0 from rfl), if_neg (by decide)]
      refine ⟨((if x = 0 then v3 else F (12 * i + j)), v4, nI j + 1, u, s'), ?_, ?_⟩
      · rw [if_neg (show ¬ L (12 * i + j) = 98 by rw [cL]; decide), if_pos cL]
        by_cases cx : x = 0
        · rw [if_pos cx, if_pos cx]
        · rw [if_neg cx, if_neg cx, g5 (by rw [cL]; decide)]
      · refine ⟨ev, ?_, nI_1 j, i4, i5, i6, ?_, fun t ht => ?_, henv, hrd⟩
        · rw [cdk 116 (Or.inl (by rw [cL]; decide))]; exact i2
        · rw [cdk 98 (Or.inl (by rw [cL]; decide))]; exact i7
        · rw [keep (Or.inl (by rw [cL]; decide))]; exact i8 t ht
    · have ev : (if x = 0 then v4 else F (12 * i + j)) = vF F (bJ (cdX L X H 116) i (j + 1)) := by
        rw [vF_step (by omega) (by omega), cd_t cL cX, g7 (by rw [cL]; decide), ← i2]
        cases hh : H (12 * i + j) with
        | true => rw [if_neg (show ¬ bI true = 0 by decide), if_pos rfl]
        | false => rw [if_pos (show bI false = 0 from rfl), if_neg (by decide)]
      refine ⟨(v3, (if x = 0 then v4 else F (12 * i + j)), nI j + 1, u, s'), ?_, ?_⟩
      · rw [if_neg (show ¬ L (12 * i + j) = 98 by rw [cL]; decide), if_neg (show ¬ L (12 * i + j) = 100 by rw [cL]; decide), if_pos cL]
        by_cases cx : x = 0
        · rw [if_pos cx, if_pos cx]
        · rw [if_neg cx, if_neg cx, g5 (by rw [cL]; decide)]
      · refine ⟨?_, ev, nI_1 j, i4, i5, i6, ?_, fun t ht => ?_, henv, hrd⟩
        · rw [cdk 100 (Or.inl (by rw [cL]; decide))]; exact i1
        · rw [cdk 98 (Or.inl (by rw [cL]; decide))]; exact i7
        · rw [keep (Or.inl (by rw [cL]; decide))]; exact i8 t ht
    · obtain ⟨u', k1, k2, k3, k4⟩ := c_strike h hR hu hi hj cL i8 (by rw [← hXj]; exact cX) (g5 (by rw [cL]; decide)) (g6 cL)
      refine ⟨(v3, v4, nI j + 1, u', s'), ?_, ?_⟩
      · rw [if_neg (show ¬ L (12 * i + j) = 98 by rw [cL]; decide), if_neg (show ¬ L (12 * i + j) = 100 by rw [cL]; decide), if_neg (show ¬ L (12 * i + j) = 116 by rw [cL]; decide), if_pos cL, k1, Option.bind_some]
      · refine ⟨?_, ?_, nI_1 j, ⟨fun r' z1 z2 => (k2.1 r' z1 z2).trans (h0.1 r' z1 z2).symm, k2.2.1.trans h0.2.1.symm, fun x z1 z2 z3 => ?_⟩, ?_, ?_, ?_, k4, henv, hrd⟩
        · rw [cdk 100 (Or.inl (by rw [cL]; decide))]; exact i1
        · rw [cdk 116 (Or.inl (by rw [cL]; decide))]; exact i2
        · rw [show u'.1 0 x = u.1 0 x from congrFun k3 x]; exact i4.2.2 x z1 z2 z3
        · rw [show u'.1 0 10 = u.1 0 10 from congrFun k3 10]; exact i5
        · rw [show u'.1 0 11 = u.1 0 11 from congrFun k3 11]; exact i6
        · rw [show u'.1 0 9 = u.1 0 9 from congrFun k3 9, cdk 98 (Or.inl (by rw [cL]; decide))]; exact i7
  · have cX' : X (12 * i + j) = true := by
      cases hx : X (12 * i + j)
      · exact absurd hx cX
      · rfl
    rw [if_neg (fun e => cX (ht7.mp e))]
    refine ⟨(v3, v4, nI j + 1, u, s6), rfl, ?_, ?_, nI_1 j, i4, i5, i6, ?_, fun t ht => ?_, i9, p0, i10⟩
    · rw [cdk 100 (Or.inr (Or.inl cX'))]; exact i1
    · rw [cdk 116 (Or.inr (Or.inl cX'))]; exact i2
    · rw [cdk 98 (Or.inr (Or.inl cX'))]; exact i7
    · rw [keep (Or.inr cX')]; exact i8 t ht
