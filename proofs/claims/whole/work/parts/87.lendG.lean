-- lend: the class's walk over all rules
theorem c_one {r : Nat} {K N : Nat → Nat} {fc X H : Nat → Bool} {L F S : Nat → Int32} {env : Nat → Int64} {day : Int32} {s5 s0 s6 : OS} (h : MC r K N fc H L F S env day s5) (hR : RuS r K L F S) (h0 : FrB s5 s0) {i : Nat} (hi : i < r) {b : Nat → Bool} (h9 : s0.1 0 9 = 0 ∨ s0.1 0 9 = 1)
    (hXb : ∀ j, j < K i → X (12 * i + j) = b (12 * i + j)) (h7 : ∀ t, t < r → s0.1 7 t = mk7 b t) (he : s6.2 3 = env) :
    ∃ q, f5_applyOne (nI i) day s0 s6 = some q ∧ (FrB s5 q.1 ∧ (q.1.1 0 9 = if bJ (cdX L X H 98) i (K i) = -1 then s0.1 0 9 else 1) ∧ (q.1.1 0 10 = if s0.1 0 10 = -1 then vF F (bJ (cdX L X H 100) i (K i)) else s0.1 0 10) ∧ (q.1.1 0 11 = if s0.1 0 11 = -1 then vF F (bJ (cdX L X H 116) i (K i)) else s0.1 0 11) ∧
      (∀ t, t < r → q.1.1 7 t = mk7 (ruX L F S fc i b (K i)) t) ∧ q.2.2 3 = env) := by
  have hr := hR.1
  obtain ⟨y1, y2, y3, y4, y5, y6⟩ := h.2 i hi
  obtain ⟨hK, _⟩ := hR.2 i hi
  have w8 : s0.1 0 8 = nI r := (h0.2.2 8 (by decide) (by decide) (by decide)).trans h.1
  have w2 : s0.1 2 i = nI (N i) := by rw [h0.1 2 (by decide) (by decide), y2]
  have w1 : s0.1 1 = s5.1 1 := h0.1 1 (by decide) (by decide)
  obtain ⟨s', t1, ⟨t2, t3, t4⟩, t5, t6⟩ := c_turn (s5 := s0) (s6 := s6) (base := i * 160) (n := N i) (by omega) y1 (fun x hx => by rw [w1, Nat.mul_comm]; exact y4 x hx)
  unfold f5_applyOne
  rw [c_has5 w8 hr hi, Option.bind_some, if_neg (show ¬ (1 : Int32) = 0 by decide), inb_n (show i < 20 by omega) (by omega), chk_p, nm_p, nI_clamp (by omega), w2, show nI i * (160 : Int32) = nI (i * 160) by rw [show (160 : Int32) = nI 160 from rfl, pk_mul], t1, Option.bind_some]
  refine loop_inv (K i) (fun j s => j ≤ K i ∧ InB r i (fun x => s5.1 1 (160 * i + x)) (N i) L F S fc X H env s0 (s0.1 0 9) b j s) _ ?_ (K i) 0 _ (by omega) ⟨by omega, rfl, rfl, rfl, ⟨fun _ _ _ => rfl, rfl, fun _ _ _ _ => rfl⟩, rfl, rfl, rfl, h7, by show s'.2 3 = env; rw [t6]; exact he, 0, t2, t3, t4, Or.inl rfl, fun x hx => ?_⟩
  · rintro j s ⟨hj, hI⟩
    by_cases c : j = K i
    · right
      subst c
      obtain ⟨v3, v4, v5, u, s6'⟩ := s
      obtain ⟨i1, i2, i3, i4, i5, i6, i7, i8, i9, p0, i10⟩ := hI
      have i1 : v3 = vF F (bJ (cdX L X H 100) i (K i)) := i1
      have i2 : v4 = vF F (bJ (cdX L X H 116) i (K i)) := i2
      have i3 : v5 = nI (K i) := i3
      have i4 : FrB s0 u := i4
      have i5 : u.1 0 10 = s0.1 0 10 := i5
      have i6 : u.1 0 11 = s0.1 0 11 := i6
      have i7 : u.1 0 9 = if bJ (cdX L X H 98) i (K i) = -1 then s0.1 0 9 else 1 := i7
      have i8 : ∀ t, t < r → u.1 7 t = mk7 (ruX L F S fc i b (K i)) t := i8
      have i9 : s6'.2 3 = env := i9
      subst i3
      have w5 : u.1 5 i = nI (K i) := by rw [i4.1 5 (by decide) (by decide), h0.1 5 (by decide) (by decide), y3]
      refine ⟨(wI (wI u 0 10 (if s0.1 0 10 = -1 then v3 else s0.1 0 10)) 0 11 (if s0.1 0 11 = -1 then v4 else s0.1 0 11), s6'), ?_, ?_⟩
      · unfold f5_applyOne_l39 f5_applyOne_j233 f5_applyOne_j250 f5_applyOne_j271
        simp only [inb_n (show i < 20 by omega) (by omega : 20 < 2 ^ 31), chk_p, nm_p, nI_clamp (n := i) (by omega), w5]
        rw [if_pos (nI_le (Nat.le_refl _) (by omega)), i5]
        have e11 : ∀ v, (wI u 0 10 v).1 0 11 = s0.1 0 11 := fun v => (lw_n (by decide)).trans i6
        simp only [e11]
        by_cases c1 : s0.1 0 10 = -1
        · rw [if_pos c1, if_pos c1]
          by_cases c2 : s0.1 0 11 = -1
          · rw [if_pos c2, if_pos c2]; rfl
          · rw [if_neg c2, if_neg c2]; rfl
        · rw [if_neg c1, if_neg c1]
          by_cases c2 : s0.1 0 11 = -1
          · rw [if_pos c2, if_pos c2]; rfl
          · rw [if_neg c2, if_neg c2]; rfl
      · refine ⟨⟨fun r' z1 z2 => (lw_row z1).trans ((lw_row z1).trans ((i4.1 r' z1 z2).trans (h0.1 r' z1 z2))), i4.2.1.trans h0.2.1, fun x z1 z2 z3 => (lw_n z3).trans ((lw_n z2).trans ((i4.2.2 x z1 z2 z3).trans (h0.2.2 x z1 z2 z3)))⟩, (lw_n (by decide)).trans ((lw_n (by decide)).trans i7), ?_, ?_, fun t ht => ?_, i9⟩
        · exact (lw_n (by decide)).trans (lw_s.trans (by rw [show v3 = _ from i1]))
        · exact lw_s.trans (by rw [show v4 = _ from i2])
        · exact (congrFun (lw_row (by decide)) t).trans ((congrFun (lw_row (by decide)) t).trans (i8 t ht))
    · left
      refine ⟨by omega, ?_⟩
      obtain ⟨t, g1, g2⟩ := c_one1 h hR h0 hi h9 hXb (show j < K i by omega) hI
      exact ⟨t, g1, by omega, g2⟩
  · show s'.1 1 x = s5.1 1 (160 * i + x)
    rw [t5 x hx, w1, Nat.mul_comm]
theorem bJ_is {cd : Nat → Bool} {i : Nat} : ∀ j, bJ cd i j = -1 ∨ ∃ j', j' < j ∧ bJ cd i j = nI (12 * i + j') ∧ cd (12 * i + j') = true
  | 0 => Or.inl rfl
  | j + 1 => by
    show (if cd (12 * i + j) = true then nI (12 * i + j) else bJ cd i j) = -1 ∨ ∃ j', j' < j + 1 ∧ (if cd (12 * i + j) = true then nI (12 * i + j) else bJ cd i j) = nI (12 * i + j') ∧ cd (12 * i + j') = true
    by_cases c : cd (12 * i + j) = true
    · rw [if_pos c]; exact Or.inr ⟨j, by omega, rfl, c⟩
    · rw [if_neg c]
      rcases bJ_is (cd := cd) (i := i) j with e | ⟨j', e1, e2, e3⟩
      · exact Or.inl e
      · exact Or.inr ⟨j', by omega, e2, e3⟩
theorem dR_is {cd fc : Nat → Bool} {K : Nat → Nat} : ∀ i, dR cd fc K i = -1 ∨ ∃ i' j', i' < i ∧ j' < K i' ∧ dR cd fc K i = nI (12 * i' + j') ∧ cd (12 * i' + j') = true
  | 0 => Or.inl rfl
  | i + 1 => by
    show (if fc i = true ∧ ¬ bJ cd i (K i) = -1 then bJ cd i (K i) else dR cd fc K i) = -1 ∨ ∃ i' j', i' < i + 1 ∧ j' < K i' ∧ (if fc i = true ∧ ¬ bJ cd i (K i) = -1 then bJ cd i (K i) else dR cd fc K i) = nI (12 * i' + j') ∧ cd (12 * i' + j') = true
    by_cases c : fc i = true ∧ ¬ bJ cd i (K i) = -1
    · rw [if_pos c]
      rcases bJ_is (cd := cd) (i := i) (K i) with e | ⟨j', e1, e2, e3⟩
      · exact Or.inl e
      · exact Or.inr ⟨i, j', by omega, e1, e2, e3⟩
    · rw [if_neg c]
      rcases dR_is (cd := cd) (fc := fc) (K := K) i with e | ⟨i', j', e1, e2⟩
      · exact Or.inl e
      · exact Or.inr ⟨i', j', by omega, e2⟩
theorem vF_m1 {F : Nat → Int32} {K : Nat → Nat} {i : Nat} (hi : i < 20) (hK : K i ≤ 12) (hF : ∀ j, j < K i → ¬ F (12 * i + j) = -1) {cd : Nat → Bool} : vF F (bJ cd i (K i)) = -1 ↔ bJ cd i (K i) = -1 := by
  rcases bJ_is (cd := cd) (i := i) (K i) with e | ⟨j', e1, e2, e3⟩
  · rw [e]; exact ⟨fun _ => rfl, fun _ => rfl⟩
  · rw [e2]
    unfold vF
    rw [if_neg (nI_m1 (by omega)), nI_clamp (by omega)]
    exact ⟨fun e => absurd e (hF j' e1), fun e => absurd e (nI_m1 (by omega))⟩
/-- the sum of what one rule says and what the lower say -/
theorem v_join {F : Nat → Int32} {K : Nat → Nat} {fc cd : Nat → Bool} {i : Nat} {v w : Int32} (hi : i < 20) (hK : K i ≤ 12) (hF : ∀ j, j < K i → ¬ F (12 * i + j) = -1) (hf : fc i = true) (hw : w = if v = -1 then vF F (bJ cd i (K i)) else v) : (if w = -1 then vF F (dR cd fc K i) else w) = if v = -1 then vF F (dR cd fc K (i + 1)) else v := by
  show _ = if v = -1 then vF F (if fc i = true ∧ ¬ bJ cd i (K i) = -1 then bJ cd i (K i) else dR cd fc K i) else v
  by_cases c : v = -1
  · rw [if_pos c] at hw
    rw [if_pos c, hw]
    by_cases c2 : bJ cd i (K i) = -1
    · rw [if_pos ((vF_m1 hi hK hF).mpr c2), if_neg (fun e => e.2 c2)]
    · rw [if_neg (fun e => c2 ((vF_m1 hi hK hF).mp e)), if_pos ⟨hf, c2⟩]
  · rw [if_neg c] at hw
    rw [if_neg c, hw, if_neg c]
theorem c_app {r : Nat} {K N : Nat → Nat} {fc X H : Nat → Bool} {L F S : Nat → Int32} {env : Nat → Int64} {day : Int32} {s5 : OS} (h : MC r K N fc H L F S env day s5) (hR : RuS r K L F S) (hF : ∀ i, i < r → ∀ j, j < K i → ¬ F (12 * i + j) = -1) : ∀ i, i ≤ r → ∀ (s0 s6 : OS) (b : Nat → Bool), FrB s5 s0 → (s0.1 0 9 = 0 ∨ s0.1 0 9 = 1) → (∀ t, t < r → s0.1 7 t = mk7 b t) → s6.2 3 = env → (∀ t j, t < i → j < 12 → X (12 * t + j) = dnX L F S fc K i b (12 * t + j)) →
    ∃ u s6', loop (f5_apply_l43 day) (nI i - 1, s0, s6) = some (u, s6') ∧ FrB s5 u ∧ (u.1 0 9 = if dR (cdX L X H 98) fc K i = -1 then s0.1 0 9 else 1) ∧ (u.1 0 10 = if s0.1 0 10 = -1 then vF F (dR (cdX L X H 100) fc K i) else s0.1 0 10) ∧ (u.1 0 11 = if s0.1 0 11 = -1 then vF F (dR (cdX L X H 116) fc K i) else s0.1 0 11)
  | 0, _, s0, s6, b, h0, _, _, _, _ => ⟨s0, s6, loop_inr (by unfold f5_apply_l43; rw [if_pos (show nI 0 - 1 < 0 by decide)]; rfl), h0, rfl, by
      show _ = if s0.1 0 10 = -1 then (-1 : Int32) else _
      by_cases c : s0.1 0 10 = -1
      · rw [if_pos c, c]
      · rw [if_neg c], by
      show _ = if s0.1 0 11 = -1 then (-1 : Int32) else _
      by_cases c : s0.1 0 11 = -1
      · rw [if_pos c, c]
      · rw [if_neg c]⟩
  | i + 1, hi, s0, s6, b, h0, h9, h7, he, hX => by
    have hr := hR.1
    have hK := (hR.2 i (by omega)).1
    have e0 : nI (i + 1) - 1 = nI i := by rw [← nI_1, add_sub1]
    have e1 : nI i + (-1 : Int32) = nI i - 1 := by rw [Int32.sub_eq_add_neg]
    rw [e0]
    by_cases c : fc i = true
    · have hXb : ∀ j, j < K i → X (12 * i + j) = b (12 * i + j) := fun j hj => by
        rw [hX i j (by omega) (by omega)]
        show dnX L F S fc K i (if fc i = true then ruX L F S fc i b (K i) else b) (12 * i + j) = _
        rw [if_pos c, dnX_above hR (by omega) i (by omega) (Nat.le_refl _), ruX_above hR (by omega) (Nat.le_refl _) (by omega) (K i) (Nat.le_refl _)]
      obtain ⟨q, g1, g2, g3, g4, g5, g6, g7⟩ := c_one h hR h0 (show i < r by omega) h9 hXb h7 he
      obtain ⟨u, s6', k1, k2, k3, k4, k5⟩ := c_app (X := X) h hR hF i (by omega) q.1 q.2 (ruX L F S fc i b (K i)) g2 (by
        rw [g3]
        by_cases c2 : bJ (cdX L X H 98) i (K i) = -1
        · rw [if_pos c2]; exact h9
        · rw [if_neg c2]; exact Or.inr rfl) g6 g7 (fun t j ht hj => by
        rw [hX t j (by omega) hj]
        show dnX L F S fc K i (if fc i = true then ruX L F S fc i b (K i) else b) (12 * t + j) = _
        rw [if_pos c])
      refine ⟨u, s6', ?_, k2, ?_, ?_, ?_⟩
      · refine (loop_inl (s' := (nI i + (-1 : Int32), q.1, q.2)) ?_).trans (by rw [e1]; exact k1)
        unfold f5_apply_l43 f5_apply_j62
        rw [if_neg (nI_pos (n := i) (by omega)), c_force h h0 hr (show i < r by omega), Option.bind_some, c, if_neg (show ¬ bI true = 0 by decide), g1]; rfl
      · rw [k3, g3]
        show _ = if (if fc i = true ∧ ¬ bJ (cdX L X H 98) i (K i) = -1 then bJ (cdX L X H 98) i (K i) else dR (cdX L X H 98) fc K i) = -1 then s0.1 0 9 else 1
        by_cases c2 : bJ (cdX L X H 98) i (K i) = -1
        · rw [if_pos c2, if_neg (show ¬ (fc i = true ∧ ¬ bJ (cdX L X H 98) i (K i) = -1) from fun e => e.2 c2)]
        · rw [if_neg c2, if_pos (show fc i = true ∧ ¬ bJ (cdX L X H 98) i (K i) = -1 from ⟨c, c2⟩), if_neg c2, ite_self]
      · rw [k4]; exact v_join (by omega) hK (hF i (by omega)) c g4
      · rw [k5]; exact v_join (by omega) hK (hF i (by omega)) c g5
    · obtain ⟨u, s6', k1, k2, k3, k4, k5⟩ := c_app (X := X) h hR hF i (by omega) s0 s6 b h0 h9 h7 he (fun t j ht hj => by
        rw [hX t j (by omega) hj]
        show dnX L F S fc K i (if fc i = true then ruX L F S fc i b (K i) else b) (12 * t + j) = _
        rw [if_neg c])
      have hd : ∀ cd, dR cd fc K (i + 1) = dR cd fc K i := fun cd => if_neg (fun e => c e.1)
      refine ⟨u, s6', ?_, k2, by rw [hd]; exact k3, by rw [hd]; exact k4, by rw [hd]; exact k5⟩
      refine (loop_inl (s' := (nI i + (-1 : Int32), s0, s6)) ?_).trans (by rw [e1]; exact k1)
      unfold f5_apply_l43 f5_apply_j62
      rw [if_neg (nI_pos (n := i) (by omega)), c_force h h0 hr (show i < r by omega), Option.bind_some, Bool.eq_false_iff.mpr c, if_pos (show bI false = 0 from rfl)]; rfl
theorem c_apply {r : Nat} {K N : Nat → Nat} {fc H : Nat → Bool} {L F S : Nat → Int32} {env : Nat → Int64} {day : Int32} {s5 s6 : OS} (h : MC r K N fc H L F S env day s5) (hR : RuS r K L F S) (hF : ∀ i, i < r → ∀ j, j < K i → ¬ F (12 * i + j) = -1) (he : s6.2 3 = env) :
    ∃ q, f5_apply day s5 s6 = some q ∧ ∃ u s6', q = (u, s6') ∧ FrB s5 u ∧ (u.1 0 9 = if dR (cdX L (dnX L F S fc K r (fun _ => false)) H 98) fc K r = -1 then 0 else 1) ∧ u.1 0 10 = vF F (dR (cdX L (dnX L F S fc K r (fun _ => false)) H 100) fc K r) ∧ u.1 0 11 = vF F (dR (cdX L (dnX L F S fc K r (fun _ => false)) H 116) fc K r) := by
  have hr := hR.1
  unfold f5_apply
  simp only [nm_p]
  refine loop_inv 20 (fun j (s : Int32 × OS) => j ≤ 20 ∧ s.1 = nI j ∧ FrB s5 s.2 ∧ s.2.1 0 9 = 0 ∧ s.2.1 0 10 = -1 ∧ s.2.1 0 11 = -1 ∧ ∀ t, t < j → s.2.1 7 t = 0) _ ?_ 20 0 _ (by omega) ⟨by omega, rfl, ⟨fun r' z1 _ => (lw_row z1).trans ((lw_row z1).trans (lw_row z1)), rfl, fun x z1 z2 z3 => (lw_n z3).trans ((lw_n z2).trans (lw_n z1))⟩, rfl, rfl, rfl, fun t ht => by omega⟩
  rintro j ⟨x, u⟩ ⟨hj, e, hF0, h9, h10, h11, h7⟩
  have e : x = nI j := e
  subst e
  have hF0 : FrB s5 u := hF0
  have h9 : u.1 0 9 = 0 := h9
  have h10 : u.1 0 10 = -1 := h10
  have h11 : u.1 0 11 = -1 := h11
  have h7 : ∀ t, t < j → u.1 7 t = 0 := h7
  unfold f5_apply_l17
  by_cases c : j = 20
  · right
    subst c
    obtain ⟨u', s6', k1, k2, k3, k4, k5⟩ := c_app (X := dnX L F S fc K r (fun _ => false)) h hR hF r (Nat.le_refl _) u s6 (fun _ => false) hF0 (Or.inl h9) (fun t ht => (h7 t (by omega)).trans (mk_zero.mpr (fun s _ => Bool.and_false _)).symm) he (fun t j _ _ => rfl)
    refine ⟨(u', s6'), ?_, u', s6', rfl, k2, by rw [k3, h9], by rw [k4, if_pos h10], by rw [k5, if_pos h11]⟩
    have e8 : u.1 0 8 = nI r := (hF0.2.2 8 (by decide) (by decide) (by decide)).trans h.1
    rw [if_pos (show (20 : Int32) ≤ nI 20 from by decide), nm_p, e8, k1]; rfl
  · left
    refine ⟨by omega, ?_⟩
    rw [if_neg (show ¬ (20 : Int32) ≤ nI j from nI_ge (a := j) (b := 20) (by omega) (by omega)), inb_n (show j < 20 by omega) (by omega), chk_p, nm_p, nm_p, nI_1, nI_clamp (by omega)]
    refine ⟨_, rfl, by omega, rfl, ⟨fun r' z1 z2 => (lw_row z2).trans (hF0.1 r' z1 z2), hF0.2.1, fun x z1 z2 z3 => (congrFun (lw_row (by decide)) x).trans (hF0.2.2 x z1 z2 z3)⟩, (congrFun (lw_row (by decide)) 9).trans h9, (congrFun (lw_row (by decide)) 10).trans h10, (congrFun (lw_row (by decide)) 11).trans h11, fun t ht => ?_⟩
    by_cases et : t = j
    · subst et; exact lw_s
    · exact (lw_n et).trans (h7 t (by omega))
