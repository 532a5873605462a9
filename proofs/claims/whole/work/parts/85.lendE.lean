-- lend: the reference's strikes and its choice of a clause
theorem r_str {r : Nat} {K : Nat → Nat} {fc : Nat → Bool} {L F S : Nat → Int32} (hR : RuS r K L F S) : ∀ i, i ≤ r → ∀ (m0 : OS) (b : Nat → Bool), MR r K fc L F S m0 → (∀ y, y < 12 * r → m0.1 58 y = bI (b y)) →
    ∃ m', loop f11_strikes_l33 (nI i - 1, m0) = some m' ∧ FrX m0 m' ∧ ∀ y, y < 12 * r → m'.1 58 y = bI (dnX L F S fc K i b y)
  | 0, _, m0, b, _, hb => ⟨m0, loop_inr (by unfold f11_strikes_l33; rw [if_pos (show nI 0 - 1 < 0 by decide)]; rfl), ⟨fun _ _ => rfl, rfl⟩, hb⟩
  | i + 1, hi, m0, b, hm, hb => by
    have hr := hR.1
    have e0 : nI (i + 1) - 1 = nI i := by rw [← nI_1, add_sub1]
    have e1 : nI i + (-1 : Int32) = nI i - 1 := by rw [Int32.sub_eq_add_neg]
    rw [e0]
    by_cases c : fc i = true
    · obtain ⟨q, g1, m', g2, g3, g4⟩ := r_str1 hR hm (show i < r by omega) hb
      obtain ⟨m2, k1, k2, k3⟩ := r_str hR i (by omega) m' _ (hm.frX g3) g4
      refine ⟨m2, ?_, g3.tr k2, fun y hy => ?_⟩
      · refine (loop_inl (s' := (nI i + (-1 : Int32), m')) ?_).trans ((congrArg (fun x => loop f11_strikes_l33 (x, m')) e1).trans k1)
        unfold f11_strikes_l33
        rw [if_neg (nI_pos (n := i) (by omega)), r_force hm hr (show i < r by omega), Option.bind_some, c, if_neg (show ¬ bI true = 0 by decide), nm_p]
        rw [show (12 : Int32) * nI i = nI (12 * i + 0) by rw [show (12 : Int32) = nI 12 from rfl, pk_mul]; rfl, g1, g2]
      · rw [k3 y hy]
        show _ = bI (dnX L F S fc K i (if fc i = true then ruX L F S fc i b (K i) else b) y)
        rw [if_pos c]
    · obtain ⟨m2, k1, k2, k3⟩ := r_str hR i (by omega) m0 b hm hb
      refine ⟨m2, ?_, k2, fun y hy => ?_⟩
      · refine (loop_inl (s' := (nI i + (-1 : Int32), m0)) ?_).trans ((congrArg (fun x => loop f11_strikes_l33 (x, m0)) e1).trans k1)
        unfold f11_strikes_l33 f11_strikes_j139
        rw [if_neg (nI_pos (n := i) (by omega)), r_force hm hr (show i < r by omega), Option.bind_some, Bool.eq_false_iff.mpr c, if_pos (show bI false = 0 from rfl)]; rfl
      · rw [k3 y hy]
        show _ = bI (dnX L F S fc K i (if fc i = true then ruX L F S fc i b (K i) else b) y)
        rw [if_neg c]
theorem r_strikes {r : Nat} {K : Nat → Nat} {fc : Nat → Bool} {L F S : Nat → Int32} (hR : RuS r K L F S) {m0 : OS} (hm : MR r K fc L F S m0) :
    ∃ m', f11_strikes m0 = some m' ∧ FrX m0 m' ∧ ∀ y, y < 12 * r → m'.1 58 y = bI (dnX L F S fc K r (fun _ => false) y) := by
  have hr := hR.1
  unfold f11_strikes
  refine loop_inv (12 * r) (fun j (s : Int32 × OS) => j ≤ 12 * r ∧ s.1 = nI j ∧ FrX m0 s.2 ∧ ∀ y, y < j → s.2.1 58 y = 0) _ ?_ (12 * r) 0 _ (by omega) ⟨by omega, rfl, ⟨fun _ _ => rfl, rfl⟩, fun y hy => by omega⟩
  rintro j ⟨x, u⟩ ⟨hj, e, hF, hB⟩
  have e : x = nI j := e
  subst e
  have hF : FrX m0 u := hF
  have hB : ∀ y, y < j → u.1 58 y = 0 := hB
  have hu := hm.frX hF
  have h6 := hu.1
  unfold f11_strikes_l2
  have e12 : (12 : Int32) * nI r = nI (12 * r) := by rw [show (12 : Int32) = nI 12 from rfl, pk_mul]
  simp only [h6, e12]
  by_cases c : j = 12 * r
  · right
    subst c
    obtain ⟨m2, k1, k2, k3⟩ := r_str hR r (Nat.le_refl _) u (fun _ => false) hu (fun y hy => (hB y hy).trans rfl)
    exact ⟨m2, by rw [if_pos (nI_le (Nat.le_refl _) (by omega)), nm_p, k1]; rfl, hF.tr k2, k3⟩
  · left
    refine ⟨by omega, ?_⟩
    rw [if_neg (nI_ge (a := j) (b := 12 * r) (by omega) (by omega)), inb_n (show j < 240 by omega) (by omega), chk_p, nm_p, nm_p, nI_1, nI_clamp (by omega)]
    refine ⟨_, rfl, by omega, rfl, ⟨fun r' hr' => ?_, hF.2⟩, fun y hy => ?_⟩
    · exact (lw_row hr').trans (hF.1 r' hr')
    · by_cases ey : y = j
      · subst ey
        exact lw_s.trans rfl
      · exact (lw_n ey).trans (hB y (by omega))
/-- the clause z bears the letter c, is not struck and holds -/
def cdX (L : Nat → Int32) (X H : Nat → Bool) (c : Int32) (z : Nat) : Bool := decide (L z = c) && !X z && H z
theorem r_cl1 {r : Nat} {K : Nat → Nat} {fc : Nat → Bool} {L F S : Nat → Int32} {X H : Nat → Bool} {c0 : Int32} (hR : RuS r K L F S) {m0 : OS} (hm0 : MR r K fc L F S m0) (hX : ∀ y, y < 12 * r → m0.1 58 y = bI (X y))
    (hH : ∀ i j, i < r → j < K i → L (12 * i + j) = c0 → ∀ m, FrE m0 m → ∃ m', f11_holds (nI (12 * i + j)) m = some (bI (H (12 * i + j)), m') ∧ FrE m m') {i : Nat} (hi : i < r) (hf : fc i = true) : ∀ j, j ≤ K i → ∀ m, FrE m0 m →
    ∃ m', FrE m0 m' ∧ loop (f11_clauseOf_l25 c0 (nI i)) (nI (12 * i + j) - 1, m) = some (if bJ (cdX L X H c0) i j = -1 then Sum.inl (nI i + (-1 : Int32), m') else Sum.inr (bJ (cdX L X H c0) i j, m'))
  | 0, _, m, hm => ⟨m, hm, by
    have hr := hR.1
    refine loop_inr ?_
    unfold f11_clauseOf_l25 f11_clauseOf_j76
    have : ∀ q : Fin 20, nI (12 * q.1 + 0) - 1 < (12 : Int32) * nI q.1 := by decide
    rw [if_pos (this ⟨i, by omega⟩)]
    rw [show bJ (cdX L X H c0) i 0 = -1 from rfl, if_pos rfl]; rfl⟩
  | j + 1, hj, m, hm => by
    have hr := hR.1
    have hK := (hR.2 i hi).1
    have hz : 12 * i + j < 240 := by omega
    have e0 : nI (12 * i + (j + 1)) - 1 = nI (12 * i + j) := by rw [show 12 * i + (j + 1) = 12 * i + j + 1 from rfl, ← nI_1, add_sub1]
    have e1 : nI (12 * i + j) + (-1 : Int32) = nI (12 * i + j) - 1 := by rw [Int32.sub_eq_add_neg]
    have e12 : (12 : Int32) * nI i = nI (12 * i) := by rw [show (12 : Int32) = nI 12 from rfl, pk_mul]
    have hmr := hm0.frE hm
    have w37 := hmr.2.2.2.1
    have w58 : m.1 58 (12 * i + j) = bI (X (12 * i + j)) := by rw [hm.1 58 (by decide)]; exact hX _ (by omega)
    rw [e0]
    show ∃ m', FrE m0 m' ∧ loop (f11_clauseOf_l25 c0 (nI i)) (nI (12 * i + j), m) = some (if (if cdX L X H c0 (12 * i + j) = true then nI (12 * i + j) else bJ (cdX L X H c0) i j) = -1 then Sum.inl (nI i + (-1 : Int32), m') else Sum.inr (if cdX L X H c0 (12 * i + j) = true then nI (12 * i + j) else bJ (cdX L X H c0) i j, m'))
    have step : ∀ m', FrE m0 m' → cdX L X H c0 (12 * i + j) = false → f11_clauseOf_l25 c0 (nI i) (nI (12 * i + j), m) = some (Sum.inl (nI (12 * i + j) + (-1 : Int32), m')) → ∃ m', FrE m0 m' ∧ loop (f11_clauseOf_l25 c0 (nI i)) (nI (12 * i + j), m) = some (if (if cdX L X H c0 (12 * i + j) = true then nI (12 * i + j) else bJ (cdX L X H c0) i j) = -1 then Sum.inl (nI i + (-1 : Int32), m') else Sum.inr (if cdX L X H c0 (12 * i + j) = true then nI (12 * i + j) else bJ (cdX L X H c0) i j, m')) := by
      intro m' h1 h2 h3
      obtain ⟨m2, g1, g2⟩ := r_cl1 hR hm0 hX hH hi hf j (by omega) m' h1
      refine ⟨m2, g1, ?_⟩
      rw [loop_inl h3, e1, g2, h2]; rfl
    have b0 : f11_clauseOf_l25 c0 (nI i) (nI (12 * i + j), m) = (if L (12 * i + j) = c0 then (if X (12 * i + j) = false then Option.bind (f11_holds (nI (12 * i + j)) m) fun q_62 => if q_62.1 = 0 then (f11_clauseOf_j70 c0 (nI i) (nI (12 * i + j)) q_62.2) else (Option.map Sum.inr (Option.map Sum.inr (some (nI (12 * i + j), q_62.2)))) else f11_clauseOf_j70 c0 (nI i) (nI (12 * i + j)) m) else f11_clauseOf_j70 c0 (nI i) (nI (12 * i + j)) m) := by
      unfold f11_clauseOf_l25
      simp only [e12, chk_p, nm_p, nI_clamp (n := 12 * i + j) (by omega), inb_n hz (by omega : 240 < 2 ^ 31), w37, w58]
      rw [if_neg (show ¬ nI (12 * i + j) < nI (12 * i) from nI_nlt (a := 12 * i + j) (b := 12 * i) (by omega) (by omega)), r_force hmr hr hi, Option.bind_some, hf, if_neg (show ¬ bI true = 0 by decide)]
      by_cases c1 : L (12 * i + j) = c0
      · rw [if_pos c1, if_pos c1]
        by_cases c2 : X (12 * i + j) = false
        · rw [if_pos c2, if_pos (bI_z.mpr c2)]
        · rw [if_neg c2, if_neg (fun e => c2 (bI_z.mp e))]
      · rw [if_neg c1, if_neg c1]
    by_cases c1 : L (12 * i + j) = c0
    · by_cases c2 : X (12 * i + j) = false
      · obtain ⟨m', g1, g2⟩ := hH i j hi (by omega) c1 m hm
        by_cases c3 : H (12 * i + j) = true
        · refine ⟨m', hm.trans g2, ?_⟩
          have hcd : cdX L X H c0 (12 * i + j) = true := by unfold cdX; rw [c2, c3, decide_eq_true c1]; rfl
          rw [hcd, if_pos rfl, if_neg (nI_m1 (by omega))]
          refine loop_inr ?_
          rw [b0, if_pos c1, if_pos c2, g1, c3]; rfl
        · have c3 := Bool.eq_false_iff.mpr c3
          refine step m' (hm.trans g2) (by unfold cdX; rw [c3, Bool.and_false]) ?_
          rw [b0, if_pos c1, if_pos c2, g1, c3]
          unfold f11_clauseOf_j70
          simp only [nm_p]; rfl
      · refine step m hm (by unfold cdX; rw [show X (12 * i + j) = true by cases h : X (12 * i + j); exact absurd h c2; rfl, Bool.not_true, Bool.and_false, Bool.false_and]) ?_
        rw [b0, if_pos c1, if_neg c2]
        unfold f11_clauseOf_j70
        simp only [nm_p]
    · refine step m hm (by unfold cdX; rw [decide_eq_false c1, Bool.false_and, Bool.false_and]) ?_
      rw [b0, if_neg c1]
      unfold f11_clauseOf_j70
      simp only [nm_p]
theorem r_cl {r : Nat} {K : Nat → Nat} {fc : Nat → Bool} {L F S : Nat → Int32} {X H : Nat → Bool} {c0 : Int32} (hR : RuS r K L F S) {m0 : OS} (hm0 : MR r K fc L F S m0) (hX : ∀ y, y < 12 * r → m0.1 58 y = bI (X y))
    (hH : ∀ i j, i < r → j < K i → L (12 * i + j) = c0 → ∀ m, FrE m0 m → ∃ m', f11_holds (nI (12 * i + j)) m = some (bI (H (12 * i + j)), m') ∧ FrE m m') : ∀ i, i ≤ r → ∀ m, FrE m0 m →
    ∃ m', FrE m0 m' ∧ loop (f11_clauseOf_l7 c0) (nI i - 1, m) = some (dR (cdX L X H c0) fc K i, m')
  | 0, _, m, hm => ⟨m, hm, loop_inr (by unfold f11_clauseOf_l7; rw [if_pos (show nI 0 - 1 < 0 by decide)]; rfl)⟩
  | i + 1, hi, m, hm => by
    have hr := hR.1
    obtain ⟨hK, hXX⟩ := hR.2 i (by omega)
    have e0 : nI (i + 1) - 1 = nI i := by rw [← nI_1, add_sub1]
    have e1 : nI i + (-1 : Int32) = nI i - 1 := by rw [Int32.sub_eq_add_neg]
    have hmr := hm0.frE hm
    have w36 : m.1 36 i = nI (K i) := hmr.2.1 i (by omega)
    have e12 : (12 : Int32) * nI i = nI (12 * i) := by rw [show (12 : Int32) = nI 12 from rfl, pk_mul]
    rw [e0]
    have b0 : f11_clauseOf_l7 c0 (nI i, m) = loop (f11_clauseOf_l25 c0 (nI i)) (nI (12 * i + K i) - 1, m) := by
      unfold f11_clauseOf_l7
      rw [if_neg (nI_pos (n := i) (by omega)), inb_n (show i < 20 by omega) (by omega), chk_p, nm_p, nI_clamp (by omega), nm_p, w36, e12, nI_add]
    show ∃ m', FrE m0 m' ∧ loop (f11_clauseOf_l7 c0) (nI i, m) = some ((if fc i = true ∧ ¬ bJ (cdX L X H c0) i (K i) = -1 then bJ (cdX L X H c0) i (K i) else dR (cdX L X H c0) fc K i), m')
    by_cases c : fc i = true
    · obtain ⟨m', g1, g2⟩ := r_cl1 hR hm0 hX hH (show i < r by omega) c (K i) (Nat.le_refl _) m hm
      by_cases c2 : bJ (cdX L X H c0) i (K i) = -1
      · rw [if_pos c2] at g2
        obtain ⟨m2, k1, k2⟩ := r_cl hR hm0 hX hH i (by omega) m' g1
        exact ⟨m2, k1, by rw [loop_inl (b0.trans g2), e1, k2, if_neg (fun e => e.2 c2)]⟩
      · rw [if_neg c2] at g2
        exact ⟨m', g1, by rw [loop_inr (b0.trans g2), if_pos ⟨c, c2⟩]⟩
    · obtain ⟨m2, k1, k2⟩ := r_cl hR hm0 hX hH i (by omega) m hm
      refine ⟨m2, k1, ?_⟩
      rw [if_neg (fun e => c e.1)]
      refine (loop_inl (s' := (nI i + (-1 : Int32), m)) (b0.trans (loop_inr ?_))).trans (by rw [e1, k2])
      unfold f11_clauseOf_l25 f11_clauseOf_j76
      rw [r_force hmr hr (show i < r by omega), Option.bind_some, Bool.eq_false_iff.mpr c, if_pos (show bI false = 0 from rfl)]
      simp only [nm_p]
      rw [ite_self]; rfl
theorem r_clauseOf {r : Nat} {K : Nat → Nat} {fc : Nat → Bool} {L F S : Nat → Int32} {X H : Nat → Bool} {c0 : Int32} (hR : RuS r K L F S) {m0 : OS} (hm0 : MR r K fc L F S m0) (hX : ∀ y, y < 12 * r → m0.1 58 y = bI (X y))
    (hH : ∀ i j, i < r → j < K i → L (12 * i + j) = c0 → ∀ m, FrE m0 m → ∃ m', f11_holds (nI (12 * i + j)) m = some (bI (H (12 * i + j)), m') ∧ FrE m m') {m : OS} (hm : FrE m0 m) : ∃ m', FrE m0 m' ∧ f11_clauseOf c0 m = some (dR (cdX L X H c0) fc K r, m') := by
  unfold f11_clauseOf
  rw [nm_p, (hm0.frE hm).1]
  exact r_cl hR hm0 hX hH r (Nat.le_refl _) m hm
