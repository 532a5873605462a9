-- lend: what is struck, and the reference's choice
/-- the clause z of the rule i strikes -/
def stX (L F S : Nat → Int32) (fc : Nat → Bool) (i z : Nat) (b : Nat → Bool) : Nat → Bool :=
  if L z = 120 ∧ b z = false ∧ (F z).toNatClampNeg < i ∧ fc (F z).toNatClampNeg = true then fun y => b y || decide (y = 12 * (F z).toNatClampNeg + (S z).toNatClampNeg) else b
def ruX (L F S : Nat → Int32) (fc : Nat → Bool) (i : Nat) (b : Nat → Bool) : Nat → Nat → Bool
  | 0 => b
  | j + 1 => stX L F S fc i (12 * i + j) (ruX L F S fc i b j)
/-- the rules below i strike, the higher first -/
def dnX (L F S : Nat → Int32) (fc : Nat → Bool) (K : Nat → Nat) : Nat → (Nat → Bool) → Nat → Bool
  | 0, b => b
  | i + 1, b => dnX L F S fc K i (if fc i = true then ruX L F S fc i b (K i) else b)
/-- the last of the first j clauses of the rule i that cd names -/
def bJ (cd : Nat → Bool) (i : Nat) : Nat → Int32
  | 0 => -1
  | j + 1 => if cd (12 * i + j) = true then nI (12 * i + j) else bJ cd i j
/-- the clause of the highest rule below i -/
def dR (cd fc : Nat → Bool) (K : Nat → Nat) : Nat → Int32
  | 0 => -1
  | i + 1 => if fc i = true ∧ ¬ bJ cd i (K i) = -1 then bJ cd i (K i) else dR cd fc K i
def RuS (r : Nat) (K : Nat → Nat) (L F S : Nat → Int32) : Prop := r ≤ 20 ∧ ∀ i, i < r → K i ≤ 12 ∧ ∀ j, j < K i → L (12 * i + j) = 120 → ∃ I J : Nat, I < 20 ∧ J < 12 ∧ F (12 * i + j) = nI I ∧ S (12 * i + j) = nI J
theorem lw_row {s : OS} {r i : Nat} {v : Int32} {r' : Nat} (h : r' ≠ r) : (wI s r i v).1 r' = s.1 r' := if_neg h
theorem lw_s {s : OS} {r i : Nat} {v : Int32} : (wI s r i v).1 r i = v := wI_at
theorem lw_n {s : OS} {r i : Nat} {v : Int32} {y : Nat} (h : y ≠ i) : (wI s r i v).1 r y = s.1 r y := by
  show (if r = r then _ else s.1 r) y = _
  rw [if_pos rfl]
  exact if_neg h
theorem bI_z {x : Bool} : (bI x = 0) ↔ x = false := by
  cases x
  · exact ⟨fun _ => rfl, fun _ => rfl⟩
  · exact ⟨fun e => absurd e (by decide), fun e => by cases e⟩
theorem ruX_above {r : Nat} {K : Nat → Nat} {L F S : Nat → Int32} {fc : Nat → Bool} (h : RuS r K L F S) {i : Nat} (hi : i < r) {b : Nat → Bool} {t s : Nat} (ht : i ≤ t) (_hs : s < 12) : ∀ j, j ≤ K i → ruX L F S fc i b j (12 * t + s) = b (12 * t + s)
  | 0, _ => rfl
  | j + 1, hj => by
    have ih := ruX_above (fc := fc) h hi (b := b) ht _hs j (by omega)
    show stX L F S fc i (12 * i + j) (ruX L F S fc i b j) (12 * t + s) = _
    unfold stX
    by_cases c : L (12 * i + j) = 120 ∧ ruX L F S fc i b j (12 * i + j) = false ∧ (F (12 * i + j)).toNatClampNeg < i ∧ fc (F (12 * i + j)).toNatClampNeg = true
    · rw [if_pos c]
      obtain ⟨I, J, g1, g2, g3, g4⟩ := (h.2 i hi).2 j (by omega) c.1
      have c3 := c.2.2.1
      rw [g3, nI_clamp (by omega)] at c3
      show (ruX L F S fc i b j (12 * t + s) || decide (12 * t + s = 12 * (F (12 * i + j)).toNatClampNeg + (S (12 * i + j)).toNatClampNeg)) = _
      rw [g3, g4, nI_clamp (by omega), nI_clamp (by omega), decide_eq_false (by omega), Bool.or_false, ih]
    · rw [if_neg c, ih]
theorem dnX_above {r : Nat} {K : Nat → Nat} {L F S : Nat → Int32} {fc : Nat → Bool} (h : RuS r K L F S) {t s : Nat} (hs : s < 12) : ∀ i, i ≤ r → i ≤ t → ∀ b : Nat → Bool, dnX L F S fc K i b (12 * t + s) = b (12 * t + s)
  | 0, _, _, _ => rfl
  | i + 1, hi, ht, b => by
    show dnX L F S fc K i (if fc i = true then ruX L F S fc i b (K i) else b) (12 * t + s) = _
    rw [dnX_above h hs i (by omega) (by omega)]
    by_cases c : fc i = true
    · rw [if_pos c, ruX_above h (by omega) (by omega) hs (K i) (Nat.le_refl _)]
    · rw [if_neg c]
def MR (r : Nat) (K : Nat → Nat) (fc : Nat → Bool) (L F S : Nat → Int32) (m : OS) : Prop := m.1 0 6 = nI r ∧ (∀ i, i < r → m.1 36 i = nI (K i)) ∧ (∀ i, i < r → fc i = decide ((m.1 34 i).toInt ≤ (m.1 0 2).toInt ∧ (m.1 0 2).toInt ≤ (m.1 35 i).toInt)) ∧ m.1 37 = L ∧ m.1 38 = F ∧ m.1 39 = S
def FrX (m m' : OS) : Prop := (∀ r, r ≠ 58 → m'.1 r = m.1 r) ∧ m'.2 = m.2
theorem MR.frX {r : Nat} {K : Nat → Nat} {fc : Nat → Bool} {L F S : Nat → Int32} {m m' : OS} (h : MR r K fc L F S m) (g : FrX m m') : MR r K fc L F S m' := by
  unfold MR
  rw [g.1 0 (by decide), g.1 36 (by decide), g.1 34 (by decide), g.1 35 (by decide), g.1 37 (by decide), g.1 38 (by decide), g.1 39 (by decide)]
  exact h
theorem MR.frE {r : Nat} {K : Nat → Nat} {fc : Nat → Bool} {L F S : Nat → Int32} {m m' : OS} (h : MR r K fc L F S m) (g : FrE m m') : MR r K fc L F S m' := by
  unfold MR
  rw [g.1 0 (by decide), g.1 36 (by decide), g.1 34 (by decide), g.1 35 (by decide), g.1 37 (by decide), g.1 38 (by decide), g.1 39 (by decide)]
  exact h
theorem FrX.tr {a b c : OS} (h : FrX a b) (g : FrX b c) : FrX a c := ⟨fun r hr => (g.1 r hr).trans (h.1 r hr), g.2.trans h.2⟩
theorem r_force {r : Nat} {K : Nat → Nat} {fc : Nat → Bool} {L F S : Nat → Int32} {m : OS} (hm : MR r K fc L F S m) (hr : r ≤ 20) {t : Nat} (ht : t < r) : f11_isInForce (nI t) m = some (bI (fc t)) := by
  obtain ⟨h6, h36, hf, h37, h38, h39⟩ := hm
  unfold f11_isInForce
  rw [inb_n (show t < 20 by omega) (by omega), chk_p, nm_p, chk_p, nm_p, nI_clamp (by omega), r_lies, Option.bind_some]
  simp only [Int32.toInt_toInt64]
  rw [hf t ht]
  by_cases c : (m.1 34 t).toInt ≤ (m.1 0 2).toInt ∧ (m.1 0 2).toInt ≤ (m.1 35 t).toInt
  · rw [b1_t c, decide_eq_true c]; rfl
  · rw [b1_f c, decide_eq_false c]; rfl
theorem r_str1 {r : Nat} {K : Nat → Nat} {fc : Nat → Bool} {L F S : Nat → Int32} (hR : RuS r K L F S) {m0 : OS} (hm0 : MR r K fc L F S m0) {i : Nat} (hi : i < r) {b : Nat → Bool} (hb : ∀ y, y < 12 * r → m0.1 58 y = bI (b y)) :
    ∃ q, loop (f11_strikes_l53 (nI i)) (nI (12 * i + 0), m0) = some q ∧ ∃ m', q = Sum.inl (nI i + (-1 : Int32), m') ∧ FrX m0 m' ∧ ∀ y, y < 12 * r → m'.1 58 y = bI (ruX L F S fc i b (K i) y) := by
  have hr := hR.1
  obtain ⟨hK, hX⟩ := hR.2 i hi
  refine loop_inv (K i) (fun j (s : Int32 × OS) => j ≤ K i ∧ s.1 = nI (12 * i + j) ∧ FrX m0 s.2 ∧ ∀ y, y < 12 * r → s.2.1 58 y = bI (ruX L F S fc i b j y)) _ ?_ (K i) 0 _ (by omega) ⟨by omega, rfl, ⟨fun _ _ => rfl, rfl⟩, hb⟩
  rintro j ⟨x, u⟩ ⟨hj, e, hF, hB⟩
  have e : x = nI (12 * i + j) := e
  subst e
  have hF : FrX m0 u := hF
  have hB : ∀ y, y < 12 * r → u.1 58 y = bI (ruX L F S fc i b j y) := hB
  have hu := hm0.frX hF
  obtain ⟨h6, h36, hf, h37, h38, h39⟩ := id hu
  unfold f11_strikes_l53 f11_strikes_j133 f11_strikes_j139
  have e12 : (12 : Int32) * nI i = nI (12 * i) := by rw [show (12 : Int32) = nI 12 from rfl, pk_mul]
  simp only [inb_n (show i < 20 by omega) (by omega : 20 < 2 ^ 31), chk_p, nm_p, nI_clamp (n := i) (by omega), h36 i hi, e12, nI_add, h37, h38, h39]
  by_cases c : j = K i
  · right
    subst c
    refine ⟨_, ?_, u, rfl, hF, hB⟩
    rw [if_pos (nI_le (Nat.le_refl _) (by omega))]; rfl
  · left
    have hlt : j < K i := by omega
    refine ⟨hlt, ?_⟩
    have hz : 12 * i + j < 240 := by omega
    rw [if_neg (nI_ge (a := 12 * i + j) (b := 12 * i + K i) (by omega) (by omega))]
    simp only [inb_n hz (by omega : 240 < 2 ^ 31), chk_p, nI_clamp (n := 12 * i + j) (by omega), nI_1, hB (12 * i + j) (by omega)]
    have hst : ∀ (P : Prop), P → (L (12 * i + j) = 120 ∧ ruX L F S fc i b j (12 * i + j) = false ∧ (F (12 * i + j)).toNatClampNeg < i ∧ fc (F (12 * i + j)).toNatClampNeg = true) = False → ∀ y, y < 12 * r → u.1 58 y = bI (ruX L F S fc i b (j + 1) y) := fun _ _ hn y hy => by
      show _ = bI (stX L F S fc i (12 * i + j) (ruX L F S fc i b j) y)
      unfold stX
      rw [if_neg (fun e => by rw [hn] at e; exact e)]
      exact hB y hy
    by_cases cL : L (12 * i + j) = 120
    · rw [if_pos cL]
      obtain ⟨I, J, g1, g2, g3, g4⟩ := hX j hlt cL
      by_cases cB : ruX L F S fc i b j (12 * i + j) = false
      · rw [if_pos (bI_z.mpr cB), g3]
        by_cases cI : I < i
        · rw [if_neg (nI_ge (a := I) (b := i) cI (by omega)), r_force hu hr (show I < r by omega), Option.bind_some]
          by_cases cf : fc I = true
          · rw [cf, if_neg (show ¬ bI true = 0 by decide), g4, show (12 : Int32) * nI I = nI (12 * I) by rw [show (12 : Int32) = nI 12 from rfl, pk_mul], nI_add, inb_n (show 12 * I + J < 240 by omega) (by omega), chk_p, nI_clamp (n := 12 * I + J) (by omega)]
            refine ⟨_, rfl, by omega, rfl, ⟨fun r' hr' => ?_, hF.2⟩, fun y hy => ?_⟩
            · show (wI u 58 (12 * I + J) _).1 r' = _
              rw [← hF.1 r' hr']
              exact lw_row hr'
            · show (wI u 58 (12 * I + J) _).1 58 y = bI (stX L F S fc i (12 * i + j) (ruX L F S fc i b j) y)
              unfold stX
              rw [if_pos ⟨cL, cB, by rw [g3, nI_clamp (by omega)]; exact cI, by rw [g3, nI_clamp (by omega)]; exact cf⟩]
              by_cases ey : y = 12 * I + J
              · subst ey
                rw [lw_s]
                show vp_nar .boolean (1 : Int32) = bI (_ || decide _)
                rw [g3, g4, nI_clamp (by omega), nI_clamp (by omega), decide_eq_true rfl, Bool.or_true]; rfl
              · rw [lw_n ey, hB y hy]
                show bI _ = bI (_ || decide _)
                rw [g3, g4, nI_clamp (by omega), nI_clamp (by omega), decide_eq_false ey, Bool.or_false]
          · rw [Bool.eq_false_iff.mpr cf, if_pos (show bI false = 0 from rfl)]
            exact ⟨_, rfl, by omega, rfl, hF, hst True trivial (eq_false (fun e => cf (by have := e.2.2.2; rw [g3, nI_clamp (by omega)] at this; exact this)))⟩
        · rw [if_pos (nI_le (a := i) (b := I) (by omega) (by omega))]
          exact ⟨_, rfl, by omega, rfl, hF, hst True trivial (eq_false (fun e => cI (by have := e.2.2.1; rw [g3, nI_clamp (by omega)] at this; exact this)))⟩
      · rw [if_neg (fun e => cB (bI_z.mp e))]
        exact ⟨_, rfl, by omega, rfl, hF, hst True trivial (eq_false (fun e => cB e.2.1))⟩
    · rw [if_neg cL]
      exact ⟨_, rfl, by omega, rfl, hF, hst True trivial (eq_false (fun e => cL e.1))⟩
