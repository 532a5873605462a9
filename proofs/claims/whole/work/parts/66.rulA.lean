-- rules: the class's reader, its smallest steps
def hd (T : Nat → Int32) (n p : Nat) : Int32 := if p < n then T p else 0
def sg (T : Nat → Int32) (n p : Nat) : Int32 := if p < n then T p else -1
theorem sg_hd {T : Nat → Int32} {n p : Nat} {c : Int32} (h0 : ¬ c = 0) (h1 : ¬ c = -1) : sg T n p = c ↔ hd T n p = c := by
  unfold sg hd
  by_cases h : p < n
  · rw [if_pos h, if_pos h]
  · rw [if_neg h, if_neg h]
    exact ⟨fun e => absurd e.symm h1, fun e => absurd e.symm h0⟩
theorem hd_lt {T : Nat → Int32} {n p : Nat} (h : ¬ hd T n p = 0) : p < n := by
  rcases Nat.lt_or_ge p n with c | c
  · exact c
  · exact absurd (show hd T n p = 0 by unfold hd; rw [if_neg (by omega)]) h
/-- what stays while an expression is read -/
def FrR (s s' : OS) : Prop := (∀ r, r ≠ 0 → s'.1 r = s.1 r) ∧ s'.2 = s.2 ∧ ∀ i, i ≠ 4 → i ≠ 6 → i ≠ 7 → i ≠ 11 → s'.1 0 i = s.1 0 i
theorem FrR.refl (s : OS) : FrR s s := ⟨fun _ _ => rfl, rfl, fun _ _ _ _ _ => rfl⟩
theorem FrR.trans {a b c : OS} (h : FrR a b) (g : FrR b c) : FrR a c := ⟨fun r h1 => (g.1 r h1).trans (h.1 r h1), g.2.1.trans h.2.1, fun i h1 h2 h3 h4 => (g.2.2 i h1 h2 h3 h4).trans (h.2.2 i h1 h2 h3 h4)⟩
theorem FrR.slot {s s' : OS} {i : Nat} {v : Int32} (h : FrR s s') (hi : i = 4 ∨ i = 6 ∨ i = 7 ∨ i = 11) : FrR s (wI s' 0 i v) := by
  refine h.trans ⟨fun r h1 => wI_of h1, rfl, fun j h1 h2 h3 h4 => ?_⟩
  show (if j = i then v else s'.1 0 j) = _
  rw [if_neg (by omega)]
/-- a fault has been told -/
def Flt (k pl : Nat) (s s' : OS) : Prop := s'.1 0 6 = nI k ∧ s'.1 0 7 = nI pl ∧ ¬ s'.1 0 6 = 0 ∧ FrR s s'
theorem Flt.fr {k pl : Nat} {a b c : OS} (h : FrR a b) (g : Flt k pl b c) : Flt k pl a c := ⟨g.1, g.2.1, g.2.2.1, h.trans g.2.2.2⟩
-- behind a fault nothing is read
theorem x_sign {s : OS} (h : ¬ s.1 0 6 = 0) : f6_sign s = some (-1) := by
  unfold f6_sign f6_sign_j47 f6_sign_j48
  rw [if_neg h]
theorem x_fail {s : OS} (h : ¬ s.1 0 6 = 0) (a b : Int32) : f6_fail a b s = some s := by
  unfold f6_fail f6_fail_j17
  rw [if_neg h]
theorem x_take {s : OS} (h : ¬ s.1 0 6 = 0) {c : Int32} (hc : ¬ c = -1) : f6_take c s = some (0, s) := by
  unfold f6_take
  rw [x_sign h, Option.bind_some, if_neg (fun e => hc e.symm)]
theorem x_req {s : OS} (h : ¬ s.1 0 6 = 0) {c : Int32} (hc : ¬ c = -1) : f6_require c s = some s := by
  unfold f6_require f6_require_j30
  rw [x_sign h, Option.bind_some, if_neg (fun e => hc e.symm), x_fail h, Option.bind_some]
theorem dig_m1 : f6_isDigit (-1) = some 0 := by
  unfold f6_isDigit f6_isDigit_j16 f6_isDigit_j17
  rw [if_pos (show (-1 : Int32) < 48 by decide)]; rfl
theorem x_digits {s : OS} (h : ¬ s.1 0 6 = 0) : f6_readDigits s = some (0, s) := by
  unfold f6_readDigits
  refine loop_inr ?_
  unfold f6_readDigits_l4 f6_readDigits_j49 f6_readDigits_j84
  show (if (6 : Int32) ≤ (0 : Int32) then _ else (Option.bind (f6_sign s) fun q_11 => Option.bind (f6_isDigit q_11) fun q_14 => if q_14 = 0 then (Option.map Sum.inr (if (0 : Int32) = 0 then Option.bind (f6_fail 1 (s.1 0 4) s) fun q_59 => some ((0 : Int32), q_59) else _)) else _)) = _
  rw [if_neg (show ¬ (6 : Int32) ≤ 0 by decide), x_sign h, Option.bind_some, dig_m1, Option.bind_some, if_pos rfl, if_pos rfl, x_fail h, Option.bind_some]
  rfl
theorem x_factor {s : OS} (h : ¬ s.1 0 6 = 0) (rs : Int32 → Int32 → OS → Option (Int64 × OS)) (o ask : Int32) : f6_readFactor rs o ask s = some (0, s) := by
  unfold f6_readFactor f6_readFactor_j86 f6_readFactor_j103
  rw [x_sign h, Option.bind_some, dig_m1, Option.bind_some, if_pos rfl, if_neg (show ¬ (-1 : Int32) = 91 by decide), if_pos rfl, if_pos (show (-1 : Int32) < 0 by decide), x_fail h, Option.bind_some]
theorem x_product {s : OS} (h : ¬ s.1 0 6 = 0) (rs : Int32 → Int32 → OS → Option (Int64 × OS)) (o ask : Int32) : f6_readProduct rs o ask s = some (0, s) := by
  unfold f6_readProduct
  rw [x_factor h, Option.bind_some]
  refine loop_inr ?_
  unfold f6_readProduct_l10 f6_readProduct_j139
  show (if (160 : Int32) ≤ 0 then _ else _) = _
  rw [if_neg (show ¬ (160 : Int32) ≤ 0 by decide)]
  simp only [x_sign h, Option.bind_some]
  rw [if_neg (show ¬ (-1 : Int32) = 42 by decide), if_neg (show ¬ (-1 : Int32) = 47 by decide), if_neg (show ¬ (-1 : Int32) = 37 by decide)]; rfl
theorem x_sumb {s : OS} (h : ¬ s.1 0 6 = 0) (rs : Int32 → Int32 → OS → Option (Int64 × OS)) (o ask : Int32) : f6_readSum_b rs o ask s = some (0, s) := by
  unfold f6_readSum_b
  rw [x_product h, Option.bind_some]
  refine loop_inr ?_
  unfold f6_readSum_b_l10 f6_readSum_b_j93
  show (if (160 : Int32) ≤ 0 then _ else _) = _
  rw [if_neg (show ¬ (160 : Int32) ≤ 0 by decide)]
  simp only [x_sign h, Option.bind_some]
  rw [if_neg (show ¬ (-1 : Int32) = 43 by decide), if_neg (show ¬ (-1 : Int32) = 45 by decide)]; rfl
theorem x_sum {s : OS} (h : ¬ s.1 0 6 = 0) (d : Nat) (o ask : Int32) : f6_readSum (d + 1) o ask s = some (0, s) := x_sumb h _ _ _
theorem x_order {s : OS} (h : ¬ s.1 0 6 = 0) : f6_readOrder s = some (-1, s) := by
  unfold f6_readOrder f6_readOrder_j45
  rw [x_sign h, Option.bind_some, if_neg (show ¬ (-1 : Int32) = 60 by decide), if_neg (show ¬ (-1 : Int32) = 62 by decide), if_neg (show ¬ (-1 : Int32) = 61 by decide), x_fail h, Option.bind_some]
theorem areSo_01 (a : Int64) (c : Int32) (b : Int64) : ∃ x, f6_areSo a c b = some x ∧ (x = 0 ∨ x = 1) := by
  have j0 : chk (isB (0 : Int32)) (some (0 : Int32)) = some 0 := rfl
  have j1 : chk (isB (1 : Int32)) (some (1 : Int32)) = some 1 := rfl
  unfold f6_areSo f6_areSo_j17 f6_areSo_j49
  rw [j0, j1]
  by_cases c1 : c = 60
  · rw [if_pos c1]
    by_cases c2 : 0 ≤ lg_cmp a b
    · rw [if_pos c2]; exact ⟨0, rfl, Or.inl rfl⟩
    · rw [if_neg c2]; exact ⟨1, rfl, Or.inr rfl⟩
  · rw [if_neg c1]
    by_cases c3 : c = 62
    · rw [if_pos c3]
      by_cases c2 : lg_cmp a b ≤ 0
      · rw [if_pos c2]; exact ⟨0, rfl, Or.inl rfl⟩
      · rw [if_neg c2]; exact ⟨1, rfl, Or.inr rfl⟩
    · rw [if_neg c3]
      by_cases c2 : lg_cmp a b = 0
      · rw [if_pos c2]; exact ⟨1, rfl, Or.inr rfl⟩
      · rw [if_neg c2]; exact ⟨0, rfl, Or.inl rfl⟩
theorem x_cmp {s : OS} (h : ¬ s.1 0 6 = 0) (o ask : Int32) : ∃ x, f6_readComparison o ask s = some (x, s) ∧ (x = 0 ∨ x = 1) := by
  obtain ⟨x, e1, e2⟩ := areSo_01 0 (-1) 0
  refine ⟨x, ?_, e2⟩
  unfold f6_readComparison
  rw [x_sum h 7, Option.bind_some, x_order h, Option.bind_some, x_sum h 7, Option.bind_some, e1, Option.bind_some]
theorem single_cmp (rs : Int32 → Int32 → OS → Option (Int32 × OS)) {o ask c : Int32} {s : OS} (h : f6_sign s = some c) (h33 : ¬ c = 33) (h40 : ¬ c = 40) : f6_readSingle_b rs o ask s = Option.bind (f6_readComparison o ask s) fun q => chk (isB q.1) (some (q.1, q.2)) := by
  unfold f6_readSingle_b f6_readComparison
  rw [h, Option.bind_some, if_neg h33, if_neg h40]
  simp only [Option.bind_assoc, Option.bind_some]
theorem x_singleb {s : OS} (h : ¬ s.1 0 6 = 0) (rs : Int32 → Int32 → OS → Option (Int32 × OS)) (o ask : Int32) : ∃ x, f6_readSingle_b rs o ask s = some (x, s) ∧ (x = 0 ∨ x = 1) := by
  obtain ⟨x, e1, e2⟩ := x_cmp h o ask
  refine ⟨x, ?_, e2⟩
  rw [single_cmp rs (x_sign h) (by decide) (by decide), e1, Option.bind_some]
  rcases e2 with rfl | rfl <;> rfl
theorem x_single {s : OS} (h : ¬ s.1 0 6 = 0) (d : Nat) (o ask : Int32) : ∃ x, f6_readSingle (d + 1) o ask s = some (x, s) ∧ (x = 0 ∨ x = 1) := x_singleb h _ _ _
theorem x_all {s : OS} (h : ¬ s.1 0 6 = 0) {rs : Int32 → Int32 → OS → Option (Int32 × OS)} (o ask : Int32) (hrs : ∃ x, rs o ask s = some (x, s) ∧ (x = 0 ∨ x = 1)) : ∃ x, f6_readAll rs o ask s = some (x, s) ∧ (x = 0 ∨ x = 1) := by
  obtain ⟨x, hrs, hx⟩ := hrs
  refine ⟨x, ?_, hx⟩
  unfold f6_readAll
  rw [hrs, Option.bind_some]
  refine loop_inr ?_
  unfold f6_readAll_l10 f6_readAll_j68
  show (if (160 : Int32) ≤ 0 then _ else _) = _
  rw [if_neg (show ¬ (160 : Int32) ≤ 0 by decide)]
  simp only [x_take h (show ¬ (38 : Int32) = -1 by decide), Option.bind_some, ↓reduceIte]
  rcases hx with rfl | rfl <;> rfl
theorem x_any {s : OS} (h : ¬ s.1 0 6 = 0) {rs : Int32 → Int32 → OS → Option (Int32 × OS)} (o ask : Int32) (hrs : ∃ x, rs o ask s = some (x, s) ∧ (x = 0 ∨ x = 1)) : ∃ x, f6_readAny rs o ask s = some (x, s) ∧ (x = 0 ∨ x = 1) := by
  obtain ⟨x, ha, hx⟩ := x_all h o ask hrs
  refine ⟨x, ?_, hx⟩
  unfold f6_readAny
  rw [ha, Option.bind_some]
  refine loop_inr ?_
  unfold f6_readAny_l10 f6_readAny_j68
  show (if (160 : Int32) ≤ 0 then _ else _) = _
  rw [if_neg (show ¬ (160 : Int32) ≤ 0 by decide)]
  simp only [x_take h (show ¬ (124 : Int32) = -1 by decide), Option.bind_some, ↓reduceIte]
  rcases hx with rfl | rfl <;> rfl
-- a step at a place
theorem c_sign {T : Nat → Int32} {n p : Nat} {s : OS} (h : RdS T n p s) (hn : n ≤ 160) (hp : p ≤ n) : f6_sign s = some (sg T n p) := by
  obtain ⟨h1, h2, h3, _, h5⟩ := h
  unfold f6_sign f6_sign_j47 f6_sign_j48 sg
  rw [if_pos h3, h2, h1, if_neg (nI_pos (n := p) (by omega))]
  by_cases c : p < n
  · rw [if_pos c, if_neg (nI_ge c (by omega)), if_neg (show ¬ (160 : Int32) ≤ nI p from nI_ge (a := p) (b := 160) (by omega) (by omega)), nI_clamp (by omega), inb_n (show p < 160 by omega) (by omega), chk_p, nm_p, h5 p c]
  · rw [if_neg c, if_pos (nI_le (by omega) (by omega))]
theorem c_go {T : Nat → Int32} {n p : Nat} {s : OS} (h : RdS T n p s) : RdS T n (p + 1) (wI s 0 4 (s.1 0 4 + 1)) ∧ FrR s (wI s 0 4 (s.1 0 4 + 1)) ∧ (wI s 0 4 (s.1 0 4 + 1)).1 0 11 = s.1 0 11 := by
  obtain ⟨h1, h2, h3, h4, h5⟩ := h
  refine ⟨⟨h1, ?_, h3, h4, h5⟩, (FrR.refl s).slot (Or.inl rfl), rfl⟩
  show (wI s 0 4 (s.1 0 4 + 1)).1 0 4 = _
  rw [wI_at, h2, nI_1]
theorem c_flt {T : Nat → Int32} {n p : Nat} {s : OS} (h : RdS T n p s) {k pl : Nat} (hk : 0 < k) (hk2 : k < 10) : ∃ s', f6_fail (nI k) (nI pl) s = some s' ∧ Flt k pl s s' := by
  unfold f6_fail f6_fail_j17
  rw [if_pos h.2.2.1]
  simp only [nm_p]
  refine ⟨_, rfl, rfl, rfl, ?_, ((FrR.refl s).slot (Or.inr (Or.inl rfl))).slot (Or.inr (Or.inr (Or.inl rfl)))⟩
  show ¬ nI k = (0 : Int32)
  exact fun e => by
    have := (nI_eq (a := k) (b := 0) (by omega) (by omega)).mp e
    omega
theorem c_take {T : Nat → Int32} {n p : Nat} {s : OS} (h : RdS T n p s) (hn : n ≤ 160) (hp : p ≤ n) {c : Int32} (h0 : ¬ c = 0) (h1 : ¬ c = -1) : (hd T n p = c ∧ p < n ∧ ∃ s', f6_take c s = some (1, s') ∧ RdS T n (p + 1) s' ∧ FrR s s' ∧ s'.1 0 11 = s.1 0 11) ∨ (¬ hd T n p = c ∧ f6_take c s = some (0, s)) := by
  unfold f6_take
  rw [c_sign h hn hp, Option.bind_some]
  by_cases e : hd T n p = c
  · rw [if_pos ((sg_hd h0 h1).mpr e), nm_p]
    obtain ⟨g1, g2, g3⟩ := c_go h
    exact Or.inl ⟨e, hd_lt (fun z => h0 (e.symm.trans z)), _, rfl, g1, g2, g3⟩
  · rw [if_neg (fun z => e ((sg_hd h0 h1).mp z))]
    exact Or.inr ⟨e, rfl⟩
theorem c_req {T : Nat → Int32} {n p : Nat} {s : OS} (h : RdS T n p s) (hn : n ≤ 160) (hp : p ≤ n) {c : Int32} (h0 : ¬ c = 0) (h1 : ¬ c = -1) : (hd T n p = c ∧ p < n ∧ ∃ s', f6_require c s = some s' ∧ RdS T n (p + 1) s' ∧ FrR s s' ∧ s'.1 0 11 = s.1 0 11) ∨ (¬ hd T n p = c ∧ ∃ s', f6_require c s = some s' ∧ Flt 1 p s s') := by
  unfold f6_require f6_require_j30
  rw [c_sign h hn hp, Option.bind_some]
  by_cases e : hd T n p = c
  · rw [if_pos ((sg_hd h0 h1).mpr e), nm_p]
    obtain ⟨g1, g2, g3⟩ := c_go h
    exact Or.inl ⟨e, hd_lt (fun z => h0 (e.symm.trans z)), _, rfl, g1, g2, g3⟩
  · rw [if_neg (fun z => e ((sg_hd h0 h1).mp z))]
    obtain ⟨s', g1, g2⟩ := c_flt h (k := 1) (pl := p) (by omega) (by omega)
    have g1 : f6_fail 1 (s.1 0 4) s = some s' := by rw [h.2.1]; exact g1
    rw [g1]
    exact Or.inr ⟨e, s', rfl, g2⟩
/-- is a byte a digit -/
def isD (c : Int32) : Prop := 48 ≤ c.toInt ∧ c.toInt ≤ 57
theorem c_isDig (c : Int32) : ∃ x, f6_isDigit c = some x ∧ ((x = 1 ∧ isD c) ∨ (x = 0 ∧ ¬ isD c)) := by
  unfold f6_isDigit f6_isDigit_j16 f6_isDigit_j17 isD
  have e1 : (48 : Int32).toInt = 48 := rfl
  have e2 : (57 : Int32).toInt = 57 := rfl
  by_cases h1 : c < 48
  · rw [if_pos h1]
    rw [Int32.lt_iff_toInt_lt] at h1
    exact ⟨0, rfl, Or.inr ⟨rfl, fun e => by omega⟩⟩
  · rw [if_neg h1]
    rw [Int32.lt_iff_toInt_lt] at h1
    by_cases h2 : (57 : Int32) < c
    · rw [if_pos h2]
      rw [Int32.lt_iff_toInt_lt] at h2
      exact ⟨0, rfl, Or.inr ⟨rfl, fun e => by omega⟩⟩
    · rw [if_neg h2]
      rw [Int32.lt_iff_toInt_lt] at h2
      exact ⟨1, rfl, Or.inl ⟨rfl, by omega⟩⟩
theorem sg_D {T : Nat → Int32} {n p : Nat} : isD (sg T n p) ↔ isD (hd T n p) := by
  unfold sg hd isD
  by_cases h : p < n
  · rw [if_pos h, if_pos h]
  · rw [if_neg h, if_neg h]
    have e1 : (-1 : Int32).toInt = -1 := rfl
    have e2 : (0 : Int32).toInt = 0 := rfl
    rw [e1, e2]
    omega
