-- judge, best: all rows in turn
theorem r_rowsOf {a : Nat} (ha : a ≤ 6) : f11_rowsOf (nI a) = some (nI (5 ^ a)) := by
  have hb : ∀ i, i ≤ 6 → 5 ^ i ≤ 15625 := fun i hi => Nat.le_trans (Nat.pow_le_pow_right (by omega) hi) (by decide)
  unfold f11_rowsOf
  refine Exists.elim (loop_inv (f := f11_rowsOf_l4 (nI a)) a (fun i (t : Int32 × Int32) => i ≤ a ∧ t.1 = nI (5 ^ i) ∧ t.2 = nI i) (fun r => r = nI (5 ^ a)) ?_ a 0 ((1 : Int32), (0 : Int32)) (by omega) ⟨by omega, rfl, rfl⟩) (fun r hr => by rw [hr.1, hr.2])
  rintro i ⟨x, y⟩ ⟨hi, e1, e2⟩
  have e1 : x = nI (5 ^ i) := e1
  have e2 : y = nI i := e2
  subst e1 e2
  unfold f11_rowsOf_l4
  by_cases c : i = a
  · right
    subst c
    refine ⟨_, ?_, rfl⟩
    show (if nI i ≤ nI i then _ else _) = _
    rw [if_pos (show nI i ≤ nI i from nI_le (Nat.le_refl _) (by omega))]; rfl
  · left
    have := hb i (by omega)
    refine ⟨by omega, ?_⟩
    show ∃ t, (if nI a ≤ nI i then _ else _) = some (Sum.inl t) ∧ _
    rw [if_neg (nI_ge (show i < a by omega) (by omega))]
    simp only [nm_p, nI_1]
    exact ⟨_, rfl, by omega, by rw [show (5 : Int32) = nI 5 from rfl, pk_mul, Nat.pow_succ], rfl⟩
def Fn (m m' : OS) : Prop := (∀ r, r ≠ 0 → r ≠ 89 → m'.1 r = m.1 r) ∧ (∀ i, i ≠ 92 → i ≠ 93 → m'.1 0 i = m.1 0 i) ∧ ∀ r, r ≠ 0 → m'.2 r = m.2 r
theorem Fn.refl (m : OS) : Fn m m := ⟨fun _ _ _ => rfl, fun _ _ _ => rfl, fun _ _ => rfl⟩
theorem Fn.trans {a b c : OS} (h : Fn a b) (g : Fn b c) : Fn a c := ⟨fun r h1 h2 => (g.1 r h1 h2).trans (h.1 r h1 h2), fun i h1 h2 => (g.2.1 i h1 h2).trans (h.2.1 i h1 h2), fun r h1 => (g.2.2 r h1).trans (h.2.2 r h1)⟩
theorem MsH.fn {a st L : Nat} {w v W : Nat → Nat} {q M : Nat → Int32} {P : Nat → Nat} {m m' : OS} (h : MsH a st L w v W q M P m) (g : Fn m m') : MsH a st L w v W q M P m' := by
  obtain ⟨h1, ⟨h2, h3, h4⟩, h5, h6⟩ := h
  refine ⟨h1, ⟨(g.2.1 10 (by decide) (by decide)).trans h2, (g.2.1 90 (by decide) (by decide)).trans h3, (g.2.1 89 (by decide) (by decide)).trans h4⟩, fun i hi => ?_, fun s hs => ?_⟩
  · rw [g.1 85 (by decide) (by decide), g.1 86 (by decide) (by decide), g.1 87 (by decide) (by decide)]; exact h5 i hi
  · rw [g.1 88 (by decide) (by decide), g.1 14 (by decide) (by decide), g.1 15 (by decide) (by decide)]; exact h6 s hs
def RB (L a : Nat) (w v W : Nat → Nat) (B : Option Nat) (m : OS) : Prop := (B = none → m.1 0 92 = -1) ∧ ∀ r, B = some r → r < 5 ^ a ∧ m.1 0 92 = nI r ∧ m.1 0 93 = nI (woS v (dg a r) a) ∧ (m.2 0 94).toInt = (losS L w W (dg a r) a 4 : Nat)
theorem r_next {a st L : Nat} {w v W : Nat → Nat} {q M : Nat → Int32} {P : Nat → Nat} {m : OS} {B : Option Nat} {r : Nat} (h : MsH a st L w v W q M P m) (hB : RB L a w v W B m) (hr : r < 5 ^ a) : ∃ m', loop (f11_chooses_l34 (nI r)) (nI r, nI a - 1, m) = some (Sum.inl (nI (r + 1), m')) ∧ Fn m m' ∧ RB L a w v W (upB a st L w v W q M B r) m' := by
  obtain ⟨ha, hst, hL⟩ := id h.1
  have h5a : 5 ^ a ≤ 15625 := Nat.le_trans (Nat.pow_le_pow_right (by omega) ha) (by decide)
  have hv : ∀ j, j < a → v j ≤ 1000 := fun j hj => (h.2.2.1 j hj).2.2.2.2
  have bW : ∀ e' : Nat → Nat, woS v e' a ≤ 6000 := fun e' => Nat.le_trans (woS_le e' a hv) (Nat.mul_le_mul_right 1000 ha)
  have bL : ∀ e' : Nat → Nat, losS L w W e' a 4 ≤ 24000000 := fun e' => Nat.le_trans (losS_le 4) (by
    have := Nat.mul_le_mul ha hL
    omega)
  have hm1 : ∀ x : Nat, x < 2 ^ 30 → ¬ nI x = (-1 : Int32) := fun x hx e9 => by
    have := congrArg Int32.toInt e9
    rw [nI_toInt (by omega)] at this
    have : (x : Int) = -1 := this
    omega
  have e0 : nI a - 1 = nI a + (-1) := Int32.sub_eq_add_neg (nI a) 1
  rw [e0]
  refine Exists.elim (loop_inv (f := f11_chooses_l34 (nI r)) a (fun c (t : Int32 × Int32 × OS) => c ≤ a ∧ t.1 = nI (r / 5 ^ c) ∧ t.2.1 = nI (a - c) + (-1) ∧ Fn m t.2.2 ∧ t.2.2.1 0 = m.1 0 ∧ t.2.2.2 = m.2 ∧ ∀ i, a - c ≤ i → i < a → t.2.2.1 89 i = nI (dg a r i)) (fun o : (Int32 × OS) ⊕ OS => ∃ m', o = Sum.inl (nI (r + 1), m') ∧ Fn m m' ∧ RB L a w v W (upB a st L w v W q M B r) m') ?_ a 0 (nI r, nI a + (-1), m) (by omega) ⟨by omega, by rw [Nat.pow_zero, Nat.div_one], by rw [Nat.sub_zero], Fn.refl m, rfl, rfl, fun i h1 h2 => by omega⟩) (fun o ho => by
    obtain ⟨ho, m', rfl, h2⟩ := ho
    exact ⟨m', ho, h2⟩)
  rintro c ⟨x, y, u⟩ ⟨hc, e1, e2, e3, e4, e5, e6⟩
  have e1 : x = nI (r / 5 ^ c) := e1
  have e2 : y = nI (a - c) + (-1) := e2
  subst e1 e2
  have e3 : Fn m u := e3
  have e4 : u.1 0 = m.1 0 := e4
  have e5 : u.2 = m.2 := e5
  have e6 : ∀ i, a - c ≤ i → i < a → u.1 89 i = nI (dg a r i) := e6
  unfold f11_chooses_l34 f11_chooses_j112 f11_chooses_j131
  by_cases hca : c = a
  · right
    obtain ⟨qq, m', k1, k2, k3, k4, k5⟩ := r_worth (h.fn e3) (fun i hi => ⟨e6 i (by omega) hi, dg_le a r i⟩)
    have hF' : Fn m m' := e3.trans ⟨fun r _ _ => by rw [k2], fun i _ _ => by rw [k2], k3⟩
    have hB' : RB L a w v W B m' := by
      refine ⟨fun z => by rw [k2, e4]; exact hB.1 z, fun r' z => ?_⟩
      rw [k2, e4, k4 94 (by decide), e5]
      exact hB.2 r' z
    have keep : ¬ (Rgt a st L w W q M (dg a r) ∧ bett L a w v W B r) → ∃ r_1, (Option.map Sum.inr (nm (nI r + 1) fun n_131 => (some (Sum.inl (n_131, m')) : Option ((Int32 × OS) ⊕ OS))) : Option ((Int32 × Int32 × OS) ⊕ ((Int32 × OS) ⊕ OS))) = some (Sum.inr r_1) ∧ ∃ m', r_1 = Sum.inl (nI (r + 1), m') ∧ Fn m m' ∧ RB L a w v W (upB a st L w v W q M B r) m' := by
      intro hn
      refine ⟨_, rfl, m', by rw [← nI_1], hF', ?_⟩
      rw [upB_f hn]; exact hB'
    have take : Rgt a st L w W q M (dg a r) → bett L a w v W B r → qq = nI (woS v (dg a r) a) → (m'.2 0 91).toInt = (losS L w W (dg a r) a 4 : Nat) → ∃ r_1, (Option.map Sum.inr (nm (wI m' 0 92 (nI r)) fun s11_114 => nm (wI s11_114 0 93 qq) fun s11_120 => nm (wL s11_120 0 94 (s11_120.2 0 91)) fun s11_128 => nm (nI r + 1) fun n_131 => (some (Sum.inl (n_131, s11_128)) : Option ((Int32 × OS) ⊕ OS))) : Option ((Int32 × Int32 × OS) ⊕ ((Int32 × OS) ⊕ OS))) = some (Sum.inr r_1) ∧ ∃ m', r_1 = Sum.inl (nI (r + 1), m') ∧ Fn m m' ∧ RB L a w v W (upB a st L w v W q M B r) m' := by
      intro hR hb hq hl
      refine ⟨_, rfl, wL (wI (wI m' 0 92 (nI r)) 0 93 qq) 0 94 (m'.2 0 91), by rw [← nI_1]; rfl, hF'.trans ⟨fun r' h1 h2 => ?_, fun i h1 h2 => ?_, fun r' h1 => ?_⟩, ?_⟩
      · show (if r' = 0 then _ else if r' = 0 then _ else m'.1 r') = _
        rw [if_neg h1, if_neg h1]
      · show (if i = 93 then _ else if i = 92 then _ else m'.1 0 i) = _
        rw [if_neg h2, if_neg h1]
      · show (if r' = 0 then _ else m'.2 r') = _
        rw [if_neg h1]
      · rw [upB_t hR hb]
        refine ⟨fun z => (by cases z), fun r' z => ?_⟩
        cases z
        exact ⟨hr, rfl, hq, hl⟩
    show ∃ r_1, (if nI (a - c) + (-1) < 0 then _ else _) = some (Sum.inr r_1) ∧ _
    rw [hca, Nat.sub_self, if_pos (show nI 0 + (-1) < (0 : Int32) by decide)]
    simp only [k1, Option.bind_some]
    rcases k5 with ⟨hR, hq, hl⟩ | ⟨hR, hq⟩
    · have bW' := bW (dg a r)
      have bL' := bL (dg a r)
      rw [if_neg (show ¬ qq = -1 by rw [hq]; exact hm1 _ (by omega))]
      cases B with
      | none =>
        rw [if_pos (show m'.1 0 92 = -1 from hB'.1 rfl)]
        exact take hR (fun r' z => by cases z) hq hl
      | some r' =>
        obtain ⟨g0, g1, g2, g3⟩ := hB'.2 r' rfl
        have bL2 := bL (dg a r')
        have bW2 := bW (dg a r')
        rw [if_neg (show ¬ m'.1 0 92 = -1 by rw [g1]; exact hm1 _ (by omega)), g2]
        by_cases c1 : woS v (dg a r) a < woS v (dg a r') a
        · rw [if_pos (show qq < nI (woS v (dg a r') a) by rw [hq]; exact nI_lt c1 (by omega))]
          refine keep (fun hb => ?_)
          have := hb.2 r' rfl
          omega
        · rw [if_neg (show ¬ qq < nI (woS v (dg a r') a) by rw [hq]; exact nI_nlt (by omega) (by omega))]
          by_cases c2 : woS v (dg a r) a = woS v (dg a r') a
          · rw [if_pos (show qq = nI (woS v (dg a r') a) by rw [hq, c2])]
            by_cases c3 : losS L w W (dg a r) a 4 < losS L w W (dg a r') a 4
            · rw [if_pos ((lg_lt0 _ _).mpr (by rw [hl, g3]; omega))]
              exact take hR (fun r2 z => by cases z; exact Or.inr ⟨c2.symm, c3⟩) hq hl
            · rw [if_neg (fun z => by have := (lg_lt0 _ _).mp z; rw [hl, g3] at this; omega)]
              refine keep (fun hb => ?_)
              have := hb.2 r' rfl
              omega
          · rw [if_neg (show ¬ qq = nI (woS v (dg a r') a) by rw [hq]; exact fun z => c2 ((nI_eq (by omega) (by omega)).mp z))]
            exact take hR (fun r2 z => by cases z; exact Or.inl (by omega)) hq hl
    · rw [if_pos hq]
      exact keep (fun hb => hR hb.1)
  · left
    have hlt : c < a := by omega
    have ey : nI (a - c) + (-1) = nI (a - (c + 1)) := by rw [show a - c = a - (c + 1) + 1 by omega, pk_m1]
    refine ⟨hlt, ?_⟩
    have hq5 : r / 5 ^ c ≤ r := Nat.div_le_self _ _
    show ∃ t, (if nI (a - c) + (-1) < 0 then _ else _) = some (Sum.inl t) ∧ _
    rw [ey, if_neg (nI_pos (n := a - (c + 1)) (by omega))]
    simp only [nI_clamp (n := a - (c + 1)) (by omega), inb_n (show a - (c + 1) < 6 by omega) (by omega : 6 < 2 ^ 31), chk_p, nm_p]
    rw [show nI (r / 5 ^ c) - nI (r / 5 ^ c) / 5 * 5 = nI (r / 5 ^ c % 5) from pk_rem (a := r / 5 ^ c) (d := 5) (by omega) (by omega) (by omega), show nI (r / 5 ^ c) / 5 = nI (r / 5 ^ c / 5) from pk_div (a := r / 5 ^ c) (d := 5) (by omega) (by omega) (by omega)]
    refine ⟨_, rfl, by omega, ?_, rfl, e3.trans ⟨fun r' h1 h2 => wI_of h2, fun i _ _ => rfl, fun _ _ => rfl⟩, ?_, e5, fun i h1 h2 => ?_⟩
    · show nI (r / 5 ^ c / 5) = nI (r / 5 ^ (c + 1))
      rw [Nat.div_div_eq_div_mul, Nat.pow_succ]
    · exact e4
    · show (if i = a - (c + 1) then nI (r / 5 ^ c % 5) else u.1 89 i) = _
      by_cases c2 : i = a - (c + 1)
      · rw [if_pos c2, c2]
        unfold dg
        rw [show a - 1 - (a - (c + 1)) = c by omega]
      · rw [if_neg c2]; exact e6 i (by omega) h2
theorem r_all {a st L : Nat} {w v W : Nat → Nat} {q M : Nat → Int32} {P : Nat → Nat} {m : OS} (h : MsH a st L w v W q M P m) (hB : RB L a w v W none m) : ∃ m', loop (f11_chooses_l12) ((0 : Int32), m) = some m' ∧ Fn m m' ∧ RB L a w v W (foB a st L w v W q M none 0 (5 ^ a)) m' := by
  obtain ⟨ha, hst, hL⟩ := id h.1
  have h5a : 5 ^ a ≤ 15625 := Nat.le_trans (Nat.pow_le_pow_right (by omega) ha) (by decide)
  refine loop_inv (5 ^ a) (fun r (t : Int32 × OS) => r ≤ 5 ^ a ∧ t.1 = nI r ∧ Fn m t.2 ∧ RB L a w v W (foB a st L w v W q M none 0 r) t.2) _ ?_ (5 ^ a) 0 _ (by rw [Nat.zero_add]; exact Nat.le_refl _) ⟨Nat.zero_le _, rfl, Fn.refl m, hB⟩
  rintro r ⟨x, u⟩ ⟨hr, e1, e2, e3⟩
  have e1 : x = nI r := e1
  subst e1
  have e2 : Fn m u := e2
  have e3 : RB L a w v W (foB a st L w v W q M none 0 r) u := e3
  have hu := h.fn e2
  unfold f11_chooses_l12
  show (r < 5 ^ a ∧ ∃ t, (Option.bind (f11_rowsOf (u.1 0 10)) fun q_18 => _) = some (Sum.inl t) ∧ _) ∨ ∃ r, (Option.bind (f11_rowsOf (u.1 0 10)) fun q_18 => _) = some (Sum.inr r) ∧ _
  rw [hu.2.1.1, r_rowsOf ha, Option.bind_some]
  by_cases c : r = 5 ^ a
  · right
    rw [if_pos (show nI (5 ^ a) ≤ nI r by rw [c]; exact nI_le (Nat.le_refl _) (by omega))]
    exact ⟨_, rfl, e2, by rw [← c]; exact e3⟩
  · left
    have hlt : r < 5 ^ a := by omega
    obtain ⟨m', k1, k2, k3⟩ := r_next hu e3 hlt
    rw [if_neg (nI_ge hlt (by omega)), nm_p, k1]
    refine ⟨hlt, _, rfl, by omega, rfl, e2.trans k2, ?_⟩
    show RB L a w v W (upB a st L w v W q M (foB a st L w v W q M none 0 r) (0 + r)) m'
    rw [Nat.zero_add]; exact k3
theorem c_none (u : OS) (w e : Nat → Nat) : ∃ u', f0_serveNone u = some u' ∧ Fs u u' ∧ u'.1 6 = u.1 6 ∧ SvC w e 0 u' := by
  have key : ∃ u', f0_serveNone u = some u' ∧ (∀ r, r ≠ 8 → u'.1 r = u.1 r) ∧ ∀ s, s < 4 → u'.1 8 s = 0 ∧ u'.2 9 s = 0 := by
    unfold f0_serveNone
    refine loop_inv 4 (fun i (t : Int32 × OS) => i ≤ 4 ∧ t.1 = nI i ∧ (∀ r, r ≠ 8 → t.2.1 r = u.1 r) ∧ ∀ s, s < i → t.2.1 8 s = 0 ∧ t.2.2 9 s = 0) _ ?_ 4 0 _ (by omega) ⟨by omega, rfl, fun _ _ => rfl, fun s hs => by omega⟩
    rintro i ⟨x, t⟩ ⟨hi, e1, e2, e3⟩
    have e1 : x = nI i := e1
    subst e1
    have e2 : ∀ r, r ≠ 8 → t.1 r = u.1 r := e2
    have e3 : ∀ s, s < i → t.1 8 s = 0 ∧ t.2 9 s = 0 := e3
    unfold f0_serveNone_l2
    by_cases c : i = 4
    · right
      subst c
      refine ⟨t, ?_, e2, e3⟩
      show (if (4 : Int32) ≤ nI 4 then _ else _) = _
      rw [if_pos (show (4 : Int32) ≤ nI 4 by decide)]; rfl
    · left
      have hlt : i < 4 := by omega
      refine ⟨hlt, ?_⟩
      show ∃ t', (if (4 : Int32) ≤ nI i then _ else _) = some (Sum.inl t') ∧ _
      rw [if_neg (show ¬ (4 : Int32) ≤ nI i from nI_ge (a := i) (b := 4) hlt (by omega))]
      simp only [nI_clamp (n := i) (by omega), inb_n hlt (by omega : 4 < 2 ^ 31), chk_p, nm_p, nI_1]
      refine ⟨_, rfl, by omega, rfl, fun r hr => ?_, fun s hs => ?_⟩
      · show (if r = 8 then _ else t.1 r) = _
        rw [if_neg hr]; exact e2 r hr
      · show (if s = i then 0 else t.1 8 s) = 0 ∧ (if s = i then 0 else t.2 9 s) = 0
        by_cases c2 : s = i
        · rw [if_pos c2, if_pos c2]; exact ⟨rfl, rfl⟩
        · rw [if_neg c2, if_neg c2]; exact e3 s (by omega)
  obtain ⟨u', k1, k2, k3⟩ := key
  refine ⟨u', k1, fun r _ h => k2 r h, k2 6 (by decide), fun s hs => ?_, fun j hj => by omega⟩
  rw [(k3 s hs).1, (k3 s hs).2]
  exact ⟨rfl, rfl⟩
theorem c_findBest {a st L : Nat} {w v W : Nat → Nat} {q M : Nat → Int32} {u : OS} (h : AsH a st L w v W q M u) : ∃ u', f0_findBest u = some u' ∧ Fa u u' ∧ CB L a w v W (foB a st L w v W q M none 0 (5 ^ a)) u' := by
  obtain ⟨ha, hst, hL⟩ := id h.1
  have hv : ∀ j, j < a → v j ≤ 1000 := fun j hj => (h.2.2.1 j hj).2.2.2.2
  obtain ⟨u1, k1, k2, -, k3⟩ := c_none u w (fun _ => 0)
  obtain ⟨u2, hu2⟩ : ∃ u2, u2 = wI (wI u1 0 12 (-1)) 0 13 0 := ⟨_, rfl⟩
  have hF : Fa u u2 := by
    subst hu2
    refine k2.fa.trans ⟨fun r h1 _ _ _ => ?_, fun i h1 h2 => ?_⟩
    · rw [wI_of h1, wI_of h1]
    · show (if i = 13 then _ else if i = 12 then _ else u1.1 0 i) = _
      rw [if_neg h2, if_neg h1]
  have hA := h.fa hF
  have hS : SvC w (fun _ => 0) 0 u2 := by
    subst hu2
    exact ⟨fun s hs => k3.1 s hs, fun j hj => by omega⟩
  have hB : CB L a w v W none u2 := by
    subst hu2
    exact ⟨fun _ => rfl, fun r z => by cases z⟩
  obtain ⟨u', s1, s2, s3, s4⟩ := c_search a 8 0 (fun _ => 0) u2 none (sumB v a) (by omega) (by omega) hA hS (fun j hj => by omega) (fun j hj => by omega) hB (Nat.zero_add _)
  have s4 : CB L a w v W (foB a st L w v W q M none (0 * 5 ^ a) (5 ^ a)) u' := s4
  rw [Nat.zero_mul] at s4
  have s1 : f0_search 8 0 0 (nI (sumB v a)) u2 = some u' := s1
  refine ⟨u', ?_, hF.trans s2, s4⟩
  unfold f0_findBest
  rw [k1, Option.bind_some]
  simp only [nm_p]
  rw [← hu2]
  refine Exists.elim (loop_inv (f := f0_findBest_l18 u2) a (fun i (t : Int32 × Int32) => i ≤ a ∧ t.1 = nI (sumB v i) ∧ t.2 = nI i) (fun r => r = u') ?_ a 0 ((0 : Int32), (0 : Int32)) (by omega) ⟨by omega, rfl, rfl⟩) (fun r hr => by rw [hr.1, hr.2])
  rintro i ⟨x, y⟩ ⟨hi, e1, e2⟩
  have e1 : x = nI (sumB v i) := e1
  have e2 : y = nI i := e2
  subst e1 e2
  unfold f0_findBest_l18 f0_findBest_j47
  by_cases c : i = a
  · right
    subst c
    refine ⟨u', ?_, rfl⟩
    show (if u2.1 0 9 ≤ nI i then _ else _) = _
    rw [hA.2.1.1, if_pos (show nI i ≤ nI i from nI_le (Nat.le_refl _) (by omega))]
    show Option.map Sum.inr (Option.bind (f0_search 8 0 0 (nI (sumB v i)) u2) fun q_51 => some q_51) = _
    rw [s1]; rfl
  · left
    have hlt : i < a := by omega
    refine ⟨hlt, ?_⟩
    show ∃ t', (if u2.1 0 9 ≤ nI i then _ else _) = some (Sum.inl t') ∧ _
    rw [hA.2.1.1, if_neg (nI_ge hlt (by omega)), if_neg (show ¬ (6 : Int32) ≤ nI i from nI_ge (a := i) (b := 6) (by omega) (by omega))]
    simp only [nI_clamp (n := i) (by omega), inb_n (show i < 6 by omega) (by omega : 6 < 2 ^ 31), chk_p, nm_p, nI_1, (hA.2.2.1 i hlt).2.1, nI_add]
    exact ⟨_, rfl, by omega, rfl, rfl⟩
