-- judge, best: the class's side
theorem mulL_toInt {a c : Int64} (h1 : -9223372036854775808 ≤ a.toInt * c.toInt) (h2 : a.toInt * c.toInt < 9223372036854775808) : (a * c).toInt = a.toInt * c.toInt := by
  rw [Int64.toInt_mul]
  exact Int.bmod_eq_of_le (by omega) (by omega)
theorem nl_toInt {x : Nat} (h : x < 2 ^ 31) : (nI x).toInt64.toInt = x := by rw [Int32.toInt_toInt64, nI_toInt h]
theorem nl_mul {n L : Nat} (hn : n ≤ 10) (hL : L ≤ 1000000) : ((nI n).toInt64 * (nI L).toInt64).toInt = ((n * L : Nat) : Int) := by
  have h1 : n * L ≤ 10 * 1000000 := Nat.mul_le_mul hn hL
  have h2 : ((n * L : Nat) : Int) = (n : Int) * (L : Int) := Int.natCast_mul n L
  rw [mulL_toInt (by rw [nl_toInt (by omega), nl_toInt (by omega), ← h2]; omega) (by rw [nl_toInt (by omega), nl_toInt (by omega), ← h2]; omega), nl_toInt (by omega), nl_toInt (by omega), h2]
def AsH (a st L : Nat) (w v W : Nat → Nat) (q M : Nat → Int32) (u : OS) : Prop := (a ≤ 6 ∧ st ≤ 4 ∧ L ≤ 1000000) ∧ (u.1 0 9 = nI a ∧ u.1 0 10 = nI st ∧ u.1 0 11 = nI L) ∧ (∀ i, i < a → u.1 1 i = nI (w i) ∧ u.1 2 i = nI (v i) ∧ u.1 3 i = q i ∧ w i ≤ 1000000000 ∧ v i ≤ 1000) ∧ ∀ s, s < st → u.1 4 s = nI (W s) ∧ u.1 5 s = M s ∧ W s ≤ 1000000000
def Fa (u u' : OS) : Prop := (∀ r, r ≠ 0 → r ≠ 6 → r ≠ 7 → r ≠ 8 → u'.1 r = u.1 r) ∧ ∀ i, i ≠ 12 → i ≠ 13 → u'.1 0 i = u.1 0 i
theorem Fa.refl (u : OS) : Fa u u := ⟨fun _ _ _ _ _ => rfl, fun _ _ _ => rfl⟩
theorem Fa.trans {a b c : OS} (h : Fa a b) (g : Fa b c) : Fa a c := ⟨fun r h1 h2 h3 h4 => (g.1 r h1 h2 h3 h4).trans (h.1 r h1 h2 h3 h4), fun i h1 h2 => (g.2 i h1 h2).trans (h.2 i h1 h2)⟩
theorem AsH.fa {a st L : Nat} {w v W : Nat → Nat} {q M : Nat → Int32} {u u' : OS} (h : AsH a st L w v W q M u) (g : Fa u u') : AsH a st L w v W q M u' := by
  obtain ⟨h1, ⟨h2, h3, h4⟩, h5, h6⟩ := h
  refine ⟨h1, ⟨(g.2 9 (by decide) (by decide)).trans h2, (g.2 10 (by decide) (by decide)).trans h3, (g.2 11 (by decide) (by decide)).trans h4⟩, fun i hi => ?_, fun s hs => ?_⟩
  · rw [g.1 1 (by decide) (by decide) (by decide) (by decide), g.1 2 (by decide) (by decide) (by decide) (by decide), g.1 3 (by decide) (by decide) (by decide) (by decide)]; exact h5 i hi
  · rw [g.1 4 (by decide) (by decide) (by decide) (by decide), g.1 5 (by decide) (by decide) (by decide) (by decide)]; exact h6 s hs
/-- what is served by the first i asks of the row e -/
def SvC (w e : Nat → Nat) (i : Nat) (u : OS) : Prop := (∀ s, s < 4 → u.1 8 s = nI (nuS e s i) ∧ (u.2 9 s).toInt = (tkS w e s i : Nat)) ∧ ∀ j, j < i → u.1 6 j = nI (e j)
def Fs (u u' : OS) : Prop := ∀ r, r ≠ 6 → r ≠ 8 → u'.1 r = u.1 r
theorem Fs.fa {u u' : OS} (h : Fs u u') : Fa u u' := ⟨fun r _ h2 _ h4 => h r h2 h4, fun i _ _ => by rw [h 0 (by decide) (by decide)]⟩
theorem c_hasA {a st L : Nat} {w v W : Nat → Nat} {q M : Nat → Int32} {u : OS} (h : AsH a st L w v W q M u) (x : Int32) : f0_has x u = some (b1 (0 ≤ x.toInt ∧ x.toInt < a)) := by
  obtain ⟨⟨h1, _, _⟩, ⟨h2, _, _⟩, _⟩ := h
  unfold f0_has f0_has_j22 f0_has_j23
  rw [h2]
  have z0 : (0 : Int32).toInt = 0 := rfl
  by_cases c1 : x < 0
  · rw [if_pos c1, b1_f (fun e => by rw [Int32.lt_iff_toInt_lt] at c1; omega)]; rfl
  · rw [if_neg c1]
    rw [Int32.lt_iff_toInt_lt] at c1
    by_cases c2 : nI a ≤ x
    · rw [if_pos c2, b1_f (fun e => by rw [Int32.le_iff_toInt_le, nI_toInt (by omega)] at c2; omega)]; rfl
    · rw [if_neg c2]
      rw [Int32.le_iff_toInt_le, nI_toInt (by omega)] at c2
      have z6 : (6 : Int32).toInt = 6 := rfl
      rw [if_neg (show ¬ (6 : Int32) ≤ x by rw [Int32.le_iff_toInt_le]; omega), b1_t (by omega)]; rfl
theorem c_hasI {a st L : Nat} {w v W : Nat → Nat} {q M : Nat → Int32} {u : OS} (h : AsH a st L w v W q M u) {i : Nat} (hi : i < a) : f0_has (nI i) u = some 1 := by
  have ha := h.1.1
  rw [c_hasA h, b1_t (by rw [nI_toInt (by omega)]; omega)]
theorem c_canServe {a st L : Nat} {w v W : Nat → Nat} {q M : Nat → Int32} {u : OS} {e : Nat → Nat} {i p : Nat} (h : AsH a st L w v W q M u) (hS : SvC w e i u) (hi : i < a) (hp : p ≤ 4) : ∃ r, f0_canServe (nI i) (nI p) u = some r ∧ ((r = 1 ∧ (p = 4 ∨ (okQ st M q p i ∧ tkS w e p i + w i + nuS e p i * L ≤ W p))) ∨ (r = 0 ∧ p < 4 ∧ ¬ (okQ st M q p i ∧ tkS w e p i + w i + nuS e p i * L ≤ W p))) := by
  have hh := c_hasI h hi
  obtain ⟨⟨h1, h2, h3⟩, ⟨g1, g2, g3⟩, g4, g5⟩ := h
  unfold f0_canServe f0_canServe_j32 f0_canServe_j95 f0_canServe_j96
  by_cases c1 : p = 4
  · subst c1
    rw [if_pos (show nI 4 = (4 : Int32) from rfl)]
    exact ⟨1, rfl, Or.inl ⟨rfl, Or.inl rfl⟩⟩
  · have hp4 : p < 4 := by omega
    obtain ⟨s1, s2⟩ := hS.1 p hp4
    obtain ⟨k1, k2, k3, k4, k5⟩ := g4 i hi
    rw [if_neg (show ¬ nI p = (4 : Int32) from fun e => c1 ((nI_eq (a := p) (b := 4) (by omega) (by omega)).mp e)), hh, Option.bind_some, if_neg (show ¬ (1 : Int32) = 0 by decide), if_neg (nI_pos (n := p) (by omega)), g2]
    by_cases c2 : st ≤ p
    · rw [if_pos (nI_le c2 (by omega))]
      exact ⟨0, rfl, Or.inr ⟨rfl, hp4, fun e => by have := e.1.1; omega⟩⟩
    · obtain ⟨w1, w2, w3⟩ := g5 p (by omega)
      rw [if_neg (nI_ge (by omega) (by omega)), if_pos (show nI p < (4 : Int32) from nI_lt (a := p) (b := 4) hp4 (by omega))]
      simp only [nI_clamp (n := i) (by omega), nI_clamp (n := p) (by omega), inb_n (show i < 6 by omega) (by omega : 6 < 2 ^ 31), inb_n hp4 (by omega : 4 < 2 ^ 31), chk_p, nm_p, k1, k3, s1, w1, w2, g3]
      have hnu := nuS_le e p i
      have htk := tkS_le (w := w) (b := 1000000000) e p i (fun j hj => (g4 j (by omega)).2.2.2.1)
      have htk : tkS w e p i ≤ 6 * 1000000000 := Nat.le_trans htk (Nat.mul_le_mul_right _ (by omega))
      have hmul := nl_mul (n := nuS e p i) (L := L) (by omega) h3
      have hmle : nuS e p i * L ≤ 10 * 1000000 := Nat.mul_le_mul (by omega) h3
      have d1 := addL_toInt (a := u.2 9 p) (c := (nI (w i)).toInt64) (by rw [s2, nl_toInt (by omega)]; omega) (by rw [s2, nl_toInt (by omega)]; omega)
      rw [s2, nl_toInt (show w i < 2 ^ 31 by omega)] at d1
      have d2 := addL_toInt (a := u.2 9 p + (nI (w i)).toInt64) (c := (nI (nuS e p i)).toInt64 * (nI L).toInt64) (by rw [d1, hmul]; omega) (by rw [d1, hmul]; omega)
      rw [d1, hmul] at d2
      have hW := nl_toInt (x := W p) (by omega)
      by_cases c3 : M p &&& q i = 0
      · rw [if_pos c3]
        by_cases c4 : tkS w e p i + w i + nuS e p i * L ≤ W p
        · rw [if_neg (fun e9 => by have := (lg_gt0 _ _).mp e9; rw [hW, d2] at this; omega)]
          exact ⟨1, rfl, Or.inl ⟨rfl, Or.inr ⟨⟨by omega, c3⟩, c4⟩⟩⟩
        · rw [if_pos ((lg_gt0 _ _).mpr (by rw [hW, d2]; omega))]
          exact ⟨0, rfl, Or.inr ⟨rfl, hp4, fun e9 => c4 e9.2⟩⟩
      · rw [if_neg c3]
        exact ⟨0, rfl, Or.inr ⟨rfl, hp4, fun e9 => c3 e9.1.2⟩⟩
theorem c_serve {a st L : Nat} {w v W : Nat → Nat} {q M : Nat → Int32} {u : OS} {e : Nat → Nat} {i p : Nat} (h : AsH a st L w v W q M u) (hS : SvC w e i u) (hi : i < a) (hp : p ≤ 4) : ∃ u', f0_serve (nI i) (nI p) u = some u' ∧ Fs u u' ∧ SvC w (updN e i p) (i + 1) u' := by
  have hh := c_hasI h hi
  obtain ⟨⟨h1, h2, h3⟩, ⟨g1, g2, g3⟩, g4, g5⟩ := h
  obtain ⟨k1, k2, k3, k4, k5⟩ := g4 i hi
  have row6 : ∀ (x : OS), x.1 6 = (wI u 6 i (nI p)).1 6 → ∀ j, j < i + 1 → x.1 6 j = nI (updN e i p j) := fun x hx j hj => by
    rw [hx]
    show (if j = i then nI p else u.1 6 j) = nI (if j = i then p else e j)
    by_cases c : j = i
    · rw [if_pos c, if_pos c]
    · rw [if_neg c, if_neg c]; exact hS.2 j (by omega)
  unfold f0_serve f0_serve_j51
  rw [hh, Option.bind_some, if_neg (show ¬ (1 : Int32) = 0 by decide)]
  simp only [nI_clamp (n := i) (by omega), inb_n (show i < 6 by omega) (by omega : 6 < 2 ^ 31), chk_p, nm_p]
  rw [if_neg (nI_pos (n := p) (by omega))]
  by_cases c1 : p = 4
  · subst c1
    rw [if_pos (show (4 : Int32) ≤ nI 4 by decide)]
    refine ⟨_, rfl, fun r h5 _ => if_neg h5, fun s hs => ?_, row6 _ rfl⟩
    rw [nuS_upd, tkS_upd, if_neg (by omega), if_neg (by omega)]
    exact hS.1 s hs
  · have hp4 : p < 4 := by omega
    rw [if_neg (show ¬ (4 : Int32) ≤ nI p from nI_ge (a := p) (b := 4) hp4 (by omega))]
    simp only [nI_clamp (n := p) (by omega), inb_n hp4 (by omega : 4 < 2 ^ 31), chk_p]
    refine ⟨_, rfl, fun r h5 h6 => ?_, fun s hs => ?_, row6 _ rfl⟩
    · show (if r = 8 then _ else if r = 6 then _ else u.1 r) = u.1 r
      rw [if_neg h6, if_neg h5]
    · show (if s = p then u.1 8 p + 1 else u.1 8 s) = _ ∧ Int64.toInt (if s = p then u.2 9 p + (u.1 1 i).toInt64 else u.2 9 s) = _
      rw [nuS_upd, tkS_upd]
      obtain ⟨z1, z2⟩ := hS.1 s hs
      by_cases c : s = p
      · subst c
        rw [if_pos rfl, if_pos rfl, if_pos rfl, if_pos rfl, z1, nI_1, k1]
        refine ⟨rfl, ?_⟩
        have htk := tkS_le (w := w) (b := 1000000000) e s i (fun j hj => (g4 j (by omega)).2.2.2.1)
        have htk : tkS w e s i ≤ 6 * 1000000000 := Nat.le_trans htk (Nat.mul_le_mul_right _ (by omega))
        rw [addL_toInt (by rw [z2, nl_toInt (by omega)]; omega) (by rw [z2, nl_toInt (by omega)]; omega), z2, nl_toInt (by omega)]
        omega
      · rw [if_neg c, if_neg c, if_neg (fun e9 => c e9.symm), if_neg (fun e9 => c e9.symm)]
        exact ⟨z1, z2⟩
theorem c_unserve {a st L : Nat} {w v W : Nat → Nat} {q M : Nat → Int32} {u : OS} {e : Nat → Nat} {i p : Nat} (h : AsH a st L w v W q M u) (hS : SvC w (updN e i p) (i + 1) u) (hi : i < a) (hp : p ≤ 4) : ∃ u', f0_unserve (nI i) (nI p) u = some u' ∧ Fs u u' ∧ SvC w e i u' := by
  have hh := c_hasI h hi
  obtain ⟨⟨h1, h2, h3⟩, ⟨g1, g2, g3⟩, g4, g5⟩ := h
  obtain ⟨k1, k2, k3, k4, k5⟩ := g4 i hi
  have row6 : ∀ j, j < i → u.1 6 j = nI (e j) := fun j hj => by
    rw [hS.2 j (by omega), updN_n (by omega)]
  unfold f0_unserve f0_unserve_j43
  rw [hh, Option.bind_some, if_neg (show ¬ (1 : Int32) = 0 by decide), if_neg (nI_pos (n := p) (by omega))]
  by_cases c1 : p = 4
  · subst c1
    rw [if_pos (show (4 : Int32) ≤ nI 4 by decide)]
    refine ⟨_, rfl, fun r _ _ => rfl, fun s hs => ?_, row6⟩
    have := hS.1 s hs
    rw [nuS_upd, tkS_upd, if_neg (by omega), if_neg (by omega)] at this
    exact this
  · have hp4 : p < 4 := by omega
    rw [if_neg (show ¬ (4 : Int32) ≤ nI p from nI_ge (a := p) (b := 4) hp4 (by omega))]
    simp only [nI_clamp (n := p) (by omega), nI_clamp (n := i) (by omega), inb_n hp4 (by omega : 4 < 2 ^ 31), inb_n (show i < 6 by omega) (by omega : 6 < 2 ^ 31), chk_p, nm_p]
    refine ⟨_, rfl, fun r h5 h6 => ?_, fun s hs => ?_, row6⟩
    · show (if r = 8 then _ else u.1 r) = u.1 r
      rw [if_neg h6]
    · show (if s = p then u.1 8 p - 1 else u.1 8 s) = _ ∧ Int64.toInt (if s = p then u.2 9 p - (u.1 1 i).toInt64 else u.2 9 s) = _
      obtain ⟨z1, z2⟩ := hS.1 s hs
      rw [nuS_upd] at z1
      rw [tkS_upd] at z2
      by_cases c : s = p
      · subst c
        rw [if_pos rfl] at z1 z2
        rw [if_pos rfl, if_pos rfl, z1, ← nI_1, add_sub1, k1]
        refine ⟨rfl, ?_⟩
        have htk := tkS_le (w := w) (b := 1000000000) e s i (fun j hj => (g4 j (by omega)).2.2.2.1)
        have htk : tkS w e s i ≤ 6 * 1000000000 := Nat.le_trans htk (Nat.mul_le_mul_right _ (by omega))
        rw [subL_toInt (by rw [z2, nl_toInt (by omega)]; omega) (by rw [z2, nl_toInt (by omega)]; omega), z2, nl_toInt (by omega)]
        omega
      · rw [if_neg (fun e9 => c e9.symm)] at z1 z2
        rw [if_neg c, if_neg c]
        exact ⟨z1, z2⟩
theorem c_losses {a st L : Nat} {w v W : Nat → Nat} {q M : Nat → Int32} {u : OS} {e : Nat → Nat} (h : AsH a st L w v W q M u) (hS : SvC w e a u) (hpre : ∀ i, i < a → e i = 4 ∨ okQ st M q (e i) i) : ∃ r, f0_lossesOfRow u = some r ∧ ((r = nI (losS L w W e a 4) ∧ ∀ s, s < 4 → fitS L (tkS w e s a) (nuS e s a) (W s)) ∨ (r = -1 ∧ ¬ ∀ s, s < 4 → fitS L (tkS w e s a) (nuS e s a) (W s))) := by
  obtain ⟨⟨h1, h2, h3⟩, ⟨g1, g2, g3⟩, g4, g5⟩ := h
  unfold f0_lossesOfRow
  refine loop_inv 4 (fun s t => s ≤ 4 ∧ t.2 = nI s ∧ t.1 = nI (losS L w W e a s) ∧ ∀ s', s' < s → fitS L (tkS w e s' a) (nuS e s' a) (W s')) _ ?_ 4 0 _ (by omega) ⟨by omega, rfl, rfl, fun s hs => by omega⟩
  rintro s ⟨x, y⟩ ⟨hs, e1, e2, e3⟩
  have e1 : y = nI s := e1
  have e2 : x = nI (losS L w W e a s) := e2
  subst e1 e2
  unfold f0_lossesOfRow_l4 f0_lossesOfRow_j64 f0_lossesOfRow_j84 f0_lossesOfRow_j100 f0_lossesOfRow_j103
  by_cases c4 : s = 4
  · right
    subst c4
    refine ⟨_, ?_, Or.inl ⟨rfl, e3⟩⟩
    show (if (4 : Int32) ≤ nI 4 then _ else _) = _
    rw [if_pos (show (4 : Int32) ≤ nI 4 by decide)]; rfl
  · have hs4 : s < 4 := by omega
    obtain ⟨z1, z2⟩ := hS.1 s hs4
    have hn := nuS_le e s a
    have up : fitS L (tkS w e s a) (nuS e s a) (W s) → ∀ s', s' < s + 1 → fitS L (tkS w e s' a) (nuS e s' a) (W s') := fun hf s' hs' => by
      by_cases c : s' = s
      · subst c; exact hf
      · exact e3 s' (by omega)
    have ls : losS L w W e a (s + 1) = losS L w W e a s + los1 L (tkS w e s a) (nuS e s a) (W s) := rfl
    show (s < 4 ∧ ∃ t, (if (4 : Int32) ≤ nI s then _ else _) = some (Sum.inl t) ∧ _) ∨ ∃ r, (if (4 : Int32) ≤ nI s then _ else _) = some (Sum.inr r) ∧ _
    rw [if_neg (show ¬ (4 : Int32) ≤ nI s from nI_ge (a := s) (b := 4) hs4 (by omega))]
    simp only [nI_clamp (n := s) (by omega), inb_n hs4 (by omega : 4 < 2 ^ 31), chk_p, nm_p, z1, nI_1]
    by_cases c0 : nuS e s a = 0
    · left
      refine ⟨hs4, ?_⟩
      rw [if_pos (show nI (nuS e s a) ≤ 0 by rw [c0]; decide)]
      refine ⟨_, rfl, by omega, rfl, ?_, up (Or.inl c0)⟩
      rw [ls]; unfold los1; rw [if_pos c0]; rfl
    · rw [if_neg (show ¬ nI (nuS e s a) ≤ 0 from nI_ge (a := 0) (b := nuS e s a) (by omega) (by omega))]
      obtain ⟨j, hj, hjs⟩ := sumB_pos a (show 0 < sumB (fun j => if e j = s then 1 else 0) a from Nat.pos_of_ne_zero c0)
      have hej : e j = s := by
        by_cases c : e j = s
        · exact c
        · rw [if_neg c] at hjs; omega
      have hst : s < st := by
        rcases hpre j hj with c | c
        · omega
        · have := c.1; rw [hej] at this; exact this
      obtain ⟨w1, w2, w3⟩ := g5 s hst
      have en : nI (nuS e s a) - (1 : Int32) = nI (nuS e s a - 1) := by rw [show (1 : Int32) = nI 1 from rfl, pk_sub (by omega)]
      rw [en, w1, g3]
      have htk := tkS_le (w := w) (b := 1000000000) e s a (fun j hj => (g4 j (by omega)).2.2.2.1)
      have htk : tkS w e s a ≤ 6 * 1000000000 := Nat.le_trans htk (Nat.mul_le_mul_right _ (by omega))
      have hmul := nl_mul (n := nuS e s a - 1) (L := L) (by omega) h3
      have hmle : (nuS e s a - 1) * L ≤ 10 * 1000000 := Nat.mul_le_mul (by omega) h3
      have hsucc : nuS e s a * L = (nuS e s a - 1) * L + L := by
        rw [← Nat.succ_mul]; congr 1; omega
      have hW := nl_toInt (x := W s) (by omega)
      have d1 := subL_toInt (a := (nI (W s)).toInt64) (c := u.2 9 s) (by rw [hW, z2]; omega) (by rw [hW, z2]; omega)
      rw [hW, z2] at d1
      have d2 := subL_toInt (a := (nI (W s)).toInt64 - u.2 9 s) (c := (nI (nuS e s a - 1)).toInt64 * (nI L).toInt64) (by rw [d1, hmul]; omega) (by rw [d1, hmul]; omega)
      rw [d1, hmul] at d2
      have t32 : ((nI (nuS e s a - 1)).toInt64 * (nI L).toInt64).toInt32 = nI ((nuS e s a - 1) * L) := by
        rw [Int64.toInt32_mul, Int32.toInt32_toInt64, Int32.toInt32_toInt64, pk_mul]
      have e0 : (lg_cmp ((nI (W s)).toInt64 - u.2 9 s - (nI (nuS e s a - 1)).toInt64 * (nI L).toInt64) 0 = 0) ↔ tkS w e s a + (nuS e s a - 1) * L = W s := by
        rw [lg_eq0, ← Int64.toInt_inj, d2]
        show (_ = (0 : Int)) ↔ _
        omega
      by_cases c1 : tkS w e s a + (nuS e s a - 1) * L = W s
      · left
        refine ⟨hs4, ?_⟩
        rw [if_pos (e0.mpr c1), if_neg (show ¬ (1 : Int32) = 0 by decide), if_neg (show ¬ (1 : Int32) = 0 by decide), t32, Int32.add_zero, nI_add]
        refine ⟨_, rfl, by omega, rfl, ?_, up (Or.inr (Or.inl c1))⟩
        rw [ls]; unfold los1; rw [if_neg c0, if_pos c1]
      · rw [if_neg (fun e9 => c1 (e0.mp e9))]
        simp only [↓reduceIte]
        have hL := nl_toInt (x := L) (by omega)
        by_cases c2 : tkS w e s a + nuS e s a * L ≤ W s
        · left
          refine ⟨hs4, ?_⟩
          rw [if_pos ((lg_ge0 _ _).mpr (by rw [hL, d2]; omega)), t32, nI_add, nI_add, ← hsucc]
          refine ⟨_, rfl, by omega, rfl, ?_, up (Or.inr (Or.inr c2))⟩
          rw [ls]; unfold los1; rw [if_neg c0, if_neg c1]
        · right
          rw [if_neg (fun e9 => by have := (lg_ge0 _ _).mp e9; rw [hL, d2] at this; omega)]
          refine ⟨_, rfl, Or.inr ⟨rfl, fun hall => ?_⟩⟩
          rcases hall s hs4 with c | c | c
          · exact c0 c
          · exact c1 c
          · exact c2 c
