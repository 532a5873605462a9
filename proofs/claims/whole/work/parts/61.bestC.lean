-- best: the class's search
def CB (L a : Nat) (w v W : Nat → Nat) (B : Option Nat) (u : OS) : Prop := (B = none → u.1 0 12 = -1) ∧ ∀ r, B = some r → u.1 0 12 = nI (woS v (dg a r) a) ∧ u.1 0 13 = nI (losS L w W (dg a r) a 4) ∧ ∀ i, i < a → u.1 7 i = nI (dg a r i)
theorem CB.fs {L a : Nat} {w v W : Nat → Nat} {B : Option Nat} {u u' : OS} (h : CB L a w v W B u) (h0 : u'.1 0 = u.1 0) (h7 : u'.1 7 = u.1 7) : CB L a w v W B u' := by
  unfold CB
  rw [h0, h7]; exact h
theorem c_copy (x : OS) : ∃ u', loop (f0_keepIfBetter_l47) ((0 : Int32), x) = some u' ∧ (∀ r, r ≠ 7 → u'.1 r = x.1 r) ∧ u'.2 = x.2 ∧ ∀ i, i < 6 → u'.1 7 i = x.1 6 i := by
  refine loop_inv 6 (fun i t => i ≤ 6 ∧ t.1 = nI i ∧ (∀ r, r ≠ 7 → t.2.1 r = x.1 r) ∧ t.2.2 = x.2 ∧ ∀ j, j < i → t.2.1 7 j = x.1 6 j) _ ?_ 6 0 _ (by omega) ⟨by omega, rfl, fun _ _ => rfl, rfl, fun j hj => by omega⟩
  rintro i ⟨y, u⟩ ⟨hi, e1, e2, e3, e4⟩
  have e1 : y = nI i := e1
  subst e1
  have e2 : ∀ r, r ≠ 7 → u.1 r = x.1 r := e2
  have e4 : ∀ j, j < i → u.1 7 j = x.1 6 j := e4
  unfold f0_keepIfBetter_l47
  by_cases c : i = 6
  · right
    subst c
    refine ⟨u, ?_, e2, e3, e4⟩
    show (if (6 : Int32) ≤ nI 6 then _ else _) = _
    rw [if_pos (show (6 : Int32) ≤ nI 6 by decide)]; rfl
  · left
    have hlt : i < 6 := by omega
    refine ⟨hlt, ?_⟩
    show ∃ t, (if (6 : Int32) ≤ nI i then _ else _) = some (Sum.inl t) ∧ _
    rw [if_neg (show ¬ (6 : Int32) ≤ nI i from nI_ge (a := i) (b := 6) hlt (by omega))]
    simp only [nI_clamp (n := i) (by omega), inb_n hlt (by omega : 6 < 2 ^ 31), chk_p, nm_p, nI_1]
    refine ⟨_, rfl, by omega, rfl, fun r hr => ?_, e3, fun j hj => ?_⟩
    · show (if r = 7 then _ else u.1 r) = x.1 r
      rw [if_neg hr]; exact e2 r hr
    · show (if j = i then u.1 6 i else u.1 7 j) = x.1 6 j
      by_cases c2 : j = i
      · subst c2; rw [if_pos rfl, e2 6 (by decide)]
      · rw [if_neg c2]; exact e4 j (by omega)
theorem Rgt_pre {a st L : Nat} {w W : Nat → Nat} {q M : Nat → Int32} {e : Nat → Nat} (hpre : ∀ i, i < a → e i = 4 ∨ okQ st M q (e i) i) : Rgt a st L w W q M e ↔ ∀ s, s < 4 → fitS L (tkS w e s a) (nuS e s a) (W s) :=
  ⟨fun h s hs => (h s hs).2, fun h s hs => ⟨fun i hi he => by
    rcases hpre i hi with c | c
    · omega
    · rw [he] at c; exact c, h s hs⟩⟩
theorem c_keep {a st L : Nat} {w v W : Nat → Nat} {q M : Nat → Int32} {u : OS} {e : Nat → Nat} {B : Option Nat} (h : AsH a st L w v W q M u) (hS : SvC w e a u) (h4 : ∀ j, j < a → e j ≤ 4) (hpre : ∀ i, i < a → e i = 4 ∨ okQ st M q (e i) i) (hB : CB L a w v W B u) : ∃ u', f0_keepIfBetter (nI (woS v e a)) u = some u' ∧ (∀ r, r ≠ 0 → r ≠ 7 → u'.1 r = u.1 r) ∧ (∀ i, i ≠ 12 → i ≠ 13 → u'.1 0 i = u.1 0 i) ∧ u'.2 = u.2 ∧ CB L a w v W (upB a st L w v W q M B (cod e a)) u' := by
  have hd : ∀ j, j < a → dg a (cod e a) j = e j := dg_pre a (Nat.le_refl _) h4 (by rw [Nat.sub_self]; exact Nat.div_one _)
  have eW : woS v (dg a (cod e a)) a = woS v e a := woS_congr a hd
  have eL : losS L w W (dg a (cod e a)) a 4 = losS L w W e a 4 := losS_congr 4 hd
  have eR : Rgt a st L w W q M (dg a (cod e a)) ↔ ∀ s, s < 4 → fitS L (tkS w e s a) (nuS e s a) (W s) := (Rgt_congr hd).trans (Rgt_pre hpre)
  obtain ⟨ha, hst, hL⟩ := id h.1
  have hv : ∀ j, j < a → v j ≤ 1000 := fun j hj => (h.2.2.1 j hj).2.2.2.2
  have bW : ∀ e' : Nat → Nat, woS v e' a ≤ 6000 := fun e' => Nat.le_trans (woS_le e' a hv) (Nat.mul_le_mul_right 1000 ha)
  have bL : ∀ e' : Nat → Nat, losS L w W e' a 4 ≤ 24000000 := fun e' => Nat.le_trans (losS_le 4) (by
    have := Nat.mul_le_mul ha hL
    omega)
  obtain ⟨r, k1, k2⟩ := c_losses h hS hpre
  have take : Rgt a st L w W q M (dg a (cod e a)) → bett L a w v W B (cod e a) → ∃ u', f0_keepIfBetter_j35 (nI (woS v e a)) (nI (losS L w W e a 4)) u = some u' ∧ (∀ r, r ≠ 0 → r ≠ 7 → u'.1 r = u.1 r) ∧ (∀ i, i ≠ 12 → i ≠ 13 → u'.1 0 i = u.1 0 i) ∧ u'.2 = u.2 ∧ CB L a w v W (upB a st L w v W q M B (cod e a)) u' := by
    intro hR hb
    unfold f0_keepIfBetter_j35
    simp only [nm_p]
    obtain ⟨u', z1, z2, z3, z4⟩ := c_copy (wI (wI u 0 12 (nI (woS v e a))) 0 13 (nI (losS L w W e a 4)))
    refine ⟨u', z1, fun r h1 h2 => ?_, fun i h1 h2 => ?_, z3, ?_⟩
    · rw [z2 r h2, wI_of h1, wI_of h1]
    · rw [z2 0 (by decide)]
      show (if i = 13 then _ else if i = 12 then _ else u.1 0 i) = _
      rw [if_neg h2, if_neg h1]
    · rw [upB_t hR hb]
      refine ⟨fun e9 => (by cases e9), fun r' e9 => ?_⟩
      cases e9
      rw [z2 0 (by decide), eW, eL]
      refine ⟨rfl, rfl, fun i hi => ?_⟩
      rw [z4 i (by omega), hd i hi]
      exact hS.2 i hi
  have keep : ¬ (Rgt a st L w W q M (dg a (cod e a)) ∧ bett L a w v W B (cod e a)) → ∃ u', f0_keepIfBetter_j34 u = some u' ∧ (∀ r, r ≠ 0 → r ≠ 7 → u'.1 r = u.1 r) ∧ (∀ i, i ≠ 12 → i ≠ 13 → u'.1 0 i = u.1 0 i) ∧ u'.2 = u.2 ∧ CB L a w v W (upB a st L w v W q M B (cod e a)) u' := by
    intro hn
    exact ⟨u, rfl, fun _ _ _ => rfl, fun _ _ _ => rfl, rfl, by rw [upB_f hn]; exact hB⟩
  unfold f0_keepIfBetter
  rw [k1, Option.bind_some]
  rcases k2 with ⟨rfl, k2⟩ | ⟨rfl, k2⟩
  · have hR := eR.mpr k2
    have hm1 : ∀ x : Nat, x < 2 ^ 30 → ¬ nI x = (-1 : Int32) := fun x hx e9 => by
      have := congrArg Int32.toInt e9
      rw [nI_toInt (by omega)] at this
      have : (x : Int) = -1 := this
      omega
    have bL' := bL e
    have bW' := bW e
    rw [if_neg (hm1 _ (by omega))]
    cases B with
    | none =>
      rw [hB.1 rfl, if_neg (show ¬ nI (woS v e a) < (-1 : Int32) by
        rw [Int32.lt_iff_toInt_lt, nI_toInt (by omega)]
        have : (-1 : Int32).toInt = -1 := rfl
        omega), if_neg (hm1 _ (by omega))]
      exact take hR (fun r' e9 => by cases e9)
    | some r' =>
      obtain ⟨g1, g2, g3⟩ := hB.2 r' rfl
      have bL2 := bL (dg a r')
      have bW2 := bW (dg a r')
      rw [g1, g2]
      by_cases c1 : woS v e a < woS v (dg a r') a
      · rw [if_pos (nI_lt c1 (by omega))]
        refine keep (fun hb => ?_)
        have := hb.2 r' rfl
        rw [eW] at this; omega
      · rw [if_neg (nI_nlt (by omega) (by omega))]
        by_cases c2 : woS v e a = woS v (dg a r') a
        · rw [if_pos (congrArg nI c2)]
          by_cases c3 : losS L w W e a 4 < losS L w W (dg a r') a 4
          · rw [if_pos (nI_lt c3 (by omega))]
            exact take hR (fun r2 e9 => by cases e9; rw [eW, eL]; exact Or.inr ⟨c2.symm, c3⟩)
          · rw [if_neg (nI_nlt (by omega) (by omega))]
            refine keep (fun hb => ?_)
            have := hb.2 r' rfl
            rw [eW, eL] at this; omega
        · rw [if_neg (fun e9 => c2 ((nI_eq (by omega) (by omega)).mp e9))]
          exact take hR (fun r2 e9 => by cases e9; rw [eW]; exact Or.inl (by omega))
  · rw [if_pos rfl]
    exact keep (fun hb => k2 (eR.mp hb.1))
theorem wo_ext {v : Nat → Nat} {e e' : Nat → Nat} {i : Nat} (h : ∀ j, j < i → e' j = e j) : ∀ a, i ≤ a → woS v e' a + sumB v i ≤ woS v e i + sumB v a
  | 0, hi => by
    have : i = 0 := by omega
    subst this; exact Nat.le_refl _
  | a + 1, hi => by
    by_cases c : i = a + 1
    · subst c; rw [woS_congr (a + 1) h]; exact Nat.le_refl _
    · have ih := wo_ext (v := v) h a (by omega)
      have e1 : woS v e' (a + 1) = woS v e' a + (if e' a = 4 then 0 else v a) := rfl
      have e2 : (if e' a = 4 then 0 else v a) ≤ v a := by
        by_cases c2 : e' a = 4
        · rw [if_pos c2]; exact Nat.zero_le _
        · rw [if_neg c2]; exact Nat.le_refl _
      rw [e1, sumB_s]; omega
theorem dg_sub {a i d t : Nat} {e : Nat → Nat} (hid : i + d = a) (h4 : ∀ j, j < i → e j ≤ 4) (ht : t < 5 ^ d) : ∀ j, j < i → dg a (cod e i * 5 ^ d + t) j = e j := by
  refine dg_pre i (by omega) h4 ?_
  have hp : 0 < 5 ^ d := Nat.pow_pos (by omega)
  rw [show a - i = d by omega, Nat.mul_comm, Nat.mul_add_div hp, Nat.div_eq_of_lt ht, Nat.add_zero]
theorem c_search {a st L : Nat} {w v W : Nat → Nat} {q M : Nat → Int32} : ∀ (d fuel i : Nat) (e : Nat → Nat) (u : OS) (B : Option Nat) (o : Nat), i + d = a → d + 1 ≤ fuel → AsH a st L w v W q M u → SvC w e i u → (∀ j, j < i → e j ≤ 4) → (∀ j, j < i → e j = 4 ∨ okQ st M q (e j) j) → CB L a w v W B u → sumB v i + o = sumB v a → ∃ u', f0_search fuel (nI i) (nI (woS v e i)) (nI o) u = some u' ∧ Fa u u' ∧ SvC w e i u' ∧ CB L a w v W (foB a st L w v W q M B (cod e i * 5 ^ d) (5 ^ d)) u' := by
  intro d
  induction d with
  | zero =>
    intro fuel i e u B o hid hf h hS h4 hpre hB ho
    obtain ⟨f, rfl⟩ : ∃ f, fuel = f + 1 := ⟨fuel - 1, by omega⟩
    have hia : i = a := hid
    subst hia
    have ho0 : o = 0 := by omega
    subst ho0
    obtain ⟨ha, hst, hL⟩ := id h.1
    have hv : ∀ j, j < i → v j ≤ 1000 := fun j hj => (h.2.2.1 j hj).2.2.2.2
    have bW : ∀ e' : Nat → Nat, woS v e' i ≤ 6000 := fun e' => Nat.le_trans (woS_le e' i hv) (Nat.mul_le_mul_right 1000 ha)
    have bW' := bW e
    show ∃ u', f0_search_b (f0_search f) (nI i) (nI (woS v e i)) (nI 0) u = some u' ∧ _
    unfold f0_search_b f0_search_b_j29
    rw [nI_add, Nat.add_zero]
    have hfo : foB i st L w v W q M B (cod e i * 5 ^ 0) (5 ^ 0) = upB i st L w v W q M B (cod e i) := by
      show upB i st L w v W q M B (cod e i * 1 + 0) = _
      rw [Nat.mul_one, Nat.add_zero]
    rw [hfo]
    by_cases c : u.1 0 12 ≤ nI (woS v e i)
    · rw [if_pos c, if_neg (nI_pos (n := i) (by omega)), h.2.1.1, if_pos (nI_le (Nat.le_refl _) (by omega))]
      obtain ⟨u', k1, k2, k3, k4, k5⟩ := c_keep h hS h4 hpre hB
      rw [k1]
      refine ⟨u', rfl, ⟨fun r h1 _ h3 _ => k2 r h1 h3, k3⟩, ⟨fun s hs => ?_, fun j hj => ?_⟩, k5⟩
      · rw [k2 8 (by decide) (by decide), k4]; exact hS.1 s hs
      · rw [k2 6 (by decide) (by decide)]; exact hS.2 j hj
    · rw [if_neg c]
      refine ⟨u, rfl, Fa.refl u, hS, ?_⟩
      rw [upB_f (fun hb => ?_)]
      · exact hB
      · cases B with
        | none =>
          rw [hB.1 rfl] at c
          refine c ?_
          rw [Int32.le_iff_toInt_le, nI_toInt (by omega)]
          have : (-1 : Int32).toInt = -1 := rfl
          omega
        | some r' =>
          have hd : ∀ j, j < i → dg i (cod e i) j = e j := dg_pre i (Nat.le_refl _) h4 (by rw [Nat.sub_self]; exact Nat.div_one _)
          rw [(hB.2 r' rfl).1] at c
          have h9 := hb.2 r' rfl
          rw [woS_congr i hd] at h9
          exact c (nI_le (by omega) (by omega))
  | succ d ih =>
    intro fuel i e u B o hid hf h hS h4 hpre hB ho
    obtain ⟨f, rfl⟩ : ∃ f, fuel = f + 1 := ⟨fuel - 1, by omega⟩
    have hia : i < a := by omega
    obtain ⟨ha, hst, hL⟩ := id h.1
    have hv : ∀ j, j < a → v j ≤ 1000 := fun j hj => (h.2.2.1 j hj).2.2.2.2
    have bW : ∀ e' : Nat → Nat, woS v e' a ≤ 6000 := fun e' => Nat.le_trans (woS_le e' a hv) (Nat.mul_le_mul_right 1000 ha)
    have bWi : woS v e i ≤ 6000 := Nat.le_trans (woS_le e i (fun j hj => hv j (by omega))) (show i * 1000 ≤ 6000 by omega)
    have bV : sumB v a ≤ 6000 := Nat.le_trans (sumB_le a hv) (Nat.mul_le_mul_right 1000 ha)
    have hvi : sumB v (i + 1) ≤ sumB v a := sumB_mono a (by omega)
    rw [sumB_s] at hvi
    show ∃ u', f0_search_b (f0_search f) (nI i) (nI (woS v e i)) (nI o) u = some u' ∧ _
    unfold f0_search_b
    rw [nI_add]
    by_cases c : u.1 0 12 ≤ nI (woS v e i + o)
    · rw [if_pos c, if_neg (nI_pos (n := i) (by omega)), h.2.1.1, if_neg (nI_ge hia (by omega)), if_pos (show nI i < (6 : Int32) from nI_lt (a := i) (b := 6) (by omega) (by omega))]
      obtain ⟨X, hX⟩ : ∃ X, X = 5 ^ d := ⟨_, rfl⟩
      have hX5 : 5 ^ (d + 1) = X * 5 := by rw [hX, Nat.pow_succ]
      have hlo : ∀ p, cod e i * (X * 5) + p * X = (cod e i * 5 + p) * X := fun p => by
        rw [Nat.add_mul, Nat.mul_assoc, Nat.mul_comm X 5]
      have hmul5 : 5 * X = X * 5 := Nat.mul_comm _ _
      rw [hX5]
      refine loop_inv 5 (fun p t => p ≤ 5 ∧ t.1 = nI p ∧ Fa u t.2 ∧ SvC w e i t.2 ∧ CB L a w v W (foB a st L w v W q M B (cod e i * (X * 5)) (p * X)) t.2) (fun u' => Fa u u' ∧ SvC w e i u' ∧ CB L a w v W (foB a st L w v W q M B (cod e i * (X * 5)) (X * 5)) u') ?_ 5 0 ((0 : Int32), u) (by omega) ⟨by omega, rfl, Fa.refl u, hS, by rw [Nat.zero_mul]; exact hB⟩
      rintro p ⟨y, t⟩ ⟨hp, e1, e2, e3, e4⟩
      have e1 : y = nI p := e1
      subst e1
      have e2 : Fa u t := e2
      have e3 : SvC w e i t := e3
      have e4 : CB L a w v W (foB a st L w v W q M B (cod e i * (X * 5)) (p * X)) t := e4
      have ht := h.fa e2
      unfold f0_search_b_l38 f0_search_b_j83 f0_search_b_j101
      by_cases c5 : p = 5
      · right
        subst c5
        rw [hmul5] at e4
        refine ⟨t, ?_, e2, e3, e4⟩
        show (if (4 : Int32) < nI 5 then _ else _) = _
        rw [if_pos (show (4 : Int32) < nI 5 by decide)]; rfl
      · left
        refine ⟨by omega, ?_⟩
        show ∃ t', (if (4 : Int32) < nI p then _ else _) = some (Sum.inl t') ∧ _
        rw [if_neg (show ¬ (4 : Int32) < nI p from nI_nlt (a := 4) (b := p) (by omega) (by omega))]
        obtain ⟨x, k1, k2⟩ := c_canServe ht e3 hia (show p ≤ 4 by omega)
        have hfo : foB a st L w v W q M B (cod e i * (X * 5)) ((p + 1) * X) = foB a st L w v W q M (foB a st L w v W q M B (cod e i * (X * 5)) (p * X)) ((cod e i * 5 + p) * X) X := by
          rw [Nat.succ_mul, foB_add, hlo]
        simp only [k1, Option.bind_some, nm_p, nI_1]
        rcases k2 with ⟨rfl, k2⟩ | ⟨rfl, hp4, k2⟩
        · rw [if_neg (show ¬ (1 : Int32) = 0 by decide)]
          obtain ⟨u1, s1, s2, s3⟩ := c_serve ht e3 hia (show p ≤ 4 by omega)
          have hu1 := ht.fa s2.fa
          have r2 : u1.1 2 i = nI (v i) := (hu1.2.2.1 i hia).2.1
          have hB1 := e4.fs (s2 0 (by decide) (by decide)) (s2 7 (by decide) (by decide))
          have ho' : sumB v (i + 1) + (o - v i) = sumB v a := by rw [sumB_s]; omega
          obtain ⟨u2, q1, q2, q3, q4⟩ := ih f (i + 1) (updN e i p) u1 _ (o - v i) (by omega) (by omega) hu1 s3 (fun j hj => by
            by_cases c9 : j = i
            · subst c9; rw [updN_s]; omega
            · rw [updN_n c9]; exact h4 j (by omega)) (fun j hj => by
            by_cases c9 : j = i
            · subst c9; rw [updN_s]; exact k2.imp id (fun z => z.1)
            · rw [updN_n c9]; exact hpre j (by omega)) hB1 ho'
          rw [cod_upd, ← hX] at q4
          rw [woS_upd] at q1
          have hu2 := hu1.fa q2
          obtain ⟨u3, z1, z2, z3⟩ := c_unserve hu2 q3 hia (show p ≤ 4 by omega)
          have hB3 := q4.fs (z2 0 (by decide) (by decide)) (z2 7 (by decide) (by decide))
          simp only [s1, Option.bind_some]
          have osub : nI o - nI (v i) = nI (o - v i) := pk_sub (by omega)
          by_cases c4 : p = 4
          · subst c4
            rw [if_pos rfl] at q1
            have q1 : f0_search f (nI (i + 1)) (nI (woS v e i)) (nI (o - v i)) u1 = some u2 := q1
            rw [if_pos (show nI 4 = (4 : Int32) from rfl)]
            simp only [nI_clamp (n := i) (by omega), inb_n (show i < 6 by omega) (by omega : 6 < 2 ^ 31), chk_p, r2, osub]
            rw [q1, Option.bind_some, z1]
            refine ⟨(nI (4 + 1), u3), rfl, by omega, rfl, ((e2.trans s2.fa).trans q2).trans z2.fa, z3, ?_⟩
            rw [hfo]; exact hB3
          · rw [if_neg c4] at q1
            rw [if_neg (show ¬ nI p = (4 : Int32) from fun e9 => c4 ((nI_eq (a := p) (b := 4) (by omega) (by omega)).mp e9))]
            simp only [nI_clamp (n := i) (by omega), inb_n (show i < 6 by omega) (by omega : 6 < 2 ^ 31), chk_p, r2, osub, nI_add, q1, Option.bind_some, z1]
            refine ⟨(nI (p + 1), u3), rfl, by omega, rfl, ((e2.trans s2.fa).trans q2).trans z2.fa, z3, ?_⟩
            rw [hfo]; exact hB3
        · rw [if_pos rfl]
          refine ⟨_, rfl, by omega, rfl, e2, e3, ?_⟩
          rw [hfo, foB_skip X (fun s hs hb => ?_)]
          · exact e4
          · have hd := dg_sub (a := a) (i := i + 1) (d := d) (t := s) (e := updN e i p) (by omega) (fun j hj => by
              by_cases c9 : j = i
              · subst c9; rw [updN_s]; omega
              · rw [updN_n c9]; exact h4 j (by omega)) (by rw [← hX]; exact hs)
            rw [cod_upd, ← hX] at hd
            exact Rgt_not hia hp4 (fun j hj => by rw [hd j (by omega), updN_n (by omega)]) (by rw [hd i (by omega), updN_s]) k2 hb.1
    · rw [if_neg c]
      refine ⟨u, rfl, Fa.refl u, hS, ?_⟩
      rw [foB_skip _ (fun s hs hb => ?_)]
      · exact hB
      · cases B with
        | none =>
          rw [hB.1 rfl] at c
          refine c ?_
          rw [Int32.le_iff_toInt_le, nI_toInt (by omega)]
          have : (-1 : Int32).toInt = -1 := rfl
          omega
        | some r' =>
          have hd := dg_sub hid h4 hs
          have hx := wo_ext (v := v) hd a (by omega)
          rw [(hB.2 r' rfl).1] at c
          have h9 := hb.2 r' rfl
          have b1 := bW (dg a r')
          exact c (nI_le (by omega) (by omega))
