-- found: what the class counts
def sumB (g : Nat → Nat) : Nat → Nat
  | 0 => 0
  | n + 1 => sumB g n + g n
theorem sumB_le {g : Nat → Nat} {b : Nat} : ∀ n, (∀ j, j < n → g j ≤ b) → sumB g n ≤ n * b
  | 0, _ => by show 0 ≤ _; omega
  | n + 1, h => by
    show sumB g n + g n ≤ (n + 1) * b
    have h1 := sumB_le n (fun j hj => h j (by omega))
    have h2 := h n (by omega)
    rw [Nat.succ_mul]
    omega
abbrev addB (U : Nat → Bool) (j : Nat) : Nat → Bool := fun k => U k || decide (k = j)
def cntA (F : Nat → Nat → Bool) (c : Nat) : Nat → Nat → (Nat → Bool) → Nat
  | 0, _, _ => 1
  | d + 1, i, U => sumB (fun j => if F i j = true ∧ U j = false then cntA F c d (i + 1) (addB U j) else 0) c
theorem cntA_le {F : Nat → Nat → Bool} {c : Nat} (hc : c ≤ 6) : ∀ d i U, cntA F c d i U ≤ 6 ^ d
  | 0, _, _ => Nat.le_refl 1
  | d + 1, i, U => by
    have h := sumB_le (g := fun j => if F i j = true ∧ U j = false then cntA F c d (i + 1) (addB U j) else 0) (b := 6 ^ d) c (fun j _ => by
      by_cases e : F i j = true ∧ U j = false
      · simp only [if_pos e]; exact cntA_le hc d (i + 1) (addB U j)
      · simp only [if_neg e]; exact Nat.zero_le _)
    have h2 : c * 6 ^ d ≤ 6 * 6 ^ d := Nat.mul_le_mul_right _ hc
    rw [Nat.pow_succ, Nat.mul_comm]
    exact Nat.le_trans h h2
/-- a thing's place in some way to go on -/
def mayA (F : Nat → Nat → Bool) (c : Nat) : Nat → Nat → (Nat → Bool) → Nat → Nat → Prop
  | 0, _, _, _, _ => False
  | d + 1, i, U, x, y => ∃ j, j < c ∧ F i j = true ∧ U j = false ∧ ((x = i ∧ y = j ∧ 0 < cntA F c d (i + 1) (addB U j)) ∨ mayA F c d (i + 1) (addB U j) x y)
theorem mkB_andT {b : Nat → Bool} {j : Nat} (hj : j < 16) : (nI (mkB b 16) &&& ((1 : Int32) <<< (nI j &&& 31)) = 0) ↔ b j = false := by
  rw [one_mk hj, mkB_and, mk_zero]
  constructor
  · intro h
    have := h j hj
    simpa using this
  · intro h k hk
    by_cases e : k = j
    · subst e; simp [h]
    · simp [e]
/-- the mixture: things c, fits F, marks B -/
def Mx (s : OS) (c : Nat) (F B : Nat → Nat → Bool) (u : OS) : Prop := (∀ r, r ≠ 3 → u.1 r = s.1 r) ∧ u.2 = s.2 ∧ s.1 0 3 = nI c ∧ (∀ i, i < c → s.1 2 i = nI (mkB (F i) 16)) ∧ ∀ i, i < c → u.1 3 i = nI (mkB (B i) 16)
theorem c_count {s : OS} {c : Nat} {F : Nat → Nat → Bool} (hc : c ≤ 6) : ∀ (d fuel i : Nat) (U : Nat → Bool) (B : Nat → Nat → Bool) (u : OS), i + d = c → d + 1 ≤ fuel → Mx s c F B u → ∃ u' B', f3_countAnswers fuel (nI i) (nI (mkB U 16)) u = some (nI (cntA F c d i U), u') ∧ Mx s c F B' u' ∧ ∀ x y, x < c → (B' x y = true ↔ B x y = true ∨ mayA F c d i U x y) := by
  intro d
  induction d with
  | zero =>
    intro fuel i U B u hid hf hM
    obtain ⟨f, rfl⟩ : ∃ f, fuel = f + 1 := ⟨fuel - 1, by omega⟩
    refine ⟨u, B, ?_, hM, fun x y _ => ⟨Or.inl, fun e => e.elim id (fun e => e.elim)⟩⟩
    show f3_countAnswers_b (f3_countAnswers f) (nI i) _ u = _
    unfold f3_countAnswers_b f3_countAnswers_b_j18
    rw [if_neg (nI_pos (n := i) (by omega)), hM.1 0 (by decide), hM.2.2.1, if_pos (nI_le (by omega) (by omega))]
    rfl
  | succ d ih =>
    intro fuel i U B u hid hf hM
    obtain ⟨f, rfl⟩ : ∃ f, fuel = f + 1 := ⟨fuel - 1, by omega⟩
    have hic : i < c := by omega
    show ∃ u' B', f3_countAnswers_b (f3_countAnswers f) (nI i) _ u = _ ∧ _
    unfold f3_countAnswers_b
    rw [if_neg (nI_pos (n := i) (by omega)), hM.1 0 (by decide), hM.2.2.1, if_neg (nI_ge hic (by omega)), if_pos (show nI i < (6 : Int32) from nI_lt (a := i) (b := 6) (by omega) (by omega))]
    obtain ⟨g, hg⟩ : ∃ g : Nat → Nat, g = fun j => if F i j = true ∧ U j = false then cntA F c d (i + 1) (addB U j) else 0 := ⟨_, rfl⟩
    have hgb : ∀ j, g j ≤ 46656 := by
      intro j
      have h6 : (6 : Nat) ^ d ≤ 6 ^ 6 := Nat.pow_le_pow_right (by omega) (by omega)
      have := cntA_le (F := F) hc d (i + 1) (addB U j)
      rw [hg]
      by_cases e : F i j = true ∧ U j = false
      · simp only [if_pos e]; omega
      · simp only [if_neg e]; omega
    have key : ∃ r, loop (f3_countAnswers_b_l25 (f3_countAnswers f) (nI i) (nI (mkB U 16))) ((0 : Int32), (0 : Int32), u) = some r ∧ ∃ u' B', r = (nI (sumB g c), u') ∧ Mx s c F B' u' ∧ ∀ x y, x < c → (B' x y = true ↔ B x y = true ∨ ∃ j, j < c ∧ F i j = true ∧ U j = false ∧ ((x = i ∧ y = j ∧ 0 < cntA F c d (i + 1) (addB U j)) ∨ mayA F c d (i + 1) (addB U j) x y)) := by
      refine loop_inv c (fun j t => j ≤ c ∧ t.2.1 = nI j ∧ t.1 = nI (sumB g j) ∧ ∃ B', Mx s c F B' t.2.2 ∧ ∀ x y, x < c → (B' x y = true ↔ B x y = true ∨ ∃ j', j' < j ∧ F i j' = true ∧ U j' = false ∧ ((x = i ∧ y = j' ∧ 0 < cntA F c d (i + 1) (addB U j')) ∨ mayA F c d (i + 1) (addB U j') x y))) _ ?_ c 0 _ (by omega) ⟨by omega, rfl, rfl, B, hM, fun x y _ => ⟨Or.inl, fun e => e.elim id (fun ⟨j, hj, _⟩ => by omega)⟩⟩
      rintro j ⟨n, y, v⟩ ⟨hj, e1, e2, B1, hM1, hB1⟩
      have e1 : y = nI j := e1
      have e2 : n = nI (sumB g j) := e2
      subst e1 e2
      have hM1 : Mx s c F B1 v := hM1
      unfold f3_countAnswers_b_l25 f3_countAnswers_b_j88 f3_countAnswers_b_j93
      by_cases hjc : j = c
      · right
        subst hjc
        refine ⟨_, ?_, v, B1, rfl, hM1, hB1⟩
        show (if v.1 0 3 ≤ nI j then _ else _) = _
        rw [hM1.1 0 (by decide), hM1.2.2.1, if_pos (show nI j ≤ nI j from nI_le (Nat.le_refl _) (by omega))]; rfl
      · left
        have hlt : j < c := by omega
        refine ⟨hlt, ?_⟩
        have hFi : v.1 2 i = nI (mkB (F i) 16) := by rw [hM1.1 2 (by decide)]; exact hM1.2.2.2.1 i hic
        show ∃ t, (if v.1 0 3 ≤ nI j then _ else _) = some (Sum.inl t) ∧ _
        rw [hM1.1 0 (by decide), hM1.2.2.1, if_neg (nI_ge hlt (by omega))]
        simp only [nm_p, nI_clamp (n := i) (by omega), inb_n (show i < 6 by omega) (by omega : 6 < 2 ^ 31), chk_p, hFi, nI_1]
        have gs : sumB g (j + 1) = sumB g j + g j := rfl
        have skip : ¬ (F i j = true ∧ U j = false) → j + 1 ≤ c ∧ nI (j + 1) = nI (j + 1) ∧ nI (sumB g j) = nI (sumB g (j + 1)) ∧ ∃ B', Mx s c F B' v ∧ ∀ x y, x < c → (B' x y = true ↔ B x y = true ∨ ∃ j', j' < j + 1 ∧ F i j' = true ∧ U j' = false ∧ ((x = i ∧ y = j' ∧ 0 < cntA F c d (i + 1) (addB U j')) ∨ mayA F c d (i + 1) (addB U j') x y)) := by
          intro hn
          have hg0 : g j = 0 := by rw [hg]; exact if_neg hn
          refine ⟨by omega, rfl, by rw [gs, hg0]; rfl, B1, hM1, fun x y hx => ?_⟩
          rw [hB1 x y hx]
          refine ⟨fun e => e.imp id (fun ⟨j', h1, h2⟩ => ⟨j', by omega, h2⟩), fun e => e.imp id (fun ⟨j', h1, h2, h3, h4⟩ => ?_)⟩
          by_cases e : j' = j
          · subst e; exact absurd ⟨h2, h3⟩ hn
          · exact ⟨j', by omega, h2, h3, h4⟩
        by_cases hF : F i j = false
        · rw [if_pos (mkB_andT (b := F i) (by omega) |>.mpr hF)]
          exact ⟨_, rfl, skip (fun e => by rw [hF] at e; cases e.1)⟩
        · rw [if_neg (fun e => hF ((mkB_andT (b := F i) (by omega)).mp e))]
          have hFt : F i j = true := by simpa using hF
          by_cases hU : U j = false
          · rw [if_pos (mkB_andT (b := U) (by omega) |>.mpr hU), mkB_set (show j < 16 by omega)]
            obtain ⟨v', B2, k1, k2, k3⟩ := ih f (i + 1) (addB U j) B1 v (by omega) (by omega) hM1
            have hgj : g j = cntA F c d (i + 1) (addB U j) := by rw [hg]; exact if_pos ⟨hFt, hU⟩
            have hb := hgb j
            rw [k1, Option.bind_some]
            by_cases h0 : cntA F c d (i + 1) (addB U j) = 0
            · rw [if_pos (show nI (cntA F c d (i + 1) (addB U j)) ≤ 0 by rw [h0]; decide), nI_add]
              refine ⟨_, rfl, by omega, rfl, by rw [gs, hgj], B2, k2, fun x y hx => ?_⟩
              rw [k3 x y hx, hB1 x y hx]
              constructor
              · rintro ((e | ⟨j', h1, h2⟩) | e)
                · exact Or.inl e
                · exact Or.inr ⟨j', by omega, h2⟩
                · exact Or.inr ⟨j, by omega, hFt, hU, Or.inr e⟩
              · rintro (e | ⟨j', h1, h2, h3, h4⟩)
                · exact Or.inl (Or.inl e)
                · by_cases e : j' = j
                  · subst e
                    rcases h4 with ⟨_, _, h4⟩ | h4
                    · omega
                    · exact Or.inr h4
                  · exact Or.inl (Or.inr ⟨j', by omega, h2, h3, h4⟩)
            · have h3i : v'.1 3 i = nI (mkB (B2 i) 16) := k2.2.2.2.2 i hic
              rw [if_neg (show ¬ nI (cntA F c d (i + 1) (addB U j)) ≤ 0 from nI_ge (a := 0) (b := cntA F c d (i + 1) (addB U j)) (by omega) (by omega)), nI_add]
              simp only [h3i, mkB_set (show j < 16 by omega)]
              refine ⟨_, rfl, by omega, rfl, by rw [gs, hgj], fun x => if x = i then addB (B2 i) j else B2 x, ⟨fun r hr => ?_, k2.2.1, k2.2.2.1, k2.2.2.2.1, fun x hx => ?_⟩, fun x y hx => ?_⟩
              · show (if r = 3 then _ else v'.1 r) = s.1 r
                rw [if_neg hr]; exact k2.1 r hr
              · show (if x = i then nI (mkB (addB (B2 i) j) 16) else v'.1 3 x) = nI (mkB (if x = i then addB (B2 i) j else B2 x) 16)
                by_cases e : x = i
                · rw [if_pos e, if_pos e]
                · rw [if_neg e, if_neg e]; exact k2.2.2.2.2 x hx
              · have hx2 : ((if x = i then addB (B2 i) j else B2 x) y = true) ↔ (B2 x y = true ∨ (x = i ∧ y = j)) := by
                  by_cases e : x = i
                  · subst e
                    rw [if_pos rfl]
                    show (B2 x y || decide (y = j)) = true ↔ _
                    rw [Bool.or_eq_true, decide_eq_true_eq]
                    exact ⟨fun e => e.imp id (fun e => ⟨rfl, e⟩), fun e => e.imp id (fun e => e.2)⟩
                  · rw [if_neg e]; exact ⟨Or.inl, fun e2 => e2.elim id (fun e2 => absurd e2.1 e)⟩
                rw [hx2, k3 x y hx, hB1 x y hx]
                constructor
                · rintro (((e | ⟨j', h1, h2⟩) | e) | ⟨e, e'⟩)
                  · exact Or.inl e
                  · exact Or.inr ⟨j', by omega, h2⟩
                  · exact Or.inr ⟨j, by omega, hFt, hU, Or.inr e⟩
                  · exact Or.inr ⟨j, by omega, hFt, hU, Or.inl ⟨e, e', by omega⟩⟩
                · rintro (e | ⟨j', h1, h2, h3, h4⟩)
                  · exact Or.inl (Or.inl (Or.inl e))
                  · by_cases e : j' = j
                    · subst e
                      rcases h4 with ⟨h5, h6, _⟩ | h4
                      · exact Or.inr ⟨h5, h6⟩
                      · exact Or.inl (Or.inr h4)
                    · exact Or.inl (Or.inl (Or.inr ⟨j', by omega, h2, h3, h4⟩))
          · rw [if_neg (fun e => hU ((mkB_andT (b := U) (by omega)).mp e))]
            exact ⟨_, rfl, skip (fun e => hU e.2)⟩
    obtain ⟨r, k1, u', B', rfl, k2, k3⟩ := key
    refine ⟨u', B', ?_, k2, k3⟩
    rw [k1, hg]
    rfl
