-- lend: one clause asked on both sides
theorem z_div : ∀ z : Fin 240, (nI z.1 / (12 : Int32)) * (160 : Int32) = nI (160 * (z.1 / 12)) := by decide +kernel
theorem r_holds {cs : List (Int32 × Int32)} {den : (Nat → Int64) → Int64 × Bool} (h : EvS cs den) {i j c0 : Nat} (hi : i < 20) (hj : j < 12) {m : OS} {env : Nat → Int64} (hm : EnvM m env) (h40 : m.1 40 (12 * i + j) = nI c0) (h41 : m.1 41 (12 * i + j) = nI (c0 + cs.length)) (hl : c0 + cs.length ≤ 160) (hc : cdA (m.1 42) (m.1 43) (160 * i + c0) cs) :
    ∃ m', f11_holds (nI (12 * i + j)) m = some (if (den env).2 = false ∧ (den env).1 = 1 then 1 else 0, m') ∧ FrE m m' := by
  have hz : 12 * i + j < 240 := by omega
  have hcl := nI_clamp (n := 12 * i + j) (by omega)
  have hin := inb_n hz (by omega : 240 < 2 ^ 31)
  have hi0 : inb (0 : Int32) 200 = true := by decide
  have hdv := z_div ⟨12 * i + j, hz⟩
  have hdv : (nI (12 * i + j) / (12 : Int32)) * (160 : Int32) = nI (160 * i) := hdv.trans (congrArg nI (by show 160 * ((12 * i + j) / 12) = _; omega))
  obtain ⟨m', e1, e2, e3, e4, _⟩ := h (nI (12 * i + j)) (nI (160 * i)) (160 * i + c0) 0 (160 * i + (c0 + cs.length)) env m hin hc (by rw [hcl, h41, nI_add]) (by omega) (by omega) (by omega) hm
  refine ⟨m', ?_, e2⟩
  unfold f11_holds
  rw [nm_p, hdv, hin, chk_p, nm_p, hcl, h40, nm_p, nI_add]
  refine e1.trans (loop_inr ?_)
  unfold f11_holds_l21 f11_holds_j175 f11_holds_j176
  have w41 : m'.1 41 (12 * i + j) = nI (c0 + cs.length) := by rw [e2.1 41 (by decide)]; exact h41
  have c0' : (0 : Int32).toNatClampNeg = 0 := rfl
  simp only [hin, chk_p, nm_p, hcl, w41, nI_add, hi0, c0', e3, e4]
  rw [if_pos (show nI (160 * i + (c0 + cs.length)) ≤ nI (160 * i + c0 + cs.length) by rw [Nat.add_assoc]; exact nI_le (Nat.le_refl _) (by omega))]
  have b1 : isB (1 : Int32) = true := by decide
  have b0 : isB (0 : Int32) = true := by decide
  rw [b1, b0]
  cases hb : (den env).2 with
  | true => simp only [if_true, if_neg (show ¬ (1 : Int32) = 0 by decide), chk_p]; rfl
  | false =>
    simp only [if_neg (show ¬ false = true by decide), if_true, chk_p]
    by_cases c : (den env).1 = 1
    · rw [if_pos ((lg_eq0 _ _).mpr c), if_pos ⟨trivial, c⟩]; rfl
    · rw [if_neg (fun e => c ((lg_eq0 _ _).mp e)), if_neg (fun e => c e.2)]; rfl
/-- one clause, asked with the letters env, on both sides: b says whether it holds -/
def ClH (T : Nat → Int32) (n z st : Nat) (L F S cf ct : Int32) (a42 a43 : Nat → Int32) (env : Nat → Int64) (b : Bool) : Prop :=
  ((L = 120 ∧ ∃ I J : Nat, I < 20 ∧ J < 12 ∧ F = nI I ∧ S = nI J) ∨ ((L = 98 ∨ L = 100 ∨ L = 116) ∧ ∃ N : Nat, N < 1000000 ∧ F = nI N ∧ (L = 116 → N ≤ 1000))) ∧
  (∀ (p : Nat) (s : OS), RdS T n p s → s.2 3 = env → ∃ (x : Int32) (p' : Nat) (s' : OS), f6_asksClause (nI st) s = some (x, s') ∧ FrC s s' ∧ RdS T n p' s' ∧ s'.1 0 8 = L ∧ (¬ L = 98 → s'.1 0 9 = F) ∧ (L = 120 → s'.1 0 10 = S) ∧ (¬ L = 120 → x = bI b)) ∧
  (¬ L = 120 → ∀ m : OS, EnvM m env → m.1 40 z = cf → m.1 41 z = ct → m.1 42 = a42 → m.1 43 = a43 → ∃ m', f11_holds (nI z) m = some (bI b, m') ∧ FrE m m')
theorem ClOne.toH {T : Nat → Int32} {n st : Nat} {L F S cf ct : Int32} {a42 a43 : Nat → Int32} {i j : Nat} (h : ClOne T n st L F S cf ct a42 a43 (160 * i)) (hi : i < 20) (hj : j < 12) (env : Nat → Int64) : ∃ b, ClH T n (12 * i + j) st L F S cf ct a42 a43 env b := by
  rcases h with ⟨h1, h2, h3⟩ | ⟨h1, h2, cs, den, c0, h3, h4, h5, h6, h7, h8⟩
  · refine ⟨false, Or.inl ⟨h1, h2⟩, fun p s hs _ => ?_, fun e => absurd h1 e⟩
    obtain ⟨p', s', g1, g2, g3, g4, g5, g6⟩ := h3 p s hs
    exact ⟨0, p', s', g1, g2, g3, g4, fun _ => g5, fun _ => g6, fun e => absurd h1 e⟩
  · have hn : ¬ L = 120 := by
      intro e; subst e
      rcases h1 with h1 | h1 | h1 <;> exact absurd h1 (by decide)
    refine ⟨decide ((den env).2 = false ∧ (den env).1 = 1), Or.inr ⟨h1, h2⟩, fun p s hs he => ?_, fun _ m hm w40 w41 w42 w43 => ?_⟩
    · obtain ⟨x, p', s', g1, g2, g3, g4, g5, g6⟩ := h8 p s hs
      refine ⟨x, p', s', g1, g2, g3, g4, g5, fun e => absurd e hn, fun _ => ?_⟩
      rw [he] at g6
      unfold bI
      rcases g6 with ⟨g6, g7⟩ | ⟨g6, g7⟩
      · rw [if_pos (decide_eq_true g7), g6]
      · rw [if_neg (fun e => g7 (of_decide_eq_true e)), g6]
    · obtain ⟨m', g1, g2⟩ := r_holds h3 hi hj hm (w40.trans h4) (w41.trans h5) h6 (by rw [w42, w43]; exact h7)
      refine ⟨m', ?_, g2⟩
      rw [g1]
      unfold bI
      by_cases c : (den env).2 = false ∧ (den env).1 = 1
      · rw [if_pos c, if_pos (decide_eq_true c)]
      · rw [if_neg c, if_neg (fun e => c (of_decide_eq_true e))]
/-- all clauses of the rules -/
theorem ClR.toH {r : Nat} {tx ln st a36 a37 a38 a39 a40 a41 a42 a43 : Nat → Int32} (h : ClR r tx ln st a36 a37 a38 a39 a40 a41 a42 a43) (hr : r ≤ 20) (hk : ∀ i, i < r → bw 1 12 (a36 i)) (env : Nat → Int64) :
    ∃ (K N : Nat → Nat) (H : Nat → Bool), ∀ i, i < r → N i ≤ 160 ∧ ln i = nI (N i) ∧ K i ≤ 12 ∧ a36 i = nI (K i) ∧ (∀ x, x < N i → bw 0 255 (tx (160 * i + x))) ∧
      ∀ j, j < K i → ∃ p : Nat, p ≤ N i ∧ st (12 * i + j) = nI p ∧ ClH (fun x => tx (160 * i + x)) (N i) (12 * i + j) p (a37 (12 * i + j)) (a38 (12 * i + j)) (a39 (12 * i + j)) (a40 (12 * i + j)) (a41 (12 * i + j)) a42 a43 env (H (12 * i + j)) := by
  have h1 : ∀ i, ∃ nk : Nat × Nat, i < r → nk.1 ≤ 160 ∧ ln i = nI nk.1 ∧ nk.2 ≤ 12 ∧ a36 i = nI nk.2 ∧ (∀ x, x < nk.1 → bw 0 255 (tx (160 * i + x))) ∧ ∀ j, j < nk.2 → ∃ p : Nat, p ≤ nk.1 ∧ st (12 * i + j) = nI p ∧ ClOne (fun x => tx (160 * i + x)) nk.1 p (a37 (12 * i + j)) (a38 (12 * i + j)) (a39 (12 * i + j)) (a40 (12 * i + j)) (a41 (12 * i + j)) a42 a43 (160 * i) := by
    intro i
    by_cases hi : i < r
    · obtain ⟨n, k, g1, g2, g3, g4, g5⟩ := h i hi
      obtain ⟨k', z1, z2, z3⟩ := bw_nat (lo := 1) (hi := 12) (hk i hi) (by omega)
      refine ⟨(n, k'), fun _ => ⟨g1, g2, z2, z3, g4, fun j hj => ?_⟩⟩
      by_cases hkk : k < 2 ^ 31
      · have : k = k' := (nI_eq (a := k) (b := k') hkk (by omega)).mp (g3.symm.trans z3)
        exact g5 j (this ▸ hj)
      · exact g5 j (by have hj : j < k' := hj; omega)
    · exact ⟨(0, 0), fun e => absurd e hi⟩
  obtain ⟨f, hf⟩ := Classical.axiomOfChoice h1
  have h2 : ∀ z, ∃ b : Bool, ∀ i j, i < r → j < (f i).2 → z = 12 * i + j → ∃ p : Nat, p ≤ (f i).1 ∧ st (12 * i + j) = nI p ∧ ClH (fun x => tx (160 * i + x)) (f i).1 (12 * i + j) p (a37 (12 * i + j)) (a38 (12 * i + j)) (a39 (12 * i + j)) (a40 (12 * i + j)) (a41 (12 * i + j)) a42 a43 env b := by
    intro z
    by_cases hz : ∃ i j, i < r ∧ j < (f i).2 ∧ z = 12 * i + j
    · obtain ⟨i, j, hi, hj, rfl⟩ := hz
      obtain ⟨y1, y2, y3, y4, y5, y6⟩ := hf i hi
      obtain ⟨p, x1, x2, x3⟩ := y6 j hj
      obtain ⟨b, hb⟩ := x3.toH (j := j) (by omega) (by omega) env
      refine ⟨b, fun i' j' hi' hj' e => ?_⟩
      have y3' := (hf i' hi').2.2.1
      have e1 : i' = i := by omega
      subst e1
      have e2 : j' = j := by omega
      subst e2
      exact ⟨p, x1, x2, hb⟩
    · exact ⟨false, fun i j hi hj e => absurd ⟨i, j, hi, hj, e⟩ hz⟩
  obtain ⟨H, hH⟩ := Classical.axiomOfChoice h2
  refine ⟨fun i => (f i).2, fun i => (f i).1, H, fun i hi => ?_⟩
  obtain ⟨y1, y2, y3, y4, y5, y6⟩ := hf i hi
  exact ⟨y1, y2, y3, y4, y5, fun j hj => hH (12 * i + j) i j hi hj rfl⟩
