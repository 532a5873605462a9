-- rules: a whole text on both sides
def ClI (T : Nat → Int32) (n st : Nat) (L F S cf ct : Int32) (C : List (Int32 × Int32)) : Prop :=
  (L = 120 ∧ (∃ I J : Nat, I < 20 ∧ J < 12 ∧ F = nI I ∧ S = nI J) ∧ ∃ p', ∀ (ask : Int32) (s : OS), (ask = 0 ∨ ask = 1) → RdS T n st s → ∃ s', f6_readClauseO ask s = some (0, s') ∧ RdS T n p' s' ∧ FrC s s' ∧ s'.1 0 8 = L ∧ s'.1 0 9 = F ∧ s'.1 0 10 = S) ∨
  ((L = 98 ∨ L = 100 ∨ L = 116) ∧ (∃ N : Nat, N < 1000000 ∧ F = nI N ∧ (L = 116 → N ≤ 1000)) ∧ ∃ (cs A B : List (Int32 × Int32)) (den : (Nat → Int64) → Int64 × Bool) (p' : Nat), EvS cs den ∧ cf = nI A.length ∧ ct = nI (A ++ cs).length ∧ C = A ++ cs ++ B ∧ ∀ (ask : Int32) (s : OS), (ask = 0 ∨ ask = 1) → RdS T n st s → ∃ x s', f6_readClauseO ask s = some (x, s') ∧ RdS T n p' s' ∧ FrC s s' ∧ s'.1 0 8 = L ∧ (¬ L = 98 → s'.1 0 9 = F) ∧ EvB ask 0 x (s'.1 0 11) (den (s.2 3)))
theorem ClI.more {T : Nat → Int32} {n st : Nat} {L F S cf ct : Int32} {C : List (Int32 × Int32)} (h : ClI T n st L F S cf ct C) (D : List (Int32 × Int32)) : ClI T n st L F S cf ct (C ++ D) := by
  rcases h with h | ⟨h1, h2, cs, A, B, den, p', h3, h4, h5, h6, h7⟩
  · exact Or.inl h
  · exact Or.inr ⟨h1, h2, cs, A, B ++ D, den, p', h3, h4, h5, by rw [h6, List.append_assoc], h7⟩
def InvC (T : Nat → Int32) (n r j : Nat) (C : List (Int32 × Int32)) (s m : OS) : Prop := ∀ i, i < j → ∃ p, p ≤ n ∧ s.1 2 i = nI p ∧ ClI T n p (m.1 37 (12 * r + i)) (m.1 38 (12 * r + i)) (m.1 39 (12 * r + i)) (m.1 40 (12 * r + i)) (m.1 41 (12 * r + i)) C
theorem l9_end {s s' : OS} (h : f6_survey_j95 s = some s') (x : Int32) : loop (f6_survey_l9) ((0 : Int32), x, s) = some s' := by
  refine loop_inr ?_
  unfold f6_survey_l9
  show (if (12 : Int32) < x then Option.map Sum.inr (f6_survey_j95 s) else if (0 : Int32) = 0 then Option.map Sum.inr (f6_survey_j95 s) else _) = _
  rw [h]
  by_cases c : (12 : Int32) < x
  · rw [if_pos c]; rfl
  · rw [if_neg c, if_pos rfl]; rfl
theorem j95_flt {s : OS} (h : ¬ s.1 0 6 = 0) : f6_survey_j95 s = some s := by
  unfold f6_survey_j95 f6_survey_j115
  by_cases c : s.1 0 3 ≤ s.1 0 4
  · rw [if_pos c]
  · rw [if_neg c, x_fail h, Option.bind_some]
theorem j82_flt {s : OS} (h : ¬ s.1 0 6 = 0) (j : Nat) : f6_survey_j82 (nI j) s = some (.inl (0, nI (j + 1), s)) := by
  unfold f6_survey_j82
  rw [x_take h (by decide), Option.bind_some, nm_p, nI_1]
/-- a clause's place is written down -/
def sv1 (s : OS) (j : Nat) : OS := wI (wI s 2 j (s.1 0 4)) 0 5 (nI (j + 1))
theorem l9_go {s s2 : OS} {j : Nat} {x : Int32} (hj : j < 12) (h : f6_readClauseO 0 (sv1 s j) = some (x, s2)) : f6_survey_l9 ((1 : Int32), nI j, s) = f6_survey_j82 (nI j) s2 := by
  unfold f6_survey_l9
  show (if (12 : Int32) < nI j then _ else if (1 : Int32) = 0 then _ else if (12 : Int32) ≤ nI j then _ else _) = _
  rw [if_neg (show ¬ (12 : Int32) < nI j from nI_nlt (a := 12) (b := j) (by omega) (by omega)), if_neg (show ¬ (1 : Int32) = 0 by decide), if_neg (show ¬ (12 : Int32) ≤ nI j from nI_ge (a := j) (b := 12) hj (by omega))]
  simp only [nI_clamp (n := j) (by omega), inb_n hj (by omega : 12 < 2 ^ 31), chk_p, nm_p, nI_1]
  show Option.bind (f6_readClause 0 (sv1 s j)) _ = _
  obtain ⟨y, hy⟩ := rc_of h
  rw [hy, Option.bind_some]
theorem sv1_rd {T : Nat → Int32} {n p j : Nat} {s : OS} (h : RdS T n p s) : RdS T n p (sv1 s j) := ⟨h.1, h.2.1, h.2.2.1, h.2.2.2.1, h.2.2.2.2⟩
theorem l9_fault {s s2 : OS} {j k pl : Nat} {x : Int32} (hj : j < 12) (h : f6_readClauseO 0 (sv1 s j) = some (x, s2)) (hF : FltC k pl (sv1 s j) s2) : ∃ s', loop (f6_survey_l9) ((1 : Int32), nI j, s) = some s' ∧ s'.1 0 6 = nI k ∧ s'.1 0 7 = nI pl ∧ ¬ s'.1 0 6 = 0 := by
  refine ⟨s2, ?_, hF.1, hF.2.1, hF.2.2.1⟩
  rw [loop_inl (s' := (0, nI (j + 1), s2)) (by rw [l9_go hj h, j82_flt hF.2.2.1])]
  exact l9_end (j95_flt hF.2.2.1) _
theorem l83_go {m m' : OS} (a1 a2 : Int32) (hg : f11_isGood m = some 1) (h : f11_clause m = some m') : f11_rules_l83 a1 a2 ((1 : Int32), m) = Option.bind (f11_isGood m') fun q_100 => if q_100 = 0 then f11_rules_j121 a1 a2 m' else if m'.1 0 44 ≤ m'.1 0 43 then f11_rules_j121 a1 a2 m' else f11_rules_j122 a1 a2 1 m' := by
  unfold f11_rules_l83
  show (if (1 : Int32) = 0 then _ else Option.bind (f11_isGood m) fun q_89 => if q_89 = 0 then _ else Option.bind (f11_clause m) fun q_96 => _) = _
  rw [if_neg (show ¬ (1 : Int32) = 0 by decide), hg, Option.bind_some, if_neg (show ¬ (1 : Int32) = 0 by decide), h, Option.bind_some]
theorem l83_0 {m : OS} {R : Int32 × OS} (a1 a2 : Int32) (h : f11_rules_j138 a1 a2 m = some R) : loop (f11_rules_l83 a1 a2) ((0 : Int32), m) = some R := by
  refine loop_inr ?_
  unfold f11_rules_l83
  show (if (0 : Int32) = 0 then Option.map Sum.inr (f11_rules_j138 a1 a2 m) else _) = _
  rw [if_pos rfl, h]; rfl
theorem l83_b {r k pl : Nat} {m0 m : OS} (a1 a2 x : Int32) (h : Bs r k pl m0 m) : loop (f11_rules_l83 a1 a2) (x, m) = some (-1000 * nI k - nI pl, m) := by
  have hj : f11_rules_j138 a1 a2 m = some (-1000 * nI k - nI pl, m) := by
    have h3 := h.2.2
    unfold f11_rules_j138
    rw [if_neg (show ¬ (0 : Int32) ≤ m.1 0 45 by
      rw [Int32.lt_iff_toInt_lt] at h3
      rw [Int32.le_iff_toInt_le]; omega), h.2.1]
  refine loop_inr ?_
  unfold f11_rules_l83
  show (if x = 0 then Option.map Sum.inr (f11_rules_j138 a1 a2 m) else Option.bind (f11_isGood m) fun q_89 => if q_89 = 0 then Option.map Sum.inr (f11_rules_j138 a1 a2 m) else _) = _
  rw [hj]
  by_cases c : x = 0
  · rw [if_pos c]; rfl
  · rw [if_neg c, bs_good h, Option.bind_some, if_pos rfl]; rfl
theorem l83_fault {r k pl : Nat} {m0 m m' : OS} (a1 a2 : Int32) (hg : f11_isGood m = some 1) (h : f11_clause m = some m') (hb : Bs r k pl m0 m') : loop (f11_rules_l83 a1 a2) ((1 : Int32), m) = some (-1000 * nI k - nI pl, m') := by
  have hl := l83_go a1 a2 hg h
  rw [bs_good hb, Option.bind_some, if_pos rfl] at hl
  unfold f11_rules_j121 f11_rules_j122 at hl
  rw [if_pos rfl] at hl
  rw [loop_inl hl]
  exact l83_b a1 a2 0 hb
theorem r_clnot {T : Nat → Int32} {n r p j k : Nat} {m0 m : OS} {C : List (Int32 × Int32)} (h : Ys T n r m0 p j C m) (hn : n ≤ 160) (hc : (k = 1 ∧ ¬ isCl (hd T n p)) ∨ (k = 4 ∧ isCl (hd T n p) ∧ j = 12)) : ∃ m', f11_clause m = some m' ∧ Bs r k p m0 m' := by
  have hpn := h.2.2.2.2.2
  have hk : 0 < k ∧ k < 6 := by rcases hc with ⟨c, _⟩ | ⟨c, _⟩ <;> omega
  have hw := h.w
  have hb := w_bd hw (k := k) (pl := p) hk.1 hk.2 (by omega)
  have hwr : f11_wrongs (nI k) (m.1 0 43) m = some (wI m 0 45 (-1000 * nI k - nI p)) := by rw [h.2.2.1.1]; exact w_wrongs hw (nI k) (nI p)
  have j59 : ∀ c, f11_clause_j59 c (wI m 0 45 (-1000 * nI k - nI p)) = some (wI m 0 45 (-1000 * nI k - nI p)) := by
    intro c
    unfold f11_clause_j59
    rw [bw_good hb, Option.bind_some, if_pos rfl]
  refine ⟨_, ?_, hb.s h.1⟩
  unfold f11_clause
  rw [w_here hw hn, Option.bind_some]
  rcases hc with ⟨rfl, c⟩ | ⟨rfl, c, rfl⟩
  · rw [if_neg (fun e => c (Or.inl e)), if_neg (fun e => c (Or.inr (Or.inl e))), if_neg (fun e => c (Or.inr (Or.inr (Or.inl e)))), if_neg (fun e => c (Or.inr (Or.inr (Or.inr e)))), show f11_wrongs 1 (m.1 0 43) m = _ from hwr, Option.bind_some, j59]
  · have j41 : ∀ c, f11_clause_j41 c m = some (wI m 0 45 (-1000 * nI 4 - nI p)) := by
      intro c
      unfold f11_clause_j41
      rw [h.2.2.1.2.2.1, if_pos (show nI 12 = (12 : Int32) from rfl), show f11_wrongs 4 (m.1 0 43) m = _ from hwr, Option.bind_some, j59]
    rcases c with c | c | c | c
    · rw [if_pos c, j41]
    · rw [if_neg (show ¬ hd T n p = 98 by rw [c]; decide), if_pos c, j41]
    · rw [if_neg (show ¬ hd T n p = 98 by rw [c]; decide), if_neg (show ¬ hd T n p = 100 by rw [c]; decide), if_pos c, j41]
    · rw [if_neg (show ¬ hd T n p = 98 by rw [c]; decide), if_neg (show ¬ hd T n p = 100 by rw [c]; decide), if_neg (show ¬ hd T n p = 116 by rw [c]; decide), if_pos c, j41]
theorem sg_cl {T : Nat → Int32} {n p : Nat} : isCl (sg T n p) ↔ isCl (hd T n p) := by
  unfold isCl
  rw [sg_hd (by decide) (by decide), sg_hd (by decide) (by decide), sg_hd (by decide) (by decide), sg_hd (by decide) (by decide)]
theorem surv {T : Nat → Int32} {n r : Nat} {m0 : OS} (a1 a2 : Int32) (hn : n ≤ 160) (hr : r < 20) (hT : ∀ i, i < n → bw 0 255 (T i)) : ∀ (N p j : Nat) (C : List (Int32 × Int32)) (s m : OS), n - p ≤ N → p ≤ n → j ≤ 12 → RdS T n p s → Ys T n r m0 p j C m → InvC T n r j C s m →
    ∃ s' R, loop (f6_survey_l9) ((1 : Int32), nI j, s) = some s' ∧ loop (f11_rules_l83 a1 a2) ((1 : Int32), m) = some R ∧
      ((∃ k pl m', s'.1 0 6 = nI k ∧ s'.1 0 7 = nI pl ∧ ¬ s'.1 0 6 = 0 ∧ R = (-1000 * nI k - nI pl, m') ∧ FrW r m0 m') ∨
       ∃ p' j' C' m', s'.1 0 6 = 0 ∧ s'.1 0 5 = nI j' ∧ 1 ≤ j' ∧ j' ≤ 12 ∧ Ys T n r m0 p' j' C' m' ∧ InvC T n r j' C' s' m' ∧ f11_rules_j138 a1 a2 m' = some R) := by
  intro N
  induction N with
  | zero =>
    intro p j C s m hN hp hj hs hm hI
    have hcl : ¬ isCl (hd T n p) := fun e => by
      have := hd_lt (T := T) (n := n) (p := p) (fun z => by rw [z] at e; rcases e with c | c | c | c <;> exact absurd c (by decide))
      omega
    obtain ⟨m', q1, q2⟩ := r_clnot hm hn (Or.inl ⟨rfl, hcl⟩)
    have hR := l83_fault a1 a2 (w_good hm.w) q1 q2
    have hsg := c_sign hs hn hp
    rcases Nat.lt_or_ge j 12 with cj | cj
    · have h0 : RdS T n p (wI (sv1 s j) 0 11 0) := ⟨hs.1, hs.2.1, hs.2.2.1, Or.inl wI_at, hs.2.2.2.2⟩
      have h2 : RdS T n p (wI (wI (sv1 s j) 0 11 0) 0 8 (sg T n p)) := ⟨hs.1, hs.2.1, hs.2.2.1, Or.inl rfl, hs.2.2.2.2⟩
      obtain ⟨s2, g1, g2⟩ := c_flt h2 (k := 1) (pl := p) (by omega) (by omega)
      have g1 : f6_fail 1 ((wI (wI (sv1 s j) 0 11 0) 0 8 (sg T n p)).1 0 4) (wI (wI (sv1 s j) 0 11 0) 0 8 (sg T n p)) = some s2 := by rw [h2.2.1]; exact g1
      have hrc : f6_readClauseO 0 (sv1 s j) = some (0, s2) := by
        unfold f6_readClauseO
        simp only [nm_p]
        rw [c_sign h0 hn hp, Option.bind_some]
        show Option.bind (f6_isClauseLetter (sg T n p)) _ = _
        rw [cl_f (fun e => hcl (sg_cl.mp e)), Option.bind_some, if_pos rfl, g1, Option.bind_some]
      have hF : FltC 1 p (sv1 s j) s2 := g2.c (((FrC.refl _).slot (by omega)).slot (by omega))
      obtain ⟨s', z1, z2, z3, z4⟩ := l9_fault cj hrc hF
      exact ⟨s', _, z1, hR, Or.inl ⟨1, p, m', z2, z3, z4, rfl, q2.1⟩⟩
    · have hj12 : j = 12 := by omega
      subst hj12
      obtain ⟨s2, g1, g2⟩ := c_flt hs (k := 1) (pl := p) (by omega) (by omega)
      have g1 : f6_fail 1 (s.1 0 4) s = some s2 := by rw [hs.2.1]; exact g1
      refine ⟨s2, _, ?_, hR, Or.inl ⟨1, p, m', g2.1, g2.2.1, g2.2.2.1, rfl, q2.1⟩⟩
      rw [loop_inl (s' := (0, nI 13, s2)) (by
        unfold f6_survey_l9
        show (if (12 : Int32) < nI 12 then _ else if (1 : Int32) = 0 then _ else if (12 : Int32) ≤ nI 12 then Option.bind (f6_sign s) fun q_52 => Option.bind (f6_isClauseLetter q_52) fun q_55 => if q_55 = 0 then Option.bind (f6_fail 1 (s.1 0 4) s) fun q_79 => f6_survey_j82 (nI 12) q_79 else _ else _) = _
        rw [if_neg (show ¬ (12 : Int32) < nI 12 by decide), if_neg (show ¬ (1 : Int32) = 0 by decide), if_pos (show (12 : Int32) ≤ nI 12 by decide), hsg, Option.bind_some, cl_f (fun e => hcl (sg_cl.mp e)), Option.bind_some, if_pos rfl, g1, Option.bind_some, j82_flt g2.2.2.1])]
      exact l9_end (j95_flt g2.2.2.1) _
  | succ N ih =>
    intro p j C s m hN hp hj hs hm hI
    have hsg := c_sign hs hn hp
    by_cases hcl : isCl (hd T n p)
    · have hlt := hd_lt (T := T) (n := n) (p := p) (fun z => by rw [z] at hcl; rcases hcl with c | c | c | c <;> exact absurd c (by decide))
      rcases Nat.lt_or_ge j 12 with cj | cj
      · rcases cl_do hn hr hT hlt hcl with ⟨k, pl, k1, k2, k3, k4, k5⟩ | ⟨p', F, S, cs, k1, k2, k3, k4⟩
        · obtain ⟨x, s2, e1, e2⟩ := k4 0 (sv1 s j) (Or.inl rfl) (sv1_rd hs)
          obtain ⟨m', q1, q2⟩ := k5 m0 j C m cj hm
          obtain ⟨s', z1, z2, z3, z4⟩ := l9_fault cj e1 e2
          exact ⟨s', _, z1, l83_fault a1 a2 (w_good hm.w) q1 q2, Or.inl ⟨k, pl, m', z2, z3, z4, rfl, q2.1⟩⟩
        · have hcls : ∃ x s2, f6_readClauseO 0 (sv1 s j) = some (x, s2) ∧ RdS T n p' s2 ∧ FrC (sv1 s j) s2 := by
            rcases k3 with ⟨_, _, h⟩ | ⟨_, _, _, _, h⟩
            · obtain ⟨s', e1, e2, e3, _⟩ := h 0 (sv1 s j) (Or.inl rfl) (sv1_rd hs)
              exact ⟨_, s', e1, e2, e3⟩
            · obtain ⟨x, s', e1, e2, e3, _⟩ := h 0 (sv1 s j) (Or.inl rfl) (sv1_rd hs)
              exact ⟨x, s', e1, e2, e3⟩
          obtain ⟨x, s2, e1, e2, e3⟩ := hcls
          obtain ⟨m', q1, q2, ⟨q3, q4, q5, q6, q7⟩, q8⟩ := k4 m0 j C m cj hm
          have hI' : ∀ s3 : OS, (∀ i, i ≤ j → s3.1 2 i = s2.1 2 i) → InvC T n r (j + 1) (C ++ cs) s3 m' := by
            intro s3 h3 i hi
            rw [h3 i (by omega), e3.1 2 (by decide)]
            show ∃ p, p ≤ n ∧ (if i = j then s.1 0 4 else s.1 2 i) = nI p ∧ _
            by_cases c : i = j
            · subst c
              refine ⟨p, hp, by rw [if_pos rfl, hs.2.1], ?_⟩
              rw [q3, q4, q5, q6, q7]
              rcases k3 with ⟨h1, h2, h3⟩ | ⟨h1, h2, den, h3, h4⟩
              · exact Or.inl ⟨h1, h2, p', h3⟩
              · exact Or.inr ⟨h1, h2, cs, C, [], den, p', h3, rfl, rfl, (List.append_nil _).symm, h4⟩
            · obtain ⟨p1, z1, z2, z3⟩ := hI i (by omega)
              refine ⟨p1, z1, by rw [if_neg c]; exact z2, ?_⟩
              rw [q8 37 (by omega) (by omega) _ (by omega), q8 38 (by omega) (by omega) _ (by omega), q8 39 (by omega) (by omega) _ (by omega), q8 40 (by omega) (by omega) _ (by omega), q8 41 (by omega) (by omega) _ (by omega)]
              exact z3.more cs
          have e5 : s2.1 0 5 = nI (j + 1) := by rw [e3.2.2 5 (by decide) (by decide) (by decide) (by decide) (by decide) (by decide) (by decide)]; exact wI_at (s := wI s 2 j (s.1 0 4)) (r := 0) (i := 5)
          have hl := l83_go a1 a2 (w_good hm.w) q1
          rw [w_good q2.w, Option.bind_some, if_neg (show ¬ (1 : Int32) = 0 by decide), q2.2.1.2.2, q2.2.2.1.1] at hl
          have w43 := q2.2.2.1.1
          rcases c_take e2 hn k2 (c := 59) (by decide) (by decide) with ⟨t1, t2, s3, t3, t4, t5, t6⟩ | ⟨t1, t3⟩
          · -- another clause
            rw [if_neg (nI_ge t2 (by omega))] at hl
            unfold f11_rules_j122 at hl
            rw [if_neg (show ¬ (1 : Int32) = 0 by decide)] at hl
            rcases w_must q2.w hn (c := 59) (by decide) with ⟨_, m2, v1, v2⟩ | ⟨w, _⟩
            · rw [v1, Option.bind_some] at hl
              have hY := q2.go v2 (by omega)
              have hI2 : InvC T n r (j + 1) (C ++ cs) s3 m2 := by
                have := hI' s3 (fun i _ => by rw [t5.1 2 (by decide)])
                intro i hi
                obtain ⟨p1, z1, z2, z3⟩ := this i hi
                refine ⟨p1, z1, z2, ?_⟩
                rw [v2.1.1 37 (by decide), v2.1.1 38 (by decide), v2.1.1 39 (by decide), v2.1.1 40 (by decide), v2.1.1 41 (by decide)]; exact z3
              obtain ⟨s', R, w1, w2, w3⟩ := ih (p' + 1) (j + 1) (C ++ cs) s3 m2 (by omega) (by omega) (by omega) t4 hY hI2
              refine ⟨s', R, ?_, (loop_inl hl).trans w2, w3⟩
              refine (loop_inl ?_).trans w1
              rw [l9_go cj e1]
              unfold f6_survey_j82
              rw [t3, Option.bind_some, nm_p, nI_1]
            · exact absurd t1 w
          · have h82 : f6_survey_l9 ((1 : Int32), nI j, s) = some (.inl (0, nI (j + 1), s2)) := by
              rw [l9_go cj e1]
              unfold f6_survey_j82
              rw [t3, Option.bind_some, nm_p, nI_1]
            rcases Nat.lt_or_ge p' n with c | c
            · -- something else stands there
              rw [if_neg (nI_ge c (by omega))] at hl
              unfold f11_rules_j122 at hl
              rw [if_neg (show ¬ (1 : Int32) = 0 by decide)] at hl
              rcases w_must q2.w hn (c := 59) (by decide) with ⟨w, _⟩ | ⟨_, m2, v1, v2⟩
              · exact absurd w t1
              · rw [v1, Option.bind_some] at hl
                have hb : Bs r 1 p' m0 m2 := v2.s q2.1
                obtain ⟨s3, g1, g2⟩ := c_flt e2 (k := 1) (pl := p') (by omega) (by omega)
                have g1 : f6_fail 1 (s2.1 0 4) s2 = some s3 := by rw [e2.2.1]; exact g1
                refine ⟨s3, _, ?_, (loop_inl hl).trans (l83_b a1 a2 1 hb), Or.inl ⟨1, p', m2, g2.1, g2.2.1, g2.2.2.1, rfl, hb.1⟩⟩
                rw [loop_inl h82]
                refine l9_end ?_ _
                unfold f6_survey_j95 f6_survey_j115
                rw [e2.1, if_neg (show ¬ nI n ≤ s2.1 0 4 by rw [e2.2.1]; exact nI_ge c (by omega)), g1, Option.bind_some]
            · -- the end
              rw [if_pos (nI_le c (by omega))] at hl
              unfold f11_rules_j121 f11_rules_j122 at hl
              rw [if_pos rfl] at hl
              have h138 : ∃ R, f11_rules_j138 a1 a2 m' = some R := by
                have q0 : ∀ (a : OS) (q' i' : Nat) (v : Int32), q' ≠ 0 → (wI a q' i' v).1 0 = a.1 0 := fun a q' i' v hq => wI_of (fun e => hq e.symm)
                unfold f11_rules_j138
                rw [q2.2.2.1.2.1, if_pos (show (0 : Int32) ≤ 0 by decide), q2.2.1.2.1, inb_n hr (by omega), chk_p]
                simp only [nm_p, q0 _ 34 _ _ (by decide), q0 _ 35 _ _ (by decide), q2.2.1.2.1, inb_n hr (by omega : 20 < 2 ^ 31), chk_p]
                exact ⟨_, rfl⟩
              obtain ⟨R, hR⟩ := h138
              refine ⟨s2, R, ?_, (loop_inl hl).trans (l83_0 a1 a2 hR), Or.inr ⟨p', j + 1, C ++ cs, m', e2.2.2.1, e5, by omega, by omega, q2, hI' s2 (fun _ _ => rfl), hR⟩⟩
              rw [loop_inl h82]
              refine l9_end ?_ _
              unfold f6_survey_j95 f6_survey_j115
              rw [e2.1, if_pos (show nI n ≤ s2.1 0 4 by rw [e2.2.1]; exact nI_le c (by omega))]
      · have hj12 : j = 12 := by omega
        subst hj12
        obtain ⟨m', q1, q2⟩ := r_clnot hm hn (Or.inr ⟨rfl, hcl, rfl⟩)
        have hR := l83_fault a1 a2 (w_good hm.w) q1 q2
        obtain ⟨s2, g1, g2⟩ := c_flt hs (k := 4) (pl := p) (by omega) (by omega)
        have g1 : f6_fail 4 (s.1 0 4) s = some s2 := by rw [hs.2.1]; exact g1
        refine ⟨s2, _, ?_, hR, Or.inl ⟨4, p, m', g2.1, g2.2.1, g2.2.2.1, rfl, q2.1⟩⟩
        rw [loop_inl (s' := (0, nI 13, s2)) (by
          unfold f6_survey_l9
          show (if (12 : Int32) < nI 12 then _ else if (1 : Int32) = 0 then _ else if (12 : Int32) ≤ nI 12 then Option.bind (f6_sign s) fun q_52 => Option.bind (f6_isClauseLetter q_52) fun q_55 => if q_55 = 0 then _ else Option.bind (f6_fail 4 (s.1 0 4) s) fun q_67 => f6_survey_j82 (nI 12) q_67 else _) = _
          rw [if_neg (show ¬ (12 : Int32) < nI 12 by decide), if_neg (show ¬ (1 : Int32) = 0 by decide), if_pos (show (12 : Int32) ≤ nI 12 by decide), hsg, Option.bind_some, cl_t (sg_cl.mpr hcl), Option.bind_some, if_neg (show ¬ (1 : Int32) = 0 by decide), g1, Option.bind_some, j82_flt g2.2.2.1])]
        exact l9_end (j95_flt g2.2.2.1) _
    · obtain ⟨m', q1, q2⟩ := r_clnot hm hn (Or.inl ⟨rfl, hcl⟩)
      have hR := l83_fault a1 a2 (w_good hm.w) q1 q2
      rcases Nat.lt_or_ge j 12 with cj | cj
      · have h0 : RdS T n p (wI (sv1 s j) 0 11 0) := ⟨hs.1, hs.2.1, hs.2.2.1, Or.inl wI_at, hs.2.2.2.2⟩
        have h2 : RdS T n p (wI (wI (sv1 s j) 0 11 0) 0 8 (sg T n p)) := ⟨hs.1, hs.2.1, hs.2.2.1, Or.inl rfl, hs.2.2.2.2⟩
        obtain ⟨s2, g1, g2⟩ := c_flt h2 (k := 1) (pl := p) (by omega) (by omega)
        have g1 : f6_fail 1 ((wI (wI (sv1 s j) 0 11 0) 0 8 (sg T n p)).1 0 4) (wI (wI (sv1 s j) 0 11 0) 0 8 (sg T n p)) = some s2 := by rw [h2.2.1]; exact g1
        have hrc : f6_readClauseO 0 (sv1 s j) = some (0, s2) := by
          unfold f6_readClauseO
          simp only [nm_p]
          rw [c_sign h0 hn hp, Option.bind_some]
          show Option.bind (f6_isClauseLetter (sg T n p)) _ = _
          rw [cl_f (fun e => hcl (sg_cl.mp e)), Option.bind_some, if_pos rfl, g1, Option.bind_some]
        have hF : FltC 1 p (sv1 s j) s2 := g2.c (((FrC.refl _).slot (by omega)).slot (by omega))
        obtain ⟨s', z1, z2, z3, z4⟩ := l9_fault cj hrc hF
        exact ⟨s', _, z1, hR, Or.inl ⟨1, p, m', z2, z3, z4, rfl, q2.1⟩⟩
      · have hj12 : j = 12 := by omega
        subst hj12
        obtain ⟨s2, g1, g2⟩ := c_flt hs (k := 1) (pl := p) (by omega) (by omega)
        have g1 : f6_fail 1 (s.1 0 4) s = some s2 := by rw [hs.2.1]; exact g1
        refine ⟨s2, _, ?_, hR, Or.inl ⟨1, p, m', g2.1, g2.2.1, g2.2.2.1, rfl, q2.1⟩⟩
        rw [loop_inl (s' := (0, nI 13, s2)) (by
          unfold f6_survey_l9
          show (if (12 : Int32) < nI 12 then _ else if (1 : Int32) = 0 then _ else if (12 : Int32) ≤ nI 12 then Option.bind (f6_sign s) fun q_52 => Option.bind (f6_isClauseLetter q_52) fun q_55 => if q_55 = 0 then Option.bind (f6_fail 1 (s.1 0 4) s) fun q_79 => f6_survey_j82 (nI 12) q_79 else _ else _) = _
          rw [if_neg (show ¬ (12 : Int32) < nI 12 by decide), if_neg (show ¬ (1 : Int32) = 0 by decide), if_pos (show (12 : Int32) ≤ nI 12 by decide), hsg, Option.bind_some, cl_f (fun e => hcl (sg_cl.mp e)), Option.bind_some, if_pos rfl, g1, Option.bind_some, j82_flt g2.2.2.1])]
        exact l9_end (j95_flt g2.2.2.1) _
