-- rules
theorem wI_comm {s : OS} {r i r' i' : Nat} {v v' : Int32} (h : r ≠ r' ∨ i ≠ i') : wI (wI s r i v) r' i' v' = wI (wI s r' i' v') r i v := by
  unfold wI
  refine Prod.ext (funext fun x => ?_) rfl
  show (if x = r' then (fun j => if j = i' then v' else (if r' = r then (fun j => if j = i then v else s.1 r j) else s.1 r') j) else (if x = r then (fun j => if j = i then v else s.1 r j) else s.1 x)) = (if x = r then (fun j => if j = i then v else (if r = r' then (fun j => if j = i' then v' else s.1 r' j) else s.1 r) j) else (if x = r' then (fun j => if j = i' then v' else s.1 r' j) else s.1 x))
  by_cases c : r = r'
  · subst c
    have hi : i ≠ i' := h.resolve_left (fun e => e rfl)
    by_cases cx : x = r
    · rw [if_pos cx, if_pos cx, if_pos rfl, if_pos rfl]
      funext j
      by_cases c1 : j = i'
      · rw [if_pos c1, if_neg (show ¬ j = i from fun e => hi (e.symm.trans c1)), if_pos c1]
      · rw [if_neg c1]
        by_cases c2 : j = i
        · rw [if_pos c2, if_pos c2]
        · rw [if_neg c2, if_neg c2, if_neg c1]
    · rw [if_neg cx, if_neg cx, if_neg cx, if_neg cx]
  · by_cases cx : x = r
    · subst cx
      rw [if_neg c, if_pos rfl, if_pos rfl, if_neg c]
    · rw [if_neg cx, if_neg cx]
      by_cases cy : x = r'
      · rw [if_pos cy, if_neg (fun e => c e.symm), if_pos cy]
      · rw [if_neg cy, if_neg cy]
theorem readClause_11 (ask : Int32) (s : OS) : f6_readClause ask s = f6_readClause ask (wI s 0 11 0) := by
  unfold f6_readClause
  rw [wI_2']
theorem readClauseO_11 (ask : Int32) (s : OS) : f6_readClauseO ask s = f6_readClauseO ask (wI s 0 11 0) := by
  unfold f6_readClauseO
  rw [wI_2']
theorem asks_11 (st : Int32) (s : OS) : f6_asksClause st s = f6_asksClause st (wI s 0 11 0) := by
  unfold f6_asksClause
  simp only [nm_p]
  rw [readClauseO_11 1 (wI s 0 4 st), wI_comm (Or.inr (by decide)), readClauseO_11 1 (wI (wI s 0 11 0) 0 4 st), wI_comm (Or.inr (by decide)), wI_2']
theorem surv_11 (s : OS) : loop (f6_survey_l9) ((1 : Int32), nI 0, s) = loop (f6_survey_l9) ((1 : Int32), nI 0, wI s 0 11 0) := by
  refine loop_same ?_
  have go : ∀ s : OS, f6_survey_l9 ((1 : Int32), nI 0, s) = Option.bind (f6_readClause 0 (sv1 s 0)) fun q => f6_survey_j82 (nI 0) q.2 := by
    intro s
    unfold f6_survey_l9
    show (if (12 : Int32) < nI 0 then _ else if (1 : Int32) = 0 then _ else if (12 : Int32) ≤ nI 0 then _ else _) = _
    rw [if_neg (show ¬ (12 : Int32) < nI 0 by decide), if_neg (show ¬ (1 : Int32) = 0 by decide), if_neg (show ¬ (12 : Int32) ≤ nI 0 by decide)]
    simp only [nI_clamp (n := 0) (by omega), inb_n (show 0 < 12 by omega) (by omega : 12 < 2 ^ 31), chk_p, nm_p, nI_1]
    rfl
  rw [go, go, readClause_11 0 (sv1 s 0), readClause_11 0 (sv1 (wI s 0 11 0) 0)]
  have e : wI (sv1 s 0) 0 11 0 = wI (sv1 (wI s 0 11 0) 0) 0 11 0 := by
    unfold sv1
    have e4 : (wI s 0 11 0).1 0 4 = s.1 0 4 := rfl
    rw [e4, wI_comm (s := wI (wI s 0 11 0) 2 0 (s.1 0 4)) (Or.inr (by decide)), wI_comm (s := wI s 0 11 0) (r := 2) (r' := 0) (Or.inl (by decide)), wI_2', ← wI_comm (s := s) (r := 2) (r' := 0) (Or.inl (by decide)), ← wI_comm (s := wI s 2 0 (s.1 0 4)) (Or.inr (by decide))]
  rw [e]
theorem RdS_congr {T T' : Nat → Int32} {n p : Nat} {s : OS} (hT : ∀ x, x < n → T' x = T x) (h : RdS T' n p s) : RdS T n p s := ⟨h.1, h.2.1, h.2.2.1, h.2.2.2.1, fun i hi => by rw [← hT i hi]; exact h.2.2.2.2 i hi⟩
theorem ClOne_congr {T T' : Nat → Int32} {n st base : Nat} {L F S cf ct : Int32} {a b a' b' : Nat → Int32} (hT : ∀ x, x < n → T' x = T x) (hc : ∀ i, base ≤ i → i < base + 160 → a' i = a i ∧ b' i = b i) (h : ClOne T n st L F S cf ct a b base) : ClOne T' n st L F S cf ct a' b' base := by
  rcases h with ⟨h1, h2, h3⟩ | ⟨h1, h2, cs, den, c0, h3, h4, h5, h6, h7, h8⟩
  · refine Or.inl ⟨h1, h2, fun p s hs => ?_⟩
    obtain ⟨p', s', e1, e2, e3, e4⟩ := h3 p s (RdS_congr hT hs)
    exact ⟨p', s', e1, e2, RdS_congr (fun x hx => (hT x hx).symm) e3, e4⟩
  · refine Or.inr ⟨h1, h2, cs, den, c0, h3, h4, h5, h6, cdA_upd cs _ (fun j z1 z2 => hc j (by omega) (by omega)) h7, fun p s hs => ?_⟩
    obtain ⟨x, p', s', e1, e2, e3, e4⟩ := h8 p s (RdS_congr hT hs)
    exact ⟨x, p', s', e1, e2, RdS_congr (fun x hx => (hT x hx).symm) e3, e4⟩
theorem ClI_one {T : Nat → Int32} {n st base : Nat} {L F S cf ct : Int32} {C : List (Int32 × Int32)} {a b : Nat → Int32} (h : ClI T n st L F S cf ct C) (hC : C.length ≤ 160) (hc : cdA a b base C) : ClOne T n st L F S cf ct a b base := by
  have at_st : ∀ (p : Nat) (s : OS), RdS T n p s → RdS T n st (wI s 0 4 (nI st)) := fun p s hs => ⟨hs.1, wI_at, hs.2.2.1, hs.2.2.2.1, hs.2.2.2.2⟩
  rcases h with ⟨h1, h2, p', h3⟩ | ⟨h1, h2, cs, A, B, den, p', h3, h4, h5, h6, h7⟩
  · refine Or.inl ⟨h1, h2, fun p s hs => ?_⟩
    obtain ⟨s', e1, e2, e3, e4⟩ := h3 1 _ (Or.inr rfl) (at_st p s hs)
    refine ⟨p', s', ?_, ((FrC.refl s).slot (by omega)).trans e3, e2, e4⟩
    unfold f6_asksClause
    rw [nm_p, e1, Option.bind_some, rcE_0]
  · rw [h6] at hc hC
    rw [List.length_append, List.length_append] at hC
    have h8 := ((cdA_app _ _ _).mp ((cdA_app _ _ _).mp hc).1).2
    refine Or.inr ⟨h1, h2, cs, den, A.length, h3, h4, by rw [h5, List.length_append], by omega, h8, fun p s hs => ?_⟩
    obtain ⟨x, s', e1, e2, e3, e4, e5, e6⟩ := h7 1 _ (Or.inr rfl) (at_st p s hs)
    have e6 : EvB 1 0 x (s'.1 0 11) (den (s.2 3)) := e6
    obtain ⟨a0, a1, a2, a3, a4, a5⟩ := e6
    have hF : FrC s s' := ((FrC.refl s).slot (by omega)).trans e3
    have h01 : ¬ (0 : Int32) = 1 := by decide
    have h10 : ¬ (1 : Int32) = 0 := by decide
    unfold f6_asksClause
    rw [nm_p, e1, Option.bind_some]
    unfold rcE
    rcases a0 with z | z
    · rw [if_pos z]
      refine ⟨0, p', s', rfl, hF, e2, e4, e5, Or.inr ⟨rfl, fun w => ?_⟩⟩
      have := (a2 w.1).mpr w.2
      rw [z] at this; exact h01 this
    · rw [if_neg (show ¬ (x, s').1 = 0 from fun w => h10 (z.symm.trans w))]
      rcases hd2 : (den (s.2 3)).2 with _ | _
      · rw [if_pos (show (x, s').2.1 0 11 = 0 from a5 rfl hd2)]
        exact ⟨1, p', s', rfl, hF, e2, e4, e5, Or.inl ⟨rfl, rfl, (a2 hd2).mp z⟩⟩
      · rw [if_neg (show ¬ (x, s').2.1 0 11 = 0 from fun w => by have := a4 rfl hd2; rw [this] at w; exact h10 w)]
        exact ⟨0, p', s', rfl, hF, e2, e4, e5, Or.inr ⟨rfl, fun w => by cases w.1⟩⟩
theorem ClR_keep {r : Nat} {tx tx' ln ln' st st' a36 a36' a37 a38 a39 a40 a41 a42 a43 b37 b38 b39 b40 b41 b42 b43 : Nat → Int32} (h : ClR r tx ln st a36 a37 a38 a39 a40 a41 a42 a43) (hk : ∀ i, i < r → bw 1 12 (a36 i)) (h1 : ∀ x, x < 160 * r → tx' x = tx x) (h2 : ∀ i, i < r → ln' i = ln i ∧ a36' i = a36 i) (h3 : ∀ x, x < 12 * r → st' x = st x) (h4 : ∀ x, x < 12 * r → b37 x = a37 x ∧ b38 x = a38 x ∧ b39 x = a39 x ∧ b40 x = a40 x ∧ b41 x = a41 x) (h5 : ∀ x, x < 160 * r → b42 x = a42 x ∧ b43 x = a43 x) : ClR r tx' ln' st' a36' b37 b38 b39 b40 b41 b42 b43 := by
  intro i hi
  obtain ⟨n, k, g1, g2, g3, g4, g5⟩ := h i hi
  obtain ⟨b, _, hb, e⟩ := bw_nat (lo := 1) (hi := 12) (hk i hi) (by omega)
  have hbk : b ≤ k := by
    rcases Nat.lt_or_ge k b with c | c
    · have := (nI_eq (a := k) (b := b) (by omega) (by omega)).mp (g3.symm.trans e)
      omega
    · exact c
  refine ⟨n, b, g1, by rw [(h2 i hi).1]; exact g2, by rw [(h2 i hi).2]; exact e, fun x hx => by rw [h1 _ (by omega)]; exact g4 x hx, fun j hj => ?_⟩
  obtain ⟨p, z1, z2, z3⟩ := g5 j (by omega)
  obtain ⟨w1, w2, w3, w4, w5⟩ := h4 (12 * i + j) (by omega)
  refine ⟨p, z1, by rw [h3 _ (by omega)]; exact z2, ?_⟩
  rw [w1, w2, w3, w4, w5]
  exact ClOne_congr (fun x hx => h1 _ (by omega)) (fun y y1 y2 => h5 y (by omega)) z3
