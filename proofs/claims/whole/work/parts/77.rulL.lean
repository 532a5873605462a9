-- rules: a whole clause on both sides
theorem r_cnd {T : Nat → Int32} {n r p p' j : Nat} {m0 m : OS} {C cs : List (Int32 × Int32)} (hC : CndY T n r p p' cs) (h : Ys T n r m0 p j C m) (hp : p' ≤ n) : ∃ m', f11_condition m = some m' ∧ Ys T n r m0 p' j (C ++ cs) m' ∧ ∀ q, 37 ≤ q → q ≤ 41 → m'.1 q = m.1 q := by
  obtain ⟨hF, ⟨h1, h2, h3⟩, ⟨g1, g2, g3, g4⟩, h5, h6, h7⟩ := h
  obtain ⟨m', e1, e2, e3, e4, e5, e6, e7⟩ := hC m C 0 [] 0 m (FrY.refl r m) h1 h2 h3 g1 g2 g4 h5 h6
  refine ⟨m', e1, ⟨hF.trans e2.w, ⟨?_, ?_, ?_⟩, ⟨e3, e4, ?_, e5⟩, e6, e7, hp⟩, fun q q1 q2 => e2.1 q (by omega) (by omega) (by omega) (by omega)⟩
  · rw [e2.1 1 (by decide) (by decide) (by decide) (by decide)]; exact h1
  · rw [e2.2.2.1 6 (by decide)]; exact h2
  · rw [e2.2.2.1 44 (by decide)]; exact h3
  · rw [e2.2.2.1 46 (by decide)]; exact g3
theorem r_cndf {T : Nat → Int32} {n r p k pl j : Nat} {m0 m : OS} {C : List (Int32 × Int32)} (hC : CndF T n r p k pl) (h : Ys T n r m0 p j C m) : ∃ m', f11_condition m = some m' ∧ Bs r k pl m0 m' := by
  obtain ⟨hF, ⟨h1, h2, h3⟩, ⟨g1, g2, g3, g4⟩, h5, h6, h7⟩ := h
  obtain ⟨m', e1, e2⟩ := hC m C m (FrY.refl r m) h1 h2 h3 g1 g2 g4 h5 h6
  exact ⟨m', e1, e2.s hF⟩
theorem x_told {s : OS} (h : ¬ s.1 0 6 = 0) {most : Nat} (hm : most < 2 ^ 30) : f6_readTold (nI most) s = some (0, s) := by
  unfold f6_readTold f6_readTold_j21
  rw [nm_p, x_digits h, Option.bind_some, if_pos (show (0 : Int32) ≤ nI most from nI_le (a := 0) (b := most) (by omega) (by omega))]
theorem w_must {T : Nat → Int32} {n p : Nat} {m0 m : OS} {c : Int32} (h : YW T n m0 p m) (hn : n ≤ 160) (h0 : ¬ c = 0) : (hd T n p = c ∧ ∃ m', f11_must c m = some m' ∧ YW T n m0 (p + 1) m') ∨ (¬ hd T n p = c ∧ ∃ m', f11_must c m = some m' ∧ BW 1 p m0 m') := by
  have hpn := h.2.2.2.2.2
  unfold f11_must f11_must_j17
  rw [w_here h hn, Option.bind_some]
  by_cases c1 : hd T n p = c
  · rw [if_pos c1, nm_p]
    exact Or.inl ⟨c1, _, rfl, w_place h (hd_lt (fun e => h0 (c1.symm.trans e)))⟩
  · have hb := w_bd h (k := 1) (pl := p) (by omega) (by omega) (by omega)
    have hw : f11_wrongs 1 (m.1 0 43) m = some (wI m 0 45 (-1000 * nI 1 - nI p)) := by rw [h.2.2.2.1]; exact w_wrongs h (nI 1) (nI p)
    rw [if_neg c1, hw, Option.bind_some, nm_p]
    exact Or.inr ⟨c1, _, rfl, hb.place _⟩
theorem cl_x {T : Nat → Int32} {n r p : Nat} (hn : n ≤ 160) (hr : r < 20) (hp : p < n) (hL : hd T n p = 120) : (∃ k pl, 0 < k ∧ k < 6 ∧ pl ≤ 200 ∧ ClLF T n r p k pl) ∨ ∃ p' F S cs, p < p' ∧ p' ≤ n ∧ ClLO T n r p p' (hd T n p) F S cs := by
  have hcl : isCl (hd T n p) := Or.inr (Or.inr (Or.inr hL))
  have cls : ∀ (ask : Int32) (s : OS), RdS T n p s → ∃ s1, RdS T n (p + 1) s1 ∧ FrC s s1 ∧ s1.1 0 8 = 120 ∧ f6_readClauseO ask s = (Option.bind (f6_readTold 19 s1) fun q_57 => Option.bind (f6_require 46 (wI q_57.2 0 9 q_57.1)) fun q_66 => Option.bind (f6_readTold 11 q_66) fun q_73 => some ((0 : Int32), wI q_73.2 0 10 q_73.1)) := by
    intro ask s hs
    obtain ⟨s1, e1, e2, e3, e4, e5⟩ := c_clause (ask := ask) hs hn hp hcl
    rw [if_pos hL] at e5
    exact ⟨s1, e1, e2, e3.trans hL, e5⟩
  have ref : ∀ (m0 : OS) (j : Nat) (C : List (Int32 × Int32)) (m : OS), j < 12 → Ys T n r m0 p j C m → ∃ m1, Ys T n r m0 (p + 1) j C m1 ∧ (m1.1 37 (12 * r + j) = 120 ∧ m1.1 38 (12 * r + j) = 0 ∧ m1.1 39 (12 * r + j) = 0 ∧ m1.1 40 (12 * r + j) = nI C.length) ∧ (∀ q, 37 ≤ q → q ≤ 41 → ∀ i, i < 12 * r + j → m1.1 q i = m.1 q i) ∧ f11_clause m = Option.bind (f11_reads 19 m1) fun q_172 => Option.bind (f11_isGood (wI q_172.2 38 (12 * r + j) q_172.1)) fun q_177 => if q_177 = 0 then f11_clause_j189 (nI (12 * r + j)) (wI q_172.2 38 (12 * r + j) q_172.1) else Option.bind (f11_must 46 (wI q_172.2 38 (12 * r + j) q_172.1)) fun q_186 => f11_clause_j189 (nI (12 * r + j)) q_186 := by
    intro m0 j C m hj hm
    obtain ⟨m1, -, e2, e3, e4, e5⟩ := r_clause hm hn hr hj hp hcl
    rw [hL] at e3 e5
    refine ⟨m1, e2, e3, e4, ?_⟩
    rw [e5, if_neg (show ¬ (120 : Int32) = 100 by decide), if_neg (show ¬ (120 : Int32) = 116 by decide)]
    unfold f11_clause_j158
    rw [if_pos rfl]
    simp only [nI_clamp (n := 12 * r + j) (by omega), inb_n (show 12 * r + j < 240 by omega) (by omega : 240 < 2 ^ 31), chk_p, nm_p]
  -- a fault that the reference has told ends its clause
  have j189b : ∀ {m0 m : OS} {k pl j : Nat}, j < 12 → Bs r k pl m0 m → ∃ m', f11_clause_j189 (nI (12 * r + j)) m = some m' ∧ Bs r k pl m0 m' := by
    intro m0 m k pl j hj hb
    obtain ⟨m', e1, e2⟩ := r_clbad hb hr hj
    refine ⟨m', ?_, e2⟩
    unfold f11_clause_j189
    rw [bs_good hb, Option.bind_some, if_pos rfl, e1]
  rcases tol_do (T := T) (n := n) (most := 19) (p := p + 1) hn (by omega) (by omega) with ⟨k, pl, k1, k2, k3, k4, k5⟩ | ⟨p1, v1, k1, k2, k3, k4, k5, k6⟩
  · refine Or.inl ⟨k, pl, k1, k2, k3, fun ask s ha hs => ?_, fun m0 j C m hj hm => ?_⟩
    · obtain ⟨s1, e1, e2, e3, e4⟩ := cls ask s hs
      obtain ⟨x, s2, e5, e6⟩ := k4 s1 e1
      have f1 : FltC k pl s (wI s2 0 9 x) := (e6.c e2).slot (by omega)
      refine ⟨0, wI (wI s2 0 9 x) 0 10 0, ?_, f1.slot (by omega)⟩
      rw [e4, show f6_readTold 19 s1 = some (x, s2) from e5, Option.bind_some, x_req f1.2.2.1 (by decide), Option.bind_some, show f6_readTold 11 (wI s2 0 9 x) = _ from x_told f1.2.2.1 (most := 11) (by omega), Option.bind_some]
    · obtain ⟨m1, e1, e2, e3, e4⟩ := ref m0 j C m hj hm
      obtain ⟨x, m2, e5, e6⟩ := k5 m1 m1 e1.w
      have hb : Bs r k pl m0 (wI m2 38 (12 * r + j) x) := (e6.s e1.1).row (by omega) (by omega) (by omega)
      rw [e4, show f11_reads 19 m1 = some (x, m2) from e5, Option.bind_some, bs_good hb, Option.bind_some, if_pos rfl]
      exact j189b hj hb
  · have hbase : ∀ (m0 : OS) (j : Nat) (C : List (Int32 × Int32)) (m : OS), j < 12 → Ys T n r m0 p j C m → ∃ m1 m2 : OS, Ys T n r m0 p1 j C (wI m2 38 (12 * r + j) (nI v1)) ∧ (m2.1 37 = m1.1 37 ∧ m2.1 38 = m1.1 38 ∧ m2.1 39 = m1.1 39 ∧ m2.1 40 = m1.1 40 ∧ m2.1 41 = m1.1 41) ∧ (m1.1 37 (12 * r + j) = 120 ∧ m1.1 38 (12 * r + j) = 0 ∧ m1.1 39 (12 * r + j) = 0 ∧ m1.1 40 (12 * r + j) = nI C.length) ∧ (∀ q, 37 ≤ q → q ≤ 41 → ∀ i, i < 12 * r + j → m1.1 q i = m.1 q i) ∧ f11_clause m = Option.bind (f11_must 46 (wI m2 38 (12 * r + j) (nI v1))) fun q_186 => f11_clause_j189 (nI (12 * r + j)) q_186 := by
      intro m0 j C m hj hm
      obtain ⟨m1, e1, e2, e3, e4⟩ := ref m0 j C m hj hm
      obtain ⟨m2, e5, e6⟩ := k6 m1 m1 e1.w
      have hY := (e1.go e6 (by omega)).row (q := 38) (i := 12 * r + j) (v := nI v1) (by omega) (by omega) (by omega)
      refine ⟨m1, m2, hY, ⟨e6.1.1 37 (by decide), e6.1.1 38 (by decide), e6.1.1 39 (by decide), e6.1.1 40 (by decide), e6.1.1 41 (by decide)⟩, e2, e3, ?_⟩
      rw [e4, show f11_reads 19 m1 = some (nI v1, m2) from e5, Option.bind_some, w_good hY.w, Option.bind_some, if_neg (show ¬ (1 : Int32) = 0 by decide)]
    have cbase : ∀ (ask : Int32) (s : OS), RdS T n p s → ∃ s2, RdS T n p1 s2 ∧ FrC s s2 ∧ s2.1 0 8 = 120 ∧ s2.1 0 9 = nI v1 ∧ f6_readClauseO ask s = (Option.bind (f6_require 46 s2) fun q_66 => Option.bind (f6_readTold 11 q_66) fun q_73 => some ((0 : Int32), wI q_73.2 0 10 q_73.1)) := by
      intro ask s hs
      obtain ⟨s1, e1, e2, e3, e4⟩ := cls ask s hs
      obtain ⟨s2, e5, e6, e7, e8⟩ := k5 s1 e1
      refine ⟨wI s2 0 9 (nI v1), e6, (e2.trans e7.c).slot (by omega), ?_, wI_at, ?_⟩
      · show s2.1 0 8 = 120
        rw [e7.2.2 8 (by decide) (by decide) (by decide) (by decide)]; exact e3
      · rw [e4, show f6_readTold 19 s1 = some (nI v1, s2) from e5, Option.bind_some]
    by_cases h46 : hd T n p1 = 46
    · have hlt1 : p1 < n := hd_lt (fun e => by rw [e] at h46; exact absurd h46 (by decide))
      rcases tol_do (T := T) (n := n) (most := 11) (p := p1 + 1) hn (by omega) (by omega) with ⟨k, pl, l1, l2, l3, l4, l5⟩ | ⟨p2, v2, l1, l2, l3, l4, l5, l6⟩
      · refine Or.inl ⟨k, pl, l1, l2, l3, fun ask s ha hs => ?_, fun m0 j C m hj hm => ?_⟩
        · obtain ⟨s2, e1, e2, e3, e4, e5⟩ := cbase ask s hs
          rcases c_req e1 hn k2 (c := 46) (by decide) (by decide) with ⟨_, _, s3, w1, w2, w3, w4⟩ | ⟨w, _⟩
          · obtain ⟨x, s4, e6, e7⟩ := l4 s3 w2
            refine ⟨0, wI s4 0 10 x, ?_, (e7.c (e2.trans w3.c)).slot (by omega)⟩
            rw [e5, w1, Option.bind_some, show f6_readTold 11 s3 = some (x, s4) from e6, Option.bind_some]
          · exact absurd h46 w
        · obtain ⟨m1, m2, e1, e2, e3, e4, e5⟩ := hbase m0 j C m hj hm
          rcases w_must e1.w hn (c := 46) (by decide) with ⟨_, m3, q1, q2⟩ | ⟨w, _⟩
          · have hY := e1.go q2 (by omega)
            obtain ⟨x, m4, q3, q4⟩ := l5 m3 m3 hY.w
            have hb : Bs r k pl m0 (wI m4 39 (12 * r + j) x) := (q4.s hY.1).row (by omega) (by omega) (by omega)
            obtain ⟨m5, q5, q6⟩ := r_clbad hb hr hj
            refine ⟨m5, ?_, q6⟩
            rw [e5, q1, Option.bind_some]
            unfold f11_clause_j189
            rw [w_good hY.w, Option.bind_some, if_neg (show ¬ (1 : Int32) = 0 by decide), show f11_reads 11 m3 = some (x, m4) from q3, Option.bind_some]
            simp only [nI_clamp (n := 12 * r + j) (by omega), inb_n (show 12 * r + j < 240 by omega) (by omega : 240 < 2 ^ 31), chk_p, nm_p]
            exact q5
          · exact absurd h46 w
      · refine Or.inr ⟨p2, nI v1, nI v2, [], by omega, l2, Or.inl ⟨hL, ⟨v1, v2, by omega, by omega, rfl, rfl⟩, fun ask s ha hs => ?_⟩, fun m0 j C m hj hm => ?_⟩
        · obtain ⟨s2, e1, e2, e3, e4, e5⟩ := cbase ask s hs
          rcases c_req e1 hn k2 (c := 46) (by decide) (by decide) with ⟨_, _, s3, w1, w2, w3, w4⟩ | ⟨w, _⟩
          · obtain ⟨s4, e6, e7, e8, e9⟩ := l5 s3 w2
            refine ⟨wI s4 0 10 (nI v2), ?_, e7, ((e2.trans w3.c).trans e8.c).slot (by omega), ?_, ?_, wI_at⟩
            · rw [e5, w1, Option.bind_some, show f6_readTold 11 s3 = some (nI v2, s4) from e6, Option.bind_some]
            · show s4.1 0 8 = _
              rw [e8.2.2 8 (by decide) (by decide) (by decide) (by decide), w3.2.2 8 (by decide) (by decide) (by decide) (by decide), e3, hL]
            · show s4.1 0 9 = _
              rw [e8.2.2 9 (by decide) (by decide) (by decide) (by decide), w3.2.2 9 (by decide) (by decide) (by decide) (by decide), e4]
          · exact absurd h46 w
        · obtain ⟨m1, m2, e1, e2, e3, e4, e5⟩ := hbase m0 j C m hj hm
          rcases w_must e1.w hn (c := 46) (by decide) with ⟨_, m3, q1, q2⟩ | ⟨w, _⟩
          · have hY := e1.go q2 (by omega)
            obtain ⟨m4, q3, q4⟩ := l6 m3 m3 hY.w
            have hY2 := (hY.go q4 (by omega)).row (q := 39) (i := 12 * r + j) (v := nI v2) (by omega) (by omega) (by omega)
            obtain ⟨m5, q5, q6, q7, q8, q9⟩ := r_clend hY2 hr hj
            have eq : ∀ q, 37 ≤ q → q ≤ 41 → m4.1 q = (wI m2 38 (12 * r + j) (nI v1)).1 q := fun q z1 z2 => by rw [q4.1.1 q (by omega), q2.1.1 q (by omega)]
            refine ⟨m5, ?_, by rw [List.append_nil]; exact q6, ⟨?_, ?_, ?_, ?_, by rw [List.append_nil]; exact q7⟩, fun q z1 z2 i hi => ?_⟩
            · rw [e5, q1, Option.bind_some]
              unfold f11_clause_j189
              rw [w_good hY.w, Option.bind_some, if_neg (show ¬ (1 : Int32) = 0 by decide), show f11_reads 11 m3 = some (nI v2, m4) from q3, Option.bind_some]
              simp only [nI_clamp (n := 12 * r + j) (by omega), inb_n (show 12 * r + j < 240 by omega) (by omega : 240 < 2 ^ 31), chk_p, nm_p]
              exact q5
            · rw [q8 37 (by omega) (by omega), wI_of (by decide), eq 37 (by omega) (by omega), wI_of (by decide), e2.1, hL]; exact e3.1
            · rw [q8 38 (by omega) (by omega), wI_of (by decide), eq 38 (by omega) (by omega)]; exact wI_at
            · rw [q8 39 (by omega) (by omega)]; exact wI_at
            · rw [q8 40 (by omega) (by omega), wI_of (by decide), eq 40 (by omega) (by omega), wI_of (by decide), e2.2.2.2.1]; exact e3.2.2.2
            · rw [← e4 q z1 z2 i hi]
              have hne : i ≠ 12 * r + j := by omega
              have up : ∀ (a : OS) (q' : Nat) (v : Int32), (wI a q' (12 * r + j) v).1 q i = a.1 q i := fun a q' v => by
                show (if q = q' then (fun i' => if i' = 12 * r + j then v else a.1 q' i') else a.1 q) i = _
                by_cases c : q = q'
                · rw [if_pos c]
                  show (if i = 12 * r + j then v else a.1 q' i) = _
                  rw [if_neg hne, c]
                · rw [if_neg c]
              have e45 : m4.1 q i = m1.1 q i := by
                rw [eq q z1 z2, up]
                have : q = 37 ∨ q = 38 ∨ q = 39 ∨ q = 40 ∨ q = 41 := by omega
                rcases this with rfl | rfl | rfl | rfl | rfl
                · rw [e2.1]
                · rw [e2.2.1]
                · rw [e2.2.2.1]
                · rw [e2.2.2.2.1]
                · rw [e2.2.2.2.2]
              rw [← e45]
              by_cases c41 : q = 41
              · subst c41; rw [q9 i hi, up]
              · rw [q8 q z1 (by omega), up]
          · exact absurd h46 w
    · refine Or.inl ⟨1, p1, by omega, by omega, by omega, fun ask s ha hs => ?_, fun m0 j C m hj hm => ?_⟩
      · obtain ⟨s2, e1, e2, e3, e4, e5⟩ := cbase ask s hs
        rcases c_req e1 hn k2 (c := 46) (by decide) (by decide) with ⟨w, _⟩ | ⟨_, s3, w1, w2⟩
        · exact absurd w h46
        · have f1 := w2.c e2
          refine ⟨0, wI s3 0 10 0, ?_, f1.slot (by omega)⟩
          rw [e5, w1, Option.bind_some, show f6_readTold 11 s3 = _ from x_told f1.2.2.1 (most := 11) (by omega), Option.bind_some]
      · obtain ⟨m1, m2, e1, e2, e3, e4, e5⟩ := hbase m0 j C m hj hm
        rcases w_must e1.w hn (c := 46) (by decide) with ⟨w, _⟩ | ⟨_, m3, q1, q2⟩
        · exact absurd w h46
        · rw [e5, q1, Option.bind_some]
          exact j189b hj (q2.s e1.1)
theorem cl_c {T : Nat → Int32} {n r p : Nat} (hn : n ≤ 160) (hr : r < 20) (hT : ∀ i, i < n → bw 0 255 (T i)) (hp : p < n) (hL : hd T n p = 98 ∨ hd T n p = 100 ∨ hd T n p = 116) : (∃ k pl, 0 < k ∧ k < 6 ∧ pl ≤ 200 ∧ ClLF T n r p k pl) ∨ ∃ p' F S cs, p < p' ∧ p' ≤ n ∧ ClLO T n r p p' (hd T n p) F S cs := by
  have hcl : isCl (hd T n p) := hL.elim Or.inl (fun h => h.elim (fun h => Or.inr (Or.inl h)) (fun h => Or.inr (Or.inr (Or.inl h))))
  have hne : ¬ hd T n p = 120 := by rcases hL with c | c | c <;> rw [c] <;> decide
  -- up to the condition, at p1, with the number N
  have mid : (∃ k pl, 0 < k ∧ k < 6 ∧ pl ≤ 200 ∧ ClLF T n r p k pl) ∨ ∃ p1 N, p < p1 ∧ p1 ≤ n ∧ N < 1000000 ∧ (hd T n p = 116 → N ≤ 1000) ∧ (∀ (ask : Int32) (s : OS), RdS T n p s → ∃ s2, RdS T n p1 s2 ∧ FrC s s2 ∧ s2.1 0 8 = hd T n p ∧ (¬ hd T n p = 98 → s2.1 0 9 = nI N) ∧ s2.1 0 11 = 0 ∧ f6_readClauseO ask s = f6_readClauseO_j115 ask s2) ∧ ∀ (m0 : OS) (j : Nat) (C : List (Int32 × Int32)) (m : OS), j < 12 → Ys T n r m0 p j C m → ∃ m2, Ys T n r m0 p1 j C m2 ∧ (m2.1 37 (12 * r + j) = hd T n p ∧ m2.1 38 (12 * r + j) = nI N ∧ m2.1 39 (12 * r + j) = 0 ∧ m2.1 40 (12 * r + j) = nI C.length) ∧ (∀ q, 37 ≤ q → q ≤ 41 → ∀ i, i < 12 * r + j → m2.1 q i = m.1 q i) ∧ f11_clause m = f11_clause_j158 (hd T n p) (nI (12 * r + j)) m2 := by
    by_cases h98 : hd T n p = 98
    · refine Or.inr ⟨p + 1, 0, by omega, by omega, by omega, fun _ => by omega, fun ask s hs => ?_, fun m0 j C m hj hm => ?_⟩
      · obtain ⟨s1, e1, e2, e3, e4, e5⟩ := c_clause (ask := ask) hs hn hp hcl
        rw [if_neg hne, if_pos h98] at e5
        exact ⟨s1, e1, e2, e3, fun z => absurd h98 z, e4, e5⟩
      · obtain ⟨m1, -, e2, e3, e4, e5⟩ := r_clause hm hn hr hj hp hcl
        rw [if_neg (show ¬ hd T n p = 100 by rw [h98]; decide), if_neg (show ¬ hd T n p = 116 by rw [h98]; decide)] at e5
        exact ⟨m1, e2, e3, e4, e5⟩
    · -- d and t
      obtain ⟨most, hmost⟩ : ∃ most : Nat, most = if hd T n p = 116 then 1000 else 999999 := ⟨_, rfl⟩
      have hm1 : most ≤ 999999 := by
        rw [hmost]
        by_cases c : hd T n p = 116
        · rw [if_pos c]; omega
        · rw [if_neg c]; omega
      have cls : ∀ (ask : Int32) (s : OS), RdS T n p s → ∃ s1, RdS T n (p + 1) s1 ∧ FrC s s1 ∧ s1.1 0 8 = hd T n p ∧ s1.1 0 11 = 0 ∧ f6_readClauseO ask s = Option.bind (f6_readTold (nI most) s1) fun q_109 => f6_readClauseO_j115 ask (wI q_109.2 0 9 q_109.1) := by
        intro ask s hs
        obtain ⟨s1, e1, e2, e3, e4, e5⟩ := c_clause (ask := ask) hs hn hp hcl
        rw [if_neg hne, if_neg h98] at e5
        refine ⟨s1, e1, e2, e3, e4, ?_⟩
        rw [e5, hmost]
        unfold f6_readClauseO_j109
        by_cases c : hd T n p = 116
        · rw [if_pos c, if_pos c]; rfl
        · rw [if_neg c, if_neg c]; rfl
      have ref : ∀ (m0 : OS) (j : Nat) (C : List (Int32 × Int32)) (m : OS), j < 12 → Ys T n r m0 p j C m → ∃ m1, Ys T n r m0 (p + 1) j C m1 ∧ (m1.1 37 (12 * r + j) = hd T n p ∧ m1.1 38 (12 * r + j) = 0 ∧ m1.1 39 (12 * r + j) = 0 ∧ m1.1 40 (12 * r + j) = nI C.length) ∧ (∀ q, 37 ≤ q → q ≤ 41 → ∀ i, i < 12 * r + j → m1.1 q i = m.1 q i) ∧ f11_clause m = Option.bind (f11_reads (nI most) m1) fun q_154 => f11_clause_j158 (hd T n p) (nI (12 * r + j)) (wI q_154.2 38 (12 * r + j) q_154.1) := by
        intro m0 j C m hj hm
        obtain ⟨m1, -, e2, e3, e4, e5⟩ := r_clause hm hn hr hj hp hcl
        refine ⟨m1, e2, e3, e4, ?_⟩
        have j133 : f11_clause_j133 (hd T n p) (nI (12 * r + j)) m1 = Option.bind (f11_reads (nI most) m1) fun q_154 => f11_clause_j158 (hd T n p) (nI (12 * r + j)) (wI q_154.2 38 (12 * r + j) q_154.1) := by
          rw [hmost]
          unfold f11_clause_j133 f11_clause_j154
          simp only [nI_clamp (n := 12 * r + j) (by omega), inb_n (show 12 * r + j < 240 by omega) (by omega : 240 < 2 ^ 31), chk_p, nm_p]
          by_cases c : hd T n p = 116
          · rw [if_pos c, if_pos c]; rfl
          · rw [if_neg c, if_neg c]; rfl
        rw [e5]
        rcases hL with c | c | c
        · exact absurd c h98
        · rw [if_pos c, j133]
        · rw [if_neg (show ¬ hd T n p = 100 by rw [c]; decide), if_pos c, j133]
      rcases tol_do (T := T) (n := n) (most := most) (p := p + 1) hn (by omega) (by omega) with ⟨k, pl, k1, k2, k3, k4, k5⟩ | ⟨p1, v1, k1, k2, k3, k4, k5, k6⟩
      · refine Or.inl ⟨k, pl, k1, k2, k3, fun ask s ha hs => ?_, fun m0 j C m hj hm => ?_⟩
        · obtain ⟨s1, e1, e2, e3, e4, e5⟩ := cls ask s hs
          obtain ⟨x, s2, e6, e7⟩ := k4 s1 e1
          have f1 : FltC k pl s (wI s2 0 9 x) := (e7.c e2).slot (by omega)
          have hx := f1.2.2.1
          obtain ⟨y, y1, y2⟩ := x_any hx 1 ask (x_single hx 7 1 ask)
          refine ⟨y, wI s2 0 9 x, ?_, f1⟩
          rw [e5, e6, Option.bind_some]
          show f6_readClauseO_j115 ask (wI s2 0 9 x) = _
          unfold f6_readClauseO_j115
          rw [x_req hx (by decide), Option.bind_some, y1, Option.bind_some, x_req hx (by decide), Option.bind_some]
        · obtain ⟨m1, e1, e2, e3, e4⟩ := ref m0 j C m hj hm
          obtain ⟨x, m2, e5, e6⟩ := k5 m1 m1 e1.w
          have hb : Bs r k pl m0 (wI m2 38 (12 * r + j) x) := (e6.s e1.1).row (by omega) (by omega) (by omega)
          obtain ⟨m3, q1, q2⟩ := r_clbad hb hr hj
          refine ⟨m3, ?_, q2⟩
          rw [e4, e5, Option.bind_some]
          unfold f11_clause_j158
          rw [if_neg hne, bs_good hb, Option.bind_some, if_pos rfl]
          exact q1
      · refine Or.inr ⟨p1, v1, by omega, k2, by omega, fun c => by rw [hmost, if_pos c] at k3; exact k3, fun ask s hs => ?_, fun m0 j C m hj hm => ?_⟩
        · obtain ⟨s1, e1, e2, e3, e4, e5⟩ := cls ask s hs
          obtain ⟨s2, e6, e7, e8, e9⟩ := k5 s1 e1
          refine ⟨wI s2 0 9 (nI v1), e7, (e2.trans e8.c).slot (by omega), ?_, fun _ => wI_at, e9.trans e4, ?_⟩
          · show s2.1 0 8 = _
            rw [e8.2.2 8 (by decide) (by decide) (by decide) (by decide)]; exact e3
          · rw [e5, e6, Option.bind_some]
        · obtain ⟨m1, e1, e2, e3, e4⟩ := ref m0 j C m hj hm
          obtain ⟨m2, e5, e6⟩ := k6 m1 m1 e1.w
          have hY := (e1.go e6 (by omega)).row (q := 38) (i := 12 * r + j) (v := nI v1) (by omega) (by omega) (by omega)
          refine ⟨_, hY, ⟨?_, wI_at, ?_, ?_⟩, fun q z1 z2 i hi => ?_, by rw [e4, e5, Option.bind_some]⟩
          · rw [wI_of (by decide), e6.1.1 37 (by decide)]; exact e2.1
          · rw [wI_of (by decide), e6.1.1 39 (by decide)]; exact e2.2.2.1
          · rw [wI_of (by decide), e6.1.1 40 (by decide)]; exact e2.2.2.2
          · rw [← e3 q z1 z2 i hi, ← e6.1.1 q (by omega)]
            show (if q = 38 then (fun i' => if i' = 12 * r + j then nI v1 else m2.1 38 i') else m2.1 q) i = _
            by_cases c : q = 38
            · rw [if_pos c]
              show (if i = 12 * r + j then nI v1 else m2.1 38 i) = _
              rw [if_neg (by omega), c]
            · rw [if_neg c]
  rcases mid with hF | ⟨p1, N, hp1, hp1n, hN, hN2, cls, ref⟩
  · exact Or.inl hF
  · rcases cnd_do hn hr hT p1 hp1n with ⟨k, pl, k1, k2, k3, k4, k5⟩ | ⟨p2, cs, den, k1, k2, k3, k4, k5, k6⟩
    · refine Or.inl ⟨k, pl, k1, k2, k3, fun ask s ha hs => ?_, fun m0 j C m hj hm => ?_⟩
      · obtain ⟨s2, e1, e2, e3, e4, e5, e6⟩ := cls ask s hs
        obtain ⟨x, s', q1, q2, q3⟩ := k4 ask s2 ha e1
        exact ⟨x, s', e6.trans q1, q3.c e2⟩
      · obtain ⟨m2, e1, e2, e3, e4⟩ := ref m0 j C m hj hm
        obtain ⟨m3, q1, q2⟩ := r_cndf k5 e1
        obtain ⟨m4, q3, q4⟩ := r_clbad q2 hr hj
        refine ⟨m4, ?_, q4⟩
        rw [e4]
        unfold f11_clause_j158
        rw [if_neg hne, w_good e1.w, Option.bind_some, if_neg (show ¬ (1 : Int32) = 0 by decide), q1, Option.bind_some]
        exact q3
    · refine Or.inr ⟨p2, nI N, 0, cs, by omega, k2, Or.inr ⟨hL, ⟨N, hN, rfl, hN2⟩, den, k4, fun ask s ha hs => ?_⟩, fun m0 j C m hj hm => ?_⟩
      · obtain ⟨s2, e1, e2, e3, e4, e5, e6⟩ := cls ask s hs
        obtain ⟨x, s', q1, q2, q3, q4⟩ := k5 ask s2 ha e1
        rw [e5, congrFun e2.2.1 3] at q4
        refine ⟨x, s', e6.trans q1, q2, e2.trans q3.c, ?_, fun z => ?_, q4⟩
        · rw [q3.2.2 8 (by decide) (by decide) (by decide) (by decide)]; exact e3
        · rw [q3.2.2 9 (by decide) (by decide) (by decide) (by decide)]; exact e4 z
      · obtain ⟨m2, e1, e2, e3, e4⟩ := ref m0 j C m hj hm
        obtain ⟨m3, q1, q2, q3⟩ := r_cnd k6 e1 k2
        obtain ⟨m4, q4, q5, q6, q7, q8⟩ := r_clend q2 hr hj
        refine ⟨m4, ?_, q5, ⟨?_, ?_, ?_, ?_, q6⟩, fun q z1 z2 i hi => ?_⟩
        · rw [e4]
          unfold f11_clause_j158
          rw [if_neg hne, w_good e1.w, Option.bind_some, if_neg (show ¬ (1 : Int32) = 0 by decide), q1, Option.bind_some]
          exact q4
        · rw [q7 37 (by omega) (by omega), q3 37 (by omega) (by omega)]; exact e2.1
        · rw [q7 38 (by omega) (by omega), q3 38 (by omega) (by omega)]; exact e2.2.1
        · rw [q7 39 (by omega) (by omega), q3 39 (by omega) (by omega)]; exact e2.2.2.1
        · rw [q7 40 (by omega) (by omega), q3 40 (by omega) (by omega)]; exact e2.2.2.2
        · rw [← e3 q z1 z2 i hi, ← q3 q z1 z2]
          by_cases c41 : q = 41
          · subst c41; exact q8 i hi
          · rw [q7 q z1 (by omega)]
theorem cl_do {T : Nat → Int32} {n r p : Nat} (hn : n ≤ 160) (hr : r < 20) (hT : ∀ i, i < n → bw 0 255 (T i)) (hp : p < n) (hL : isCl (hd T n p)) : (∃ k pl, 0 < k ∧ k < 6 ∧ pl ≤ 200 ∧ ClLF T n r p k pl) ∨ ∃ p' F S cs, p < p' ∧ p' ≤ n ∧ ClLO T n r p p' (hd T n p) F S cs := by
  rcases hL with c | c | c | c
  · exact cl_c hn hr hT hp (Or.inl c)
  · exact cl_c hn hr hT hp (Or.inr (Or.inl c))
  · exact cl_c hn hr hT hp (Or.inr (Or.inr c))
  · exact cl_x hn hr hp c
