-- rules: products and sums on both sides
theorem Flt.s11 {k pl : Nat} {s s' : OS} (h : Flt k pl s s') (v : Int32) : Flt k pl s (wI s' 0 11 v) := ⟨h.1, h.2.1, h.2.2.1, h.2.2.2.slot (Or.inr (Or.inr (Or.inr rfl)))⟩
def LF (T : Nat → Int32) (n : Nat) (L : Int32 → Int64 × Int32 × OS → Option (Int64 × OS)) (p : Nat) (D : (Nat → Int64) → Int64 × Bool) (k pl : Nat) : Prop := ∀ (ask : Int32) (s : OS) (cnt : Nat) (val : Int64) (f0 : Int32), (ask = 0 ∨ ask = 1) → cnt ≤ p → RdS T n p s → Ev ask f0 val (s.1 0 11) (D (s.2 3)) → ∃ v s', L ask (val, nI cnt, s) = some (v, s') ∧ Flt k pl s s'
def LO (T : Nat → Int32) (n : Nat) (L : Int32 → Int64 × Int32 × OS → Option (Int64 × OS)) (p p' : Nat) (D D' : (Nat → Int64) → Int64 × Bool) : Prop := ∀ (ask : Int32) (s : OS) (cnt : Nat) (val : Int64) (f0 : Int32), (ask = 0 ∨ ask = 1) → cnt ≤ p → RdS T n p s → Ev ask f0 val (s.1 0 11) (D (s.2 3)) → ∃ v s', L ask (val, nI cnt, s) = some (v, s') ∧ RdS T n p' s' ∧ FrR s s' ∧ Ev ask f0 v (s'.1 0 11) (D' (s.2 3))
def YLF (T : Nat → Int32) (n r : Nat) (cond : List Int32 → Prop) (p o : Nat) (cs0 : List (Int32 × Int32)) (pe : List Int32) (k pl : Nat) : Prop := ∀ (m0 : OS) (σ : List Int32) (C : List (Int32 × Int32)) (m : OS), cond σ → Yd T n r m0 p o (pe ++ σ) (C ++ cs0) 1 m → ∃ m', loop (f11_pieceOfC_l39) ((1 : Int32), m) = some m' ∧ Bd r k pl m0 m'
def YLO (T : Nat → Int32) (n r : Nat) (cond : List Int32 → Prop) (p o : Nat) (cs0 : List (Int32 × Int32)) (pe : List Int32) (p' : Nat) (cs1 : List (Int32 × Int32)) (pe1 : List Int32) : Prop := ∀ (m0 : OS) (σ : List Int32) (C : List (Int32 × Int32)) (m : OS), cond σ → Yd T n r m0 p o (pe ++ σ) (C ++ cs0) 1 m → ∃ m', loop (f11_pieceOfC_l39) ((1 : Int32), m) = loop (f11_pieceOfC_l39) ((1 : Int32), m') ∧ Yd T n r m0 p' o (pe1 ++ σ) (C ++ cs1) 1 m'
theorem emC_app (a b : List Int32) : emC (a ++ b) = emC a ++ emC b := List.map_append ..
theorem tm_sg {c : Int32} (h : isTm c) : ¬ c = 0 ∧ ¬ c = -1 := by
  rcases h with e | e | e <;> rw [e] <;> exact ⟨by decide, by decide⟩
theorem pm_sg {c : Int32} (h : isPm c) : ¬ c = 0 ∧ ¬ c = -1 := by
  rcases h with e | e <;> rw [e] <;> exact ⟨by decide, by decide⟩
section
variable {rs : Int32 → Int32 → OS → Option (Int64 × OS)} {o ask : Int32}
theorem pl_flt {s : OS} (h : ¬ s.1 0 6 = 0) (val : Int64) (x : Int32) : loop (f6_readProduct_l10 rs o ask) (val, x, s) = some (val, s) := by
  refine loop_inr ?_
  unfold f6_readProduct_l10 f6_readProduct_j139
  show (if (160 : Int32) ≤ x then Option.map Sum.inr (some (val, s)) else Option.bind (f6_sign s) fun q_19 => if q_19 = (42 : Int32) then _ else Option.bind (f6_sign s) fun q_28 => if q_28 = (47 : Int32) then _ else Option.bind (f6_sign s) fun q_37 => if q_37 = (37 : Int32) then _ else Option.map Sum.inr (some (val, s))) = _
  by_cases c : (160 : Int32) ≤ x
  · rw [if_pos c]; rfl
  · rw [if_neg c, x_sign h, Option.bind_some, if_neg (show ¬ (-1 : Int32) = 42 by decide), Option.bind_some, if_neg (show ¬ (-1 : Int32) = 47 by decide), Option.bind_some, if_neg (show ¬ (-1 : Int32) = 37 by decide)]; rfl
theorem sl_flt {s : OS} (h : ¬ s.1 0 6 = 0) (val : Int64) (x : Int32) : loop (f6_readSum_b_l10 rs o ask) (val, x, s) = some (val, s) := by
  refine loop_inr ?_
  unfold f6_readSum_b_l10 f6_readSum_b_j93
  show (if (160 : Int32) ≤ x then Option.map Sum.inr (some (val, s)) else Option.bind (f6_sign s) fun q_19 => if q_19 = (43 : Int32) then _ else Option.bind (f6_sign s) fun q_28 => if q_28 = (45 : Int32) then _ else Option.map Sum.inr (some (val, s))) = _
  by_cases c : (160 : Int32) ≤ x
  · rw [if_pos c]; rfl
  · rw [if_neg c, x_sign h, Option.bind_some, if_neg (show ¬ (-1 : Int32) = 43 by decide), Option.bind_some, if_neg (show ¬ (-1 : Int32) = 45 by decide)]; rfl
theorem pl_end {T : Nat → Int32} {n p cnt : Nat} {s : OS} (h : RdS T n p s) (hn : n ≤ 160) (hp : p ≤ n) (hc : cnt ≤ p) (ht : ¬ isTm (hd T n p)) (val : Int64) : loop (f6_readProduct_l10 rs o ask) (val, nI cnt, s) = some (val, s) := by
  refine loop_inr ?_
  unfold f6_readProduct_l10 f6_readProduct_j139
  show (if (160 : Int32) ≤ nI cnt then Option.map Sum.inr (some (val, s)) else Option.bind (f6_sign s) fun q_19 => if q_19 = (42 : Int32) then _ else Option.bind (f6_sign s) fun q_28 => if q_28 = (47 : Int32) then _ else Option.bind (f6_sign s) fun q_37 => if q_37 = (37 : Int32) then _ else Option.map Sum.inr (some (val, s))) = _
  by_cases c : (160 : Int32) ≤ nI cnt
  · rw [if_pos c]; rfl
  · rw [if_neg c, c_sign h hn hp, Option.bind_some, if_neg (fun e => ht (Or.inl ((sg_hd (by decide) (by decide)).mp e))), Option.bind_some, if_neg (fun e => ht (Or.inr (Or.inl ((sg_hd (by decide) (by decide)).mp e)))), Option.bind_some, if_neg (fun e => ht (Or.inr (Or.inr ((sg_hd (by decide) (by decide)).mp e))))]; rfl
theorem sl_end {T : Nat → Int32} {n p cnt : Nat} {s : OS} (h : RdS T n p s) (hn : n ≤ 160) (hp : p ≤ n) (hc : cnt ≤ p) (ht : ¬ isPm (hd T n p)) (val : Int64) : loop (f6_readSum_b_l10 rs o ask) (val, nI cnt, s) = some (val, s) := by
  refine loop_inr ?_
  unfold f6_readSum_b_l10 f6_readSum_b_j93
  show (if (160 : Int32) ≤ nI cnt then Option.map Sum.inr (some (val, s)) else Option.bind (f6_sign s) fun q_19 => if q_19 = (43 : Int32) then _ else Option.bind (f6_sign s) fun q_28 => if q_28 = (45 : Int32) then _ else Option.map Sum.inr (some (val, s))) = _
  by_cases c : (160 : Int32) ≤ nI cnt
  · rw [if_pos c]; rfl
  · rw [if_neg c, c_sign h hn hp, Option.bind_some, if_neg (fun e => ht (Or.inl ((sg_hd (by decide) (by decide)).mp e))), Option.bind_some, if_neg (fun e => ht (Or.inr ((sg_hd (by decide) (by decide)).mp e)))]; rfl
theorem pl_go {T : Nat → Int32} {n p cnt : Nat} {s : OS} (h : RdS T n p s) (hn : n ≤ 160) (hp : p < n) (hc : cnt ≤ p) (ht : isTm (hd T n p)) (ha : ask = 0 ∨ ask = 1) (val : Int64) {v2 : Int64} {s2 : OS} (hf : f6_readFactor rs o ask (wI s 0 4 (s.1 0 4 + 1)) = some (v2, s2)) : ∃ val' s3, f6_readProduct_l10 rs o ask (val, nI cnt, s) = some (.inl (val', nI (cnt + 1), s3)) ∧ (((hd T n p = 47 ∨ hd T n p = 37) ∧ v2 = 0 ∧ s3 = wI s2 0 11 (if s2.1 0 11 = 0 ∧ ask = 0 then 0 else 1)) ∨ (¬ ((hd T n p = 47 ∨ hd T n p = 37) ∧ v2 = 0) ∧ val' = wk (hd T n p) val v2 ∧ s3 = s2)) := by
  have hs := c_sign h hn (show p ≤ n by omega)
  rw [sg_lt hp] at hs
  have hj : ∃ val' s3, f6_readProduct_j45 rs o ask val (nI cnt) s = some (.inl (val', nI (cnt + 1), s3)) ∧ (((hd T n p = 47 ∨ hd T n p = 37) ∧ v2 = 0 ∧ s3 = wI s2 0 11 (if s2.1 0 11 = 0 ∧ ask = 0 then 0 else 1)) ∨ (¬ ((hd T n p = 47 ∨ hd T n p = 37) ∧ v2 = 0) ∧ val' = wk (hd T n p) val v2 ∧ s3 = s2)) := by
    unfold f6_readProduct_j45 f6_readProduct_j132 f6_readProduct_j103 f6_readProduct_j108 f6_readProduct_j133
    rw [hs, Option.bind_some, nm_p, hf, Option.bind_some]
    by_cases c42 : hd T n p = 42
    · rw [if_pos c42]
      refine ⟨_, _, by rw [nm_p, nm_p, nI_1], Or.inr ⟨fun e => ?_, ?_, rfl⟩⟩
      · rw [c42] at e
        rcases e.1 with z | z <;> exact absurd z (by decide)
      · unfold wk; rw [if_neg (by rw [c42]; decide), if_pos c42]
    · rw [if_neg c42]
      have h47 : hd T n p = 47 ∨ hd T n p = 37 := ht.resolve_left c42
      by_cases hz : v2 = 0
      · rw [if_pos ((lg_eq0 v2 0).mpr hz)]
        have rest : ∀ x : Int32, (x = 0 ∨ x = 1) → x = (if s2.1 0 11 = 0 ∧ ask = 0 then 0 else 1) → ∃ val' s3, (chk (isB x) (nm (wI s2 0 11 x) fun s6_108 => nm (nI cnt + (1 : Int32)) fun n_133 => some (Sum.inl (val, n_133, s6_108))) : Option ((Int64 × Int32 × OS) ⊕ (Int64 × OS))) = some (.inl (val', nI (cnt + 1), s3)) ∧ (((hd T n p = 47 ∨ hd T n p = 37) ∧ v2 = 0 ∧ s3 = wI s2 0 11 (if s2.1 0 11 = 0 ∧ ask = 0 then 0 else 1)) ∨ (¬ ((hd T n p = 47 ∨ hd T n p = 37) ∧ v2 = 0) ∧ val' = wk (hd T n p) val v2 ∧ s3 = s2)) := by
          intro x hx hx2
          have hB : isB x = true := by rcases hx with rfl | rfl <;> decide
          rw [hB, chk_p, nm_p, nm_p, nI_1]
          exact ⟨_, _, rfl, Or.inl ⟨h47, hz, by rw [← hx2]⟩⟩
        by_cases c1 : s2.1 0 11 = 0
        · by_cases c2 : ask = 0
          · have := rest 0 (Or.inl rfl) (by rw [if_pos ⟨c1, c2⟩])
            show ∃ val' s3, (if s2.1 0 11 = 0 then _ else _) = _ ∧ _
            rw [if_pos c1, if_pos c2]; exact this
          · have := rest 1 (Or.inr rfl) (by rw [if_neg (fun e => c2 e.2)])
            show ∃ val' s3, (if s2.1 0 11 = 0 then _ else _) = _ ∧ _
            rw [if_pos c1, if_neg c2]; exact this
        · have := rest 1 (Or.inr rfl) (by rw [if_neg (fun e => c1 e.1)])
          show ∃ val' s3, (if s2.1 0 11 = 0 then _ else _) = _ ∧ _
          rw [if_neg c1]; exact this
      · rw [if_neg (fun e => hz ((lg_eq0 v2 0).mp e))]
        by_cases c47 : hd T n p = 47
        · rw [if_pos c47, decide_eq_true (show ¬ (v2, s2).1 = 0 from hz), chk_p, nm_p, nI_1]
          refine ⟨_, _, rfl, Or.inr ⟨fun e => hz e.2, ?_, rfl⟩⟩
          unfold wk
          rw [if_neg (by rw [c47]; decide), if_neg (by rw [c47]; decide), if_neg (by rw [c47]; decide), if_neg (by rw [c47]; decide), if_pos c47, if_neg hz]
        · rw [if_neg c47, decide_eq_true (show ¬ (v2, s2).1 = 0 from hz), chk_p, nm_p, nI_1]
          refine ⟨_, _, rfl, Or.inr ⟨fun e => hz e.2, ?_, rfl⟩⟩
          unfold wk
          rw [if_pos (h47.resolve_left c47), if_neg hz]
  obtain ⟨val', s3, e1, e2⟩ := hj
  refine ⟨val', s3, ?_, e2⟩
  unfold f6_readProduct_l10
  show (if (160 : Int32) ≤ nI cnt then _ else Option.bind (f6_sign s) fun q_19 => if q_19 = (42 : Int32) then f6_readProduct_j45 rs o ask val (nI cnt) s else Option.bind (f6_sign s) fun q_28 => if q_28 = (47 : Int32) then f6_readProduct_j45 rs o ask val (nI cnt) s else Option.bind (f6_sign s) fun q_37 => if q_37 = (37 : Int32) then f6_readProduct_j45 rs o ask val (nI cnt) s else _) = _
  rw [if_neg (show ¬ (160 : Int32) ≤ nI cnt from nI_ge (a := cnt) (b := 160) (by omega) (by omega)), hs, Option.bind_some, e1]
  by_cases c42 : hd T n p = 42
  · rw [if_pos c42]
  · rw [if_neg c42, Option.bind_some]
    by_cases c47 : hd T n p = 47
    · rw [if_pos c47]
    · rw [if_neg c47, Option.bind_some, if_pos ((ht.resolve_left c42).resolve_left c47)]
theorem sl_go {T : Nat → Int32} {n p cnt : Nat} {s : OS} (h : RdS T n p s) (hn : n ≤ 160) (hp : p < n) (hc : cnt ≤ p) (ht : isPm (hd T n p)) (val : Int64) {v2 : Int64} {s2 : OS} (hf : f6_readProduct rs o ask (wI s 0 4 (s.1 0 4 + 1)) = some (v2, s2)) : f6_readSum_b_l10 rs o ask (val, nI cnt, s) = some (.inl (wk (hd T n p) val v2, nI (cnt + 1), s2)) := by
  have hs := c_sign h hn (show p ≤ n by omega)
  rw [sg_lt hp] at hs
  have hj : f6_readSum_b_j36 rs o ask val (nI cnt) s = some (.inl (wk (hd T n p) val v2, nI (cnt + 1), s2)) := by
    unfold f6_readSum_b_j36 f6_readSum_b_j50 f6_readSum_b_j86
    rw [hs, Option.bind_some]
    by_cases c43 : hd T n p = 43
    · rw [if_pos c43, nm_p, hf, Option.bind_some, if_neg (show ¬ (1 : Int32) = 0 by decide), nm_p, nI_1]
      unfold wk
      rw [if_neg (by rw [c43]; decide), if_neg (by rw [c43]; decide), if_pos c43]
    · have c45 := ht.resolve_left c43
      rw [if_neg c43, nm_p, hf, Option.bind_some, if_pos rfl, nm_p, nI_1]
      unfold wk
      rw [if_neg (by rw [c45]; decide), if_neg (by rw [c45]; decide), if_neg c43, if_pos c45]
  unfold f6_readSum_b_l10
  show (if (160 : Int32) ≤ nI cnt then _ else Option.bind (f6_sign s) fun q_19 => if q_19 = (43 : Int32) then f6_readSum_b_j36 rs o ask val (nI cnt) s else Option.bind (f6_sign s) fun q_28 => if q_28 = (45 : Int32) then f6_readSum_b_j36 rs o ask val (nI cnt) s else _) = _
  rw [if_neg (show ¬ (160 : Int32) ≤ nI cnt from nI_ge (a := cnt) (b := 160) (by omega) (by omega)), hs, Option.bind_some, hj]
  by_cases c43 : hd T n p = 43
  · rw [if_pos c43]
  · rw [if_neg c43, Option.bind_some, if_pos (ht.resolve_left c43)]
end
theorem pro_loop {T : Nat → Int32} {n r o : Nat} {rs : Int32 → Int32 → OS → Option (Int64 × OS)} (hn : n ≤ 160) (hr : r < 20) (hfac : ∀ q, q ≤ n → FacL T n r (fun ask s => f6_readFactor rs (nI o) ask s) q o) : ∀ (N p : Nat) (cs0 : List (Int32 × Int32)) (pe : List Int32) (D : (Nat → Int64) → Int64 × Bool), n - p ≤ N → p ≤ n → (∀ c ∈ pe, isTm c) → 0 < (cs0 ++ emC pe).length → EvS (cs0 ++ emC pe) D →
    (∃ k pl, 0 < k ∧ k < 6 ∧ pl ≤ 200 ∧ LF T n (fun ask t => loop (f6_readProduct_l10 rs (nI o) ask) t) p D k pl ∧ YLF T n r clT p o cs0 pe k pl) ∨ ∃ p' cs1 pe1 D', p ≤ p' ∧ p' ≤ n ∧ 0 < (cs1 ++ emC pe1).length ∧ EvS (cs1 ++ emC pe1) D' ∧ (∀ c ∈ pe1, isTm c) ∧ ¬ isTm (hd T n p') ∧ LO T n (fun ask t => loop (f6_readProduct_l10 rs (nI o) ask) t) p p' D D' ∧ YLO T n r clT p o cs0 pe p' cs1 pe1 := by
  intro N
  induction N with
  | zero =>
    intro p cs0 pe D hN hp hpe h0 hE
    have ht : ¬ isTm (hd T n p) := fun e => by have := hd_lt (tm_sg e).1; omega
    exact Or.inr ⟨p, cs0, pe, D, Nat.le_refl _, hp, h0, hE, hpe, ht, fun ask s cnt val f0 ha hc hs hv => ⟨val, s, pl_end hs hn hp hc ht val, hs, FrR.refl s, hv⟩, fun m0 σ C m _ hm => ⟨m, rfl, hm⟩⟩
  | succ N ih =>
    intro p cs0 pe D hN hp hpe h0 hE
    by_cases ht : isTm (hd T n p)
    · have hlt := hd_lt (tm_sg ht).1
      have goR : ∀ (m0 : OS) (σ : List Int32) (C : List (Int32 × Int32)) (m : OS), clT σ → Yd T n r m0 p o (pe ++ σ) (C ++ cs0) 1 m → ∃ m1, loop (f11_pieceOfC_l39) ((1 : Int32), m) = loop (f11_pieceOfC_l39) ((1 : Int32), m1) ∧ Yd T n r m0 (p + 1) o (hd T n p :: σ) (C ++ (cs0 ++ emC pe)) 0 m1 := by
        intro m0 σ C m hσ hm
        obtain ⟨m1, q1, q2⟩ := go_times (hm.setB (x := 0)) hn hr hσ hpe ht
        exact ⟨m1, loop_inl (by rw [p39_1 hm]; exact j61_go hm q1 (Or.inr rfl)), by rw [List.append_assoc] at q2; exact q2⟩
      have hy38 : ¬ hd T n p = 38 ∧ ¬ hd T n p = 124 ∧ ¬ hd T n p ≤ 2 := by
        rcases ht with e | e | e <;> rw [e] <;> exact ⟨by decide, by decide, by decide⟩
      rcases hfac (p + 1) (by omega) with ⟨k, pl, k1, k2, k3, k4, k5⟩ | ⟨p2, cs2, d2, k1, k2, k3, k4, k5, k6⟩
      · refine Or.inl ⟨k, pl, k1, k2, k3, fun ask s cnt val f0 ha hc hs hv => ?_, fun m0 σ C m hσ hm => ?_⟩
        · obtain ⟨g1, g2, g3⟩ := c_go hs
          obtain ⟨v2, s2, e1, e2⟩ := k4 ask _ ha g1
          obtain ⟨val', s3, w1, w2⟩ := pl_go hs hn hlt hc ht ha val (show f6_readFactor rs (nI o) ask (wI s 0 4 (s.1 0 4 + 1)) = some (v2, s2) from e1)
          have hF3 : Flt k pl s s3 := by
            rcases w2 with ⟨_, _, w⟩ | ⟨_, _, w⟩
            · rw [w]; exact (e2.fr g2).s11 _
            · rw [w]; exact e2.fr g2
          refine ⟨val', s3, ?_, hF3⟩
          show loop _ _ = _
          rw [loop_inl w1]
          exact pl_flt hF3.2.2.1 _ _
        · obtain ⟨m1, q1, q2⟩ := goR m0 σ C m hσ hm
          obtain ⟨m2, q3, q4⟩ := k5 m0 _ _ m1 trivial q2
          exact ⟨m2, q1.trans q3, q4⟩
      · have hE2 := EvS_ar k3 hE k4 hy38.2.2 hy38.1 hy38.2.1
        have hl : cs0 ++ emC pe ++ cs2 ++ [(hd T n p, (0 : Int32))] = (cs0 ++ emC pe ++ cs2) ++ emC [hd T n p] := rfl
        rw [hl] at hE2
        have clsT : ∀ ask s cnt val f0, (ask = 0 ∨ ask = 1) → cnt ≤ p → RdS T n p s → Ev ask f0 val (s.1 0 11) (D (s.2 3)) → ∃ val' s3, f6_readProduct_l10 rs (nI o) ask (val, nI cnt, s) = some (.inl (val', nI (cnt + 1), s3)) ∧ RdS T n p2 s3 ∧ FrR s s3 ∧ Ev ask f0 val' (s3.1 0 11) (wk (hd T n p) (D (s3.2 3)).1 (d2 (s3.2 3)).1, opR (hd T n p) (d2 (s3.2 3)).1 (D (s3.2 3)).2 (d2 (s3.2 3)).2) := by
          intro ask s cnt val f0 ha hc hs hv
          obtain ⟨g1, g2, g3⟩ := c_go hs
          obtain ⟨v2, s2, e1, e2, e3, e4⟩ := k5 ask _ ha g1
          have e4 : Ev ask (s.1 0 11) v2 (s2.1 0 11) (d2 (s.2 3)) := e4
          obtain ⟨val', s3, w1, w2⟩ := pl_go hs hn hlt hc ht ha val (show f6_readFactor rs (nI o) ask (wI s 0 4 (s.1 0 4 + 1)) = some (v2, s2) from e1)
          have hF2 := g2.trans e3
          refine ⟨val', s3, w1, ?_, ?_, ?_⟩
          · rcases w2 with ⟨_, _, w⟩ | ⟨_, _, w⟩
            · rw [w]
              obtain ⟨z1, z2, z3, z4, z5⟩ := e2
              refine ⟨z1, z2, z3, ?_, z5⟩
              show (if s2.1 0 11 = 0 ∧ ask = 0 then (0 : Int32) else 1) = 0 ∨ (if s2.1 0 11 = 0 ∧ ask = 0 then (0 : Int32) else 1) = 1
              by_cases cc : s2.1 0 11 = 0 ∧ ask = 0
              · exact Or.inl (if_pos cc)
              · exact Or.inr (if_neg cc)
            · rw [w]; exact e2
          · rcases w2 with ⟨_, _, w⟩ | ⟨_, _, w⟩
            · rw [w]; exact hF2.slot (Or.inr (Or.inr (Or.inr rfl)))
            · rw [w]; exact hF2
          · have env : s3.2 3 = s.2 3 := by
              rcases w2 with ⟨_, _, w⟩ | ⟨_, _, w⟩
              · rw [w]; exact congrFun hF2.2.1 3
              · rw [w]; exact congrFun hF2.2.1 3
            rw [env]
            refine Ev_ar hv e4 e2.2.2.2.1 ?_
            rcases w2 with ⟨w3, w4, w⟩ | ⟨w3, w4, w⟩
            · exact Or.inl ⟨w3, w4, by rw [w]; exact wI_at⟩
            · exact Or.inr ⟨w3, w4, by rw [w]⟩
        rcases ih p2 (cs0 ++ emC pe ++ cs2) [hd T n p] _ (by omega) k2 (fun c hc => by rw [List.mem_singleton] at hc; rw [hc]; exact ht) (by rw [List.length_append]; show 0 < _ + 1; omega) hE2 with ⟨k, pl, l1, l2, l3, l4, l5⟩ | ⟨p3, cs3, pe3, D3, l1, l2, l3, l4, l5, l6, l7, l8⟩
        · refine Or.inl ⟨k, pl, l1, l2, l3, fun ask s cnt val f0 ha hc hs hv => ?_, fun m0 σ C m hσ hm => ?_⟩
          · obtain ⟨val', s3, w1, w2, w3, w4⟩ := clsT ask s cnt val f0 ha hc hs hv
            obtain ⟨v, s4, z1, z2⟩ := l4 ask s3 (cnt + 1) val' f0 ha (by omega) w2 w4
            exact ⟨v, s4, (loop_inl w1).trans z1, z2.fr w3⟩
          · obtain ⟨m1, q1, q2⟩ := goR m0 σ C m hσ hm
            obtain ⟨m2, q3, q4⟩ := k6 m0 _ _ m1 trivial q2
            obtain ⟨m3, q5, q6⟩ := l5 m0 σ C m2 hσ (by rw [List.append_assoc] at q4; exact q4)
            exact ⟨m3, (q1.trans q3).trans q5, q6⟩
        · refine Or.inr ⟨p3, cs3, pe3, D3, by omega, l2, l3, l4, l5, l6, fun ask s cnt val f0 ha hc hs hv => ?_, fun m0 σ C m hσ hm => ?_⟩
          · obtain ⟨val', s3, w1, w2, w3, w4⟩ := clsT ask s cnt val f0 ha hc hs hv
            obtain ⟨v, s4, z1, z2, z3, z4⟩ := l7 ask s3 (cnt + 1) val' f0 ha (by omega) w2 w4
            rw [congrFun w3.2.1 3] at z4
            exact ⟨v, s4, (loop_inl w1).trans z1, z2, w3.trans z3, z4⟩
          · obtain ⟨m1, q1, q2⟩ := goR m0 σ C m hσ hm
            obtain ⟨m2, q3, q4⟩ := k6 m0 _ _ m1 trivial q2
            obtain ⟨m3, q5, q6⟩ := l8 m0 σ C m2 hσ (by rw [List.append_assoc] at q4; exact q4)
            exact ⟨m3, (q1.trans q3).trans q5, q6⟩
    · exact Or.inr ⟨p, cs0, pe, D, Nat.le_refl _, hp, h0, hE, hpe, ht, fun ask s cnt val f0 ha hc hs hv => ⟨val, s, pl_end hs hn hp hc ht val, hs, FrR.refl s, hv⟩, fun m0 σ C m _ hm => ⟨m, rfl, hm⟩⟩
theorem pro_do {T : Nat → Int32} {n r p o : Nat} {rs : Int32 → Int32 → OS → Option (Int64 × OS)} (hn : n ≤ 160) (hr : r < 20) (hp : p ≤ n) (hfac : ∀ q, q ≤ n → FacL T n r (fun ask s => f6_readFactor rs (nI o) ask s) q o) : ProL T n r (fun ask s => f6_readProduct rs (nI o) ask s) p o := by
  rcases hfac p hp with ⟨k, pl, k1, k2, k3, k4, k5⟩ | ⟨p1, cs1, d1, k1, k2, k3, k4, k5, k6⟩
  · refine Or.inl ⟨k, pl, k1, k2, k3, fun ask s ha hs => ?_, fun m0 σ C m _ hm => k5 m0 σ C m trivial hm⟩
    obtain ⟨v, s', e1, e2⟩ := k4 ask s ha hs
    refine ⟨v, s', ?_, e2⟩
    show f6_readProduct rs (nI o) ask s = _
    unfold f6_readProduct
    rw [show f6_readFactor rs (nI o) ask s = some (v, s') from e1, Option.bind_some]
    exact pl_flt e2.2.2.1 _ _
  · have hl : cs1 = cs1 ++ emC [] := (List.append_nil cs1).symm
    rcases pro_loop hn hr hfac n p1 cs1 [] d1 (by omega) k2 (fun c hc => by cases hc) (by rw [← hl]; exact k3) (by rw [← hl]; exact k4) with ⟨k, pl, l1, l2, l3, l4, l5⟩ | ⟨p3, cs3, pe3, D3, l1, l2, l3, l4, l5, l6, l7, l8⟩
    · refine Or.inl ⟨k, pl, l1, l2, l3, fun ask s ha hs => ?_, fun m0 σ C m hσ hm => ?_⟩
      · obtain ⟨v, s1, e1, e2, e3, e4⟩ := k5 ask s ha hs
        obtain ⟨v', s', z1, z2⟩ := l4 ask s1 0 v (s.1 0 11) ha (Nat.zero_le _) e2 (by rw [congrFun e3.2.1 3]; exact e4)
        refine ⟨v', s', ?_, z2.fr e3⟩
        show f6_readProduct rs (nI o) ask s = _
        unfold f6_readProduct
        rw [show f6_readFactor rs (nI o) ask s = some (v, s1) from e1, Option.bind_some]
        exact z1
      · obtain ⟨m1, q1, q2⟩ := k6 m0 σ C m trivial hm
        obtain ⟨m2, q3, q4⟩ := l5 m0 σ C m1 hσ q2
        exact ⟨m2, q1.trans q3, q4⟩
    · refine Or.inr ⟨p3, cs3, pe3, D3, by omega, l2, l3, l4, l5, l6, fun ask s ha hs => ?_, fun m0 σ C m hσ hm => ?_⟩
      · obtain ⟨v, s1, e1, e2, e3, e4⟩ := k5 ask s ha hs
        obtain ⟨v', s', z1, z2, z3, z4⟩ := l7 ask s1 0 v (s.1 0 11) ha (Nat.zero_le _) e2 (by rw [congrFun e3.2.1 3]; exact e4)
        rw [congrFun e3.2.1 3] at z4
        refine ⟨v', s', ?_, z2, e3.trans z3, z4⟩
        show f6_readProduct rs (nI o) ask s = _
        unfold f6_readProduct
        rw [show f6_readFactor rs (nI o) ask s = some (v, s1) from e1, Option.bind_some]
        exact z1
      · obtain ⟨m1, q1, q2⟩ := k6 m0 σ C m trivial hm
        obtain ⟨m2, q3, q4⟩ := l8 m0 σ C m1 hσ q2
        exact ⟨m2, q1.trans q3, q4⟩
theorem sum_loop {T : Nat → Int32} {n r o : Nat} {rs : Int32 → Int32 → OS → Option (Int64 × OS)} (hn : n ≤ 160) (hr : r < 20) (hpro : ∀ q, q ≤ n → ProL T n r (fun ask s => f6_readProduct rs (nI o) ask s) q o) : ∀ (N p : Nat) (cs0 : List (Int32 × Int32)) (pe : List Int32) (D : (Nat → Int64) → Int64 × Bool), n - p ≤ N → p ≤ n → (∀ c ∈ pe, isTm c ∨ isPm c) → ¬ isTm (hd T n p) → 0 < (cs0 ++ emC pe).length → EvS (cs0 ++ emC pe) D →
    (∃ k pl, 0 < k ∧ k < 6 ∧ pl ≤ 200 ∧ LF T n (fun ask t => loop (f6_readSum_b_l10 rs (nI o) ask) t) p D k pl ∧ YLF T n r clP p o cs0 pe k pl) ∨ ∃ p' cs1 pe1 D', p ≤ p' ∧ p' ≤ n ∧ 0 < (cs1 ++ emC pe1).length ∧ EvS (cs1 ++ emC pe1) D' ∧ (∀ c ∈ pe1, isTm c ∨ isPm c) ∧ ¬ isTm (hd T n p') ∧ ¬ isPm (hd T n p') ∧ LO T n (fun ask t => loop (f6_readSum_b_l10 rs (nI o) ask) t) p p' D D' ∧ YLO T n r clP p o cs0 pe p' cs1 pe1 := by
  intro N
  induction N with
  | zero =>
    intro p cs0 pe D hN hp hpe hnt h0 hE
    have ht : ¬ isPm (hd T n p) := fun e => by have := hd_lt (pm_sg e).1; omega
    exact Or.inr ⟨p, cs0, pe, D, Nat.le_refl _, hp, h0, hE, hpe, hnt, ht, fun ask s cnt val f0 ha hc hs hv => ⟨val, s, sl_end hs hn hp hc ht val, hs, FrR.refl s, hv⟩, fun m0 σ C m _ hm => ⟨m, rfl, hm⟩⟩
  | succ N ih =>
    intro p cs0 pe D hN hp hpe hnt h0 hE
    by_cases ht : isPm (hd T n p)
    · have hlt := hd_lt (pm_sg ht).1
      have goR : ∀ (m0 : OS) (σ : List Int32) (C : List (Int32 × Int32)) (m : OS), clP σ → Yd T n r m0 p o (pe ++ σ) (C ++ cs0) 1 m → ∃ m1, loop (f11_pieceOfC_l39) ((1 : Int32), m) = loop (f11_pieceOfC_l39) ((1 : Int32), m1) ∧ Yd T n r m0 (p + 1) o (hd T n p :: σ) (C ++ (cs0 ++ emC pe)) 0 m1 := by
        intro m0 σ C m hσ hm
        obtain ⟨m1, q1, q2⟩ := go_plus (hm.setB (x := 0)) hn hr hσ hpe ht
        exact ⟨m1, loop_inl (by rw [p39_1 hm]; exact j61_go hm q1 (Or.inr rfl)), by rw [List.append_assoc] at q2; exact q2⟩
      have hy38 : ¬ hd T n p = 38 ∧ ¬ hd T n p = 124 ∧ ¬ hd T n p ≤ 2 ∧ ¬ hd T n p = 47 ∧ ¬ hd T n p = 37 := by
        rcases ht with e | e <;> rw [e] <;> exact ⟨by decide, by decide, by decide, by decide, by decide⟩
      have hclT : ∀ σ : List Int32, clT (hd T n p :: σ) := fun σ => hnt
      rcases hpro (p + 1) (by omega) with ⟨k, pl, k1, k2, k3, k4, k5⟩ | ⟨p2, cs2, pe2, d2, k1, k2, k3, k4, k5, k5', k6, k7⟩
      · refine Or.inl ⟨k, pl, k1, k2, k3, fun ask s cnt val f0 ha hc hs hv => ?_, fun m0 σ C m hσ hm => ?_⟩
        · obtain ⟨g1, g2, g3⟩ := c_go hs
          obtain ⟨v2, s2, e1, e2⟩ := k4 ask _ ha g1
          have w1 := sl_go hs hn hlt hc ht val (show f6_readProduct rs (nI o) ask (wI s 0 4 (s.1 0 4 + 1)) = some (v2, s2) from e1)
          have hF3 : Flt k pl s s2 := e2.fr g2
          refine ⟨wk (hd T n p) val v2, s2, ?_, hF3⟩
          show loop _ _ = _
          rw [loop_inl w1]
          exact sl_flt hF3.2.2.1 _ _
        · obtain ⟨m1, q1, q2⟩ := goR m0 σ C m hσ hm
          obtain ⟨m2, q3, q4⟩ := k5 m0 _ _ m1 (hclT σ) q2
          exact ⟨m2, q1.trans q3, q4⟩
      · have hE2 := EvS_ar k3 hE k4 hy38.2.2.1 hy38.1 hy38.2.1
        have hl : cs0 ++ emC pe ++ (cs2 ++ emC pe2) ++ [(hd T n p, (0 : Int32))] = (cs0 ++ emC pe ++ cs2) ++ emC (pe2 ++ [hd T n p]) := by
          rw [emC_app, ← List.append_assoc, ← List.append_assoc]; rfl
        rw [hl] at hE2
        have clsT : ∀ ask s cnt val f0, (ask = 0 ∨ ask = 1) → cnt ≤ p → RdS T n p s → Ev ask f0 val (s.1 0 11) (D (s.2 3)) → ∃ val' s3, f6_readSum_b_l10 rs (nI o) ask (val, nI cnt, s) = some (.inl (val', nI (cnt + 1), s3)) ∧ RdS T n p2 s3 ∧ FrR s s3 ∧ Ev ask f0 val' (s3.1 0 11) (wk (hd T n p) (D (s3.2 3)).1 (d2 (s3.2 3)).1, opR (hd T n p) (d2 (s3.2 3)).1 (D (s3.2 3)).2 (d2 (s3.2 3)).2) := by
          intro ask s cnt val f0 ha hc hs hv
          obtain ⟨g1, g2, g3⟩ := c_go hs
          obtain ⟨v2, s2, e1, e2, e3, e4⟩ := k6 ask _ ha g1
          have e4 : Ev ask (s.1 0 11) v2 (s2.1 0 11) (d2 (s.2 3)) := e4
          have hF2 := g2.trans e3
          refine ⟨_, s2, sl_go hs hn hlt hc ht val (show f6_readProduct rs (nI o) ask (wI s 0 4 (s.1 0 4 + 1)) = some (v2, s2) from e1), e2, hF2, ?_⟩
          rw [congrFun hF2.2.1 3]
          exact Ev_ar hv e4 e2.2.2.2.1 (Or.inr ⟨fun z => z.1.elim hy38.2.2.2.1 hy38.2.2.2.2, rfl, rfl⟩)
        rcases ih p2 (cs0 ++ emC pe ++ cs2) (pe2 ++ [hd T n p]) _ (by omega) k2 (fun c hc => by
            rw [List.mem_append, List.mem_singleton] at hc
            rcases hc with hc | hc
            · exact Or.inl (k5 c hc)
            · rw [hc]; exact Or.inr ht) k5' (by rw [← hl, List.length_append]; show 0 < _ + 1; omega) hE2 with ⟨k, pl, l1, l2, l3, l4, l5⟩ | ⟨p3, cs3, pe3, D3, l1, l2, l3, l4, l5, l6, l6', l7, l8⟩
        · refine Or.inl ⟨k, pl, l1, l2, l3, fun ask s cnt val f0 ha hc hs hv => ?_, fun m0 σ C m hσ hm => ?_⟩
          · obtain ⟨val', s3, w1, w2, w3, w4⟩ := clsT ask s cnt val f0 ha hc hs hv
            obtain ⟨v, s4, z1, z2⟩ := l4 ask s3 (cnt + 1) val' f0 ha (by omega) w2 w4
            exact ⟨v, s4, (loop_inl w1).trans z1, z2.fr w3⟩
          · obtain ⟨m1, q1, q2⟩ := goR m0 σ C m hσ hm
            obtain ⟨m2, q3, q4⟩ := k7 m0 _ _ m1 (hclT σ) q2
            obtain ⟨m3, q5, q6⟩ := l5 m0 σ C m2 hσ (by rw [List.append_assoc C] at q4; rw [List.append_assoc pe2]; exact q4)
            exact ⟨m3, (q1.trans q3).trans q5, q6⟩
        · refine Or.inr ⟨p3, cs3, pe3, D3, by omega, l2, l3, l4, l5, l6, l6', fun ask s cnt val f0 ha hc hs hv => ?_, fun m0 σ C m hσ hm => ?_⟩
          · obtain ⟨val', s3, w1, w2, w3, w4⟩ := clsT ask s cnt val f0 ha hc hs hv
            obtain ⟨v, s4, z1, z2, z3, z4⟩ := l7 ask s3 (cnt + 1) val' f0 ha (by omega) w2 w4
            rw [congrFun w3.2.1 3] at z4
            exact ⟨v, s4, (loop_inl w1).trans z1, z2, w3.trans z3, z4⟩
          · obtain ⟨m1, q1, q2⟩ := goR m0 σ C m hσ hm
            obtain ⟨m2, q3, q4⟩ := k7 m0 _ _ m1 (hclT σ) q2
            obtain ⟨m3, q5, q6⟩ := l8 m0 σ C m2 hσ (by rw [List.append_assoc C] at q4; rw [List.append_assoc pe2]; exact q4)
            exact ⟨m3, (q1.trans q3).trans q5, q6⟩
    · exact Or.inr ⟨p, cs0, pe, D, Nat.le_refl _, hp, h0, hE, hpe, hnt, ht, fun ask s cnt val f0 ha hc hs hv => ⟨val, s, sl_end hs hn hp hc ht val, hs, FrR.refl s, hv⟩, fun m0 σ C m _ hm => ⟨m, rfl, hm⟩⟩
theorem sum_do {T : Nat → Int32} {n r p o : Nat} {rs : Int32 → Int32 → OS → Option (Int64 × OS)} (hn : n ≤ 160) (hr : r < 20) (hp : p ≤ n) (hpro : ∀ q, q ≤ n → ProL T n r (fun ask s => f6_readProduct rs (nI o) ask s) q o) : SumL T n r (fun ask s => f6_readSum_b rs (nI o) ask s) p o := by
  rcases hpro p hp with ⟨k, pl, k1, k2, k3, k4, k5⟩ | ⟨p1, cs1, pe1, d1, k1, k2, k3, k4, k5, k5', k6, k7⟩
  · refine Or.inl ⟨k, pl, k1, k2, k3, fun ask s ha hs => ?_, fun m0 σ C m hσ hm => k5 m0 σ C m hσ.1 hm⟩
    obtain ⟨v, s', e1, e2⟩ := k4 ask s ha hs
    refine ⟨v, s', ?_, e2⟩
    show f6_readSum_b rs (nI o) ask s = _
    unfold f6_readSum_b
    rw [show f6_readProduct rs (nI o) ask s = some (v, s') from e1, Option.bind_some]
    exact sl_flt e2.2.2.1 _ _
  · rcases sum_loop hn hr hpro n p1 cs1 pe1 d1 (by omega) k2 (fun c hc => Or.inl (k5 c hc)) k5' k3 k4 with ⟨k, pl, l1, l2, l3, l4, l5⟩ | ⟨p3, cs3, pe3, D3, l1, l2, l3, l4, l5, l6, l6', l7, l8⟩
    · refine Or.inl ⟨k, pl, l1, l2, l3, fun ask s ha hs => ?_, fun m0 σ C m hσ hm => ?_⟩
      · obtain ⟨v, s1, e1, e2, e3, e4⟩ := k6 ask s ha hs
        obtain ⟨v', s', z1, z2⟩ := l4 ask s1 0 v (s.1 0 11) ha (Nat.zero_le _) e2 (by rw [congrFun e3.2.1 3]; exact e4)
        refine ⟨v', s', ?_, z2.fr e3⟩
        show f6_readSum_b rs (nI o) ask s = _
        unfold f6_readSum_b
        rw [show f6_readProduct rs (nI o) ask s = some (v, s1) from e1, Option.bind_some]
        exact z1
      · obtain ⟨m1, q1, q2⟩ := k7 m0 σ C m hσ.1 hm
        obtain ⟨m2, q3, q4⟩ := l5 m0 σ C m1 hσ q2
        exact ⟨m2, q1.trans q3, q4⟩
    · refine Or.inr ⟨p3, cs3, pe3, D3, by omega, l2, l3, l4, l5, l6, l6', fun ask s ha hs => ?_, fun m0 σ C m hσ hm => ?_⟩
      · obtain ⟨v, s1, e1, e2, e3, e4⟩ := k6 ask s ha hs
        obtain ⟨v', s', z1, z2, z3, z4⟩ := l7 ask s1 0 v (s.1 0 11) ha (Nat.zero_le _) e2 (by rw [congrFun e3.2.1 3]; exact e4)
        rw [congrFun e3.2.1 3] at z4
        refine ⟨v', s', ?_, z2, e3.trans z3, z4⟩
        show f6_readSum_b rs (nI o) ask s = _
        unfold f6_readSum_b
        rw [show f6_readProduct rs (nI o) ask s = some (v, s1) from e1, Option.bind_some]
        exact z1
      · obtain ⟨m1, q1, q2⟩ := k7 m0 σ C m hσ.1 hm
        obtain ⟨m2, q3, q4⟩ := l8 m0 σ C m1 hσ q2
        exact ⟨m2, q1.trans q3, q4⟩
theorem sum_all {T : Nat → Int32} {n r : Nat} (hn : n ≤ 160) (hr : r < 20) (hT : ∀ i, i < n → bw 0 255 (T i)) : ∀ (d o : Nat), o ≤ 6 → 7 ≤ d + o → ∀ p, p ≤ n → SumL T n r (fun ask s => f6_readSum d (nI o) ask s) p o
  | 0, o, h1, h2, _, _ => by omega
  | d + 1, o, h1, h2, p, hp => sum_do hn hr hp (fun q hq => pro_do hn hr hq (fun q2 hq2 => fac_do hn hr hT hq2 h1 (fun ho q3 hq3 => sum_all hn hr hT d (o + 1) (by omega) (by omega) q3 hq3)))
