-- rules: comparisons on both sides
def EvB (ask f x f' : Int32) (d : Int64 × Bool) : Prop := (x = 0 ∨ x = 1) ∧ (d.1 = 0 ∨ d.1 = 1) ∧ (d.2 = false → (x = 1 ↔ d.1 = 1)) ∧ (ask = 0 → f' = f) ∧ (ask = 1 → d.2 = true → f' = 1) ∧ (ask = 1 → d.2 = false → f' = f)
def BF (T : Nat → Int32) (n : Nat) (g : Int32 → OS → Option (Int32 × OS)) (p k pl : Nat) : Prop := ∀ (ask : Int32) (s : OS), (ask = 0 ∨ ask = 1) → RdS T n p s → ∃ x s', g ask s = some (x, s') ∧ (x = 0 ∨ x = 1) ∧ Flt k pl s s'
def BO (T : Nat → Int32) (n : Nat) (g : Int32 → OS → Option (Int32 × OS)) (p p' : Nat) (den : (Nat → Int64) → Int64 × Bool) : Prop := ∀ (ask : Int32) (s : OS), (ask = 0 ∨ ask = 1) → RdS T n p s → ∃ x s', g ask s = some (x, s') ∧ RdS T n p' s' ∧ FrR s s' ∧ EvB ask (s.1 0 11) x (s'.1 0 11) (den (s.2 3))
/-- at p something stands that goes on behind a piece -/
def isJn (c : Int32) : Prop := c = 38 ∨ c = 124 ∨ c = 41
/-- the reference's run R stands behind a piece -/
def StE (T : Nat → Int32) (n r : Nat) (m0 : OS) (p o : Nat) (σ : List Int32) (C : List (Int32 × Int32)) (R : Option OS) : Prop := (¬ isJn (hd T n p) ∧ ∃ m', R = some m' ∧ Bd r 1 p m0 m') ∨ ∃ m', R = loop (f11_condition_l47) ((0 : Int32), m') ∧ Yd T n r m0 p o σ C 0 m'
def clC (σ : List Int32) : Prop := tpS σ = 40 ∨ tpS σ = 38 ∨ tpS σ = 124
def CF (T : Nat → Int32) (n r : Nat) (p o k' pl : Nat) : Prop := ∀ (m0 : OS) (k o0 : Nat) (σ : List Int32) (C : List (Int32 × Int32)) (bh : Int32) (m : OS), o = o0 + k → clC σ → Yd T n r m0 p o (List.replicate k 33 ++ σ) C bh m → ∃ m', loop (f11_condition_l47) ((1 : Int32), m) = some m' ∧ Bd r k' pl m0 m'
def CO (T : Nat → Int32) (n r : Nat) (p o p' : Nat) (cs : List (Int32 × Int32)) : Prop := ∀ (m0 : OS) (k o0 : Nat) (σ : List Int32) (C : List (Int32 × Int32)) (bh : Int32) (m : OS), o = o0 + k → clC σ → Yd T n r m0 p o (List.replicate k 33 ++ σ) C bh m → StE T n r m0 p' o0 σ (C ++ cs ++ List.replicate k (2, 0)) (loop (f11_condition_l47) ((1 : Int32), m))
def SinL (T : Nat → Int32) (n r : Nat) (g : Int32 → OS → Option (Int32 × OS)) (p o : Nat) : Prop :=
  (∃ k pl, 0 < k ∧ k < 6 ∧ pl ≤ 200 ∧ BF T n g p k pl ∧ CF T n r p o k pl) ∨ ∃ p' cs den, p < p' ∧ p' ≤ n ∧ 0 < cs.length ∧ EvS cs den ∧ BO T n g p p' den ∧ CO T n r p o p' cs
section
variable {T : Nat → Int32} {n r b p o : Nat} {m0 m : OS} {σ : List Int32} {C : List (Int32 × Int32)} {bh : Int32}
theorem f47_bad {k pl : Nat} (h : Bd r k pl m0 m) (x : Int32) : loop (f11_condition_l47) (x, m) = some m := by
  refine loop_inr ?_
  unfold f11_condition_l47 f11_condition_j84
  show Option.bind (f11_isGood m) _ = _
  rw [b_good h, Option.bind_some, if_pos rfl]; rfl
theorem f47_1 (h : YB T n r m0 b p o σ C bh m) : f11_condition_l47 ((1 : Int32), m) = Option.bind (f11_pieceOfC m) fun q => f11_condition_j69 1 q := by
  unfold f11_condition_l47
  show Option.bind (f11_isGood m) (fun q_48 => if q_48 = 0 then _ else if m.1 0 50 = 0 then if (1 : Int32) = 0 then _ else Option.bind (f11_pieceOfC m) fun q_66 => f11_condition_j69 1 q_66 else _) = _
  rw [y_good h, Option.bind_some, if_neg (show ¬ (1 : Int32) = 0 by decide), if_pos h.2.2.1.2.2.2.2.2.1, if_neg (show ¬ (1 : Int32) = 0 by decide)]
theorem f47_0 (h : YB T n r m0 b p o σ C bh m) : f11_condition_l47 ((0 : Int32), m) = f11_condition_j69 0 m := by
  unfold f11_condition_l47
  show Option.bind (f11_isGood m) (fun q_48 => if q_48 = 0 then _ else if m.1 0 50 = 0 then if (0 : Int32) = 0 then f11_condition_j69 0 m else _ else _) = _
  rw [y_good h, Option.bind_some, if_neg (show ¬ (1 : Int32) = 0 by decide), if_pos h.2.2.1.2.2.2.2.2.1, if_pos rfl]
theorem j69_good (h : YB T n r m0 b p o σ C bh m) (x : Int32) : f11_condition_j69 x m = Option.bind (f11_goesBehind m) fun q => some (Sum.inl (q.1, q.2)) := by
  unfold f11_condition_j69
  rw [y_good h, Option.bind_some, if_neg (show ¬ (1 : Int32) = 0 by decide)]
/-- a piece that has been read -/
theorem f47_piece {m1 : OS} {σ1 : List Int32} {C1 : List (Int32 × Int32)} {p1 o1 b1 : Nat} {bh1 : Int32} (h : YB T n r m0 b p o σ C bh m) (hp : f11_pieceOfC m = some m1) (h1 : YB T n r m0 b1 p1 o1 σ1 C1 bh1 m1) : loop (f11_condition_l47) ((1 : Int32), m) = loop (f11_condition_l47) ((0 : Int32), m1) := by
  refine loop_same ?_
  rw [f47_1 h, hp, Option.bind_some, f47_0 h1, j69_good h1, j69_good h1]
theorem f47_pbad {k pl : Nat} {m1 : OS} (h : YB T n r m0 b p o σ C bh m) (hp : f11_pieceOfC m = some m1) (h1 : Bd r k pl m0 m1) : ∃ m', loop (f11_condition_l47) ((1 : Int32), m) = some m' ∧ Bd r k pl m0 m' := by
  have hb : f11_condition_l47 ((1 : Int32), m) = some (.inl (1, m1)) := by
    rw [f47_1 h, hp, Option.bind_some]
    unfold f11_condition_j69
    rw [b_good h1, Option.bind_some, if_pos rfl]
  exact ⟨m1, by rw [loop_inl hb]; exact f47_bad h1 1, h1⟩
/-- a piece that begins with neither ! nor ( -/
theorem piece_in (h : YB T n r m0 b p o σ C bh m) (hn : n ≤ 160) (h33 : ¬ hd T n p = 33) (h40 : ¬ hd T n p = 40) {o' : Option OS} (ho : loop (f11_pieceOfC_l39) ((1 : Int32), wI m 0 51 0) = o') : f11_pieceOfC m = o' := by
  have hb : f11_pieceOfC_l0 m = Option.map Sum.inr (f11_pieceOfC_j32 m) := by
    unfold f11_pieceOfC_l0
    rw [y_good h, Option.bind_some, if_neg (show ¬ (1 : Int32) = 0 by decide), y_here h hn, Option.bind_some, if_neg h33, Option.bind_some, if_neg h40]
  have hj : f11_pieceOfC_j32 m = o' := by
    unfold f11_pieceOfC_j32
    rw [nm_p]; exact ho
  unfold f11_pieceOfC
  rw [hj] at hb
  cases o' with
  | some z => exact loop_inr hb
  | none =>
    rcases loop_spec f11_pieceOfC_l0 m with ⟨k, z, h1, h2⟩ | ⟨_, h2⟩
    · cases k with
      | zero => cases h1
      | succ k =>
        obtain ⟨x, g1, g2⟩ := loopN_e h1
        rw [hb] at g1; cases g1
    · exact h2
variable {pe : List Int32}
theorem go_sign (h : Yd T n r m0 p o (pe ++ σ) C 0 m) (hn : n ≤ 160) (hr : r < 20) (hσ : clP σ) (hpe : ∀ c ∈ pe, isTm c ∨ isPm c) (h91 : ¬ tpS σ = 91) (hcp : ¬ isCp (tpS σ)) (hc : isCp (hd T n p)) : ∃ m1, f11_goesOn m = some (1, m1) ∧ Yd T n r m0 (p + 1) o (hd T n p :: σ) (C ++ emC pe) 0 m1 := by
  have hpn := (y_len h).2
  have hnt : ¬ isTm (hd T n p) := fun e => by
    rcases e with c | c | c <;> rcases hc with e | e | e <;> rw [c] at e <;> exact absurd e (by decide)
  have hnp : ¬ isPm (hd T n p) := fun e => by
    rcases e with c | c <;> rcases hc with e | e | e <;> rw [c] at e <;> exact absurd e (by decide)
  have hlt : p < n := hd_lt (fun e => by rw [e] at hc; rcases hc with c | c | c <;> exact absurd c (by decide))
  obtain ⟨m1, k1, k2⟩ := go_pre h hr (show p ≤ 160 by omega) hσ hpe
  obtain ⟨m2, k3, k4⟩ := y_puts k2 (show p ≤ 190 by omega) hlt (hd T n p)
  refine ⟨m2, ?_, k4⟩
  unfold f11_goesOn f11_goesOn_j137
  rw [y_here h hn, Option.bind_some, tm_f hnt, Option.bind_some, if_pos rfl, pl_f hnp, Option.bind_some, if_pos rfl, k1, Option.bind_some, if_neg (show ¬ hd T n p = 93 from fun e => by rcases hc with c | c | c <;> rw [c] at e <;> exact absurd e (by decide)), cp_t hc, Option.bind_some, if_neg (show ¬ (1 : Int32) = 0 by decide), y_top k2 (by omega), Option.bind_some, if_neg h91, Option.bind_some, cp_f hcp, Option.bind_some, if_pos rfl, k3, Option.bind_some]
theorem go_end {c : Int32} (h : Yd T n r m0 p o (pe ++ c :: σ) C 0 m) (hn : n ≤ 160) (hr : r < 20) (hpe : ∀ c ∈ pe, isTm c ∨ isPm c) (hc : isCp c) (ht : ¬ isTm (hd T n p)) (hp : ¬ isPm (hd T n p)) (h93 : ¬ hd T n p = 93) (hcp : ¬ isCp (hd T n p)) : ∃ m1, f11_goesOn m = some (0, m1) ∧ Yd T n r m0 p o σ (C ++ emC pe ++ [(c, 0)]) 0 m1 := by
  have hpn := (y_len h).2
  have hσ : clP (c :: σ) := ⟨fun e => by
    have e : isTm c := e
    rcases e with z | z | z <;> rcases hc with e | e | e <;> rw [z] at e <;> exact absurd e (by decide), fun e => by
    have e : isPm c := e
    rcases e with z | z <;> rcases hc with e | e | e <;> rw [z] at e <;> exact absurd e (by decide)⟩
  obtain ⟨m1, k1, k2⟩ := go_pre h hr (show p ≤ 160 by omega) hσ hpe
  obtain ⟨m2, k3, k4⟩ := y_pop k2 hr (show p ≤ 160 by omega) c
  refine ⟨_, ?_, k4⟩
  unfold f11_goesOn f11_goesOn_j185
  rw [y_here h hn, Option.bind_some, tm_f ht, Option.bind_some, if_pos rfl, pl_f hp, Option.bind_some, if_pos rfl, k1, Option.bind_some, if_neg h93, cp_f hcp, Option.bind_some, if_pos rfl, y_top k2 (by omega), Option.bind_some]
  show Option.bind (f11_isSign c) _ = _
  rw [cp_t hc, Option.bind_some, if_neg (show ¬ (1 : Int32) = 0 by decide), Option.bind_some]
  show Option.bind (f11_emit c 0 m1) _ = _
  rw [k3, Option.bind_some, nm_p]
theorem go_bad2 (h : Yd T n r m0 p o (pe ++ σ) C 0 m) (hn : n ≤ 160) (hr : r < 20) (hσ : clP σ) (hpe : ∀ c ∈ pe, isTm c ∨ isPm c) (h91 : ¬ tpS σ = 91) (hcp : ¬ isCp (tpS σ)) (ht : ¬ isTm (hd T n p)) (hp : ¬ isPm (hd T n p)) (hc : ¬ isCp (hd T n p)) : ∃ m1, f11_goesOn m = some (0, m1) ∧ Bd r 1 p m0 m1 := by
  have hpn := (y_len h).2
  obtain ⟨m1, k1, k2⟩ := go_pre h hr (show p ≤ 160 by omega) hσ hpe
  obtain ⟨mb, hmb⟩ : ∃ mb, mb = wI m1 0 45 (-1000 * nI 1 - nI p) := ⟨_, rfl⟩
  have hb : Bd r 1 p m0 mb := by rw [hmb]; exact y_bd k2 (k := 1) (pl := p) (by omega) (by omega) (by omega)
  have hw : f11_wrongs 1 (m1.1 0 43) m1 = some mb := by rw [k2.2.2.1.1, hmb]; exact y_wrongs k2 (nI 1) (nI p)
  refine ⟨mb, ?_, hb⟩
  unfold f11_goesOn f11_goesOn_j185
  rw [y_here h hn, Option.bind_some, tm_f ht, Option.bind_some, if_pos rfl, pl_f hp, Option.bind_some, if_pos rfl, k1, Option.bind_some]
  by_cases c93 : hd T n p = 93
  · rw [if_pos c93, y_top k2 (by omega), Option.bind_some, if_neg h91, hw, Option.bind_some]
  · rw [if_neg c93, cp_f hc, Option.bind_some, if_pos rfl, y_top k2 (by omega), Option.bind_some, cp_f hcp, Option.bind_some, if_pos rfl, hw, Option.bind_some]
end
theorem top_33 {k : Nat} {σ : List Int32} (h : clC σ) : tpS (List.replicate k 33 ++ σ) = 33 ∨ tpS (List.replicate k 33 ++ σ) = 40 ∨ tpS (List.replicate k 33 ++ σ) = 38 ∨ tpS (List.replicate k 33 ++ σ) = 124 := by
  cases k with
  | zero => exact Or.inr h
  | succ k => exact Or.inl rfl
theorem top_ok {σ : List Int32} (h : tpS σ = 33 ∨ tpS σ = 40 ∨ tpS σ = 38 ∨ tpS σ = 124) : clP σ ∧ ¬ tpS σ = 91 ∧ ¬ isCp (tpS σ) := by
  unfold clP isTm isPm isCp
  rcases h with e | e | e | e <;> rw [e] <;> decide
/-- the value of a comparison -/
theorem wk_cp {c : Int32} (h : isCp c) (a b : Int64) : (wk c a b = 0 ∨ wk c a b = 1) ∧ ¬ c = 47 ∧ ¬ c = 37 := by
  unfold wk
  rcases h with rfl | rfl | rfl
  · rw [if_neg (by decide), if_neg (by decide), if_neg (by decide), if_neg (by decide), if_neg (by decide), if_pos rfl]
    refine ⟨?_, by decide, by decide⟩
    by_cases hl : a.toInt < b.toInt
    · rw [if_pos hl]; exact Or.inr rfl
    · rw [if_neg hl]; exact Or.inl rfl
  · rw [if_neg (by decide), if_neg (by decide), if_neg (by decide), if_neg (by decide), if_neg (by decide), if_neg (by decide), if_pos rfl]
    refine ⟨?_, by decide, by decide⟩
    by_cases hl : b.toInt < a.toInt
    · rw [if_pos hl]; exact Or.inr rfl
    · rw [if_neg hl]; exact Or.inl rfl
  · rw [if_neg (by decide), if_neg (by decide), if_neg (by decide), if_neg (by decide), if_neg (by decide), if_neg (by decide), if_neg (by decide)]
    refine ⟨?_, by decide, by decide⟩
    by_cases hl : a = b
    · rw [if_pos hl]; exact Or.inr rfl
    · rw [if_neg hl]; exact Or.inl rfl
noncomputable def f6_readComparison_j45 (o ask : Int32) (v1 : Int64) (c : Int32) (s : OS) : Option (Int32 × OS) := Option.bind (f6_readSum 8 o ask (wI s 0 4 (s.1 0 4 + 1))) fun q3 => Option.bind (f6_areSo v1 c q3.1) fun x => some (x, q3.2)
theorem c_order {T : Nat → Int32} {n p : Nat} {s : OS} (h : RdS T n p s) (hn : n ≤ 160) (hlt : p < n) (hc : isCp (hd T n p)) : f6_readOrder s = some (hd T n p, wI s 0 4 (s.1 0 4 + 1)) := by
  unfold f6_readOrder f6_readOrder_j23 f6_readOrder_j45
  rw [c_sign h hn (by omega), Option.bind_some, sg_lt hlt]
  rcases hc with c | c | c
  · rw [if_pos c, nm_p]
  · rw [if_neg (by rw [c]; decide), if_pos c, nm_p]
  · rw [if_neg (by rw [c]; decide), if_neg (by rw [c]; decide), if_pos c, nm_p]
theorem cmp_j45 {c : Int32} {o ask : Int32} {s s2 : OS} {v1 v2 : Int64} (h : isCp c) (hs : f6_readSum 8 o ask (wI s 0 4 (s.1 0 4 + 1)) = some (v2, s2)) : ∃ x, f6_readComparison_j45 o ask v1 c s = some (x, s2) ∧ (x = 0 ∨ x = 1) ∧ (x = 1 ↔ wk c v1 v2 = 1) := by
  have w60 : wk 60 v1 v2 = (if v1.toInt < v2.toInt then 1 else 0) := rfl
  have w62 : wk 62 v1 v2 = (if v2.toInt < v1.toInt then 1 else 0) := rfl
  have w61 : wk 61 v1 v2 = (if v1 = v2 then 1 else 0) := rfl
  have j0 : chk (isB (0 : Int32)) (some (0 : Int32)) = some 0 := rfl
  have j1 : chk (isB (1 : Int32)) (some (1 : Int32)) = some 1 := rfl
  unfold f6_readComparison_j45
  rw [hs, Option.bind_some]
  unfold f6_areSo f6_areSo_j17 f6_areSo_j49
  rw [j0, j1]
  have h10 : ¬ (0 : Int64) = 1 := by decide
  have h10' : ¬ (0 : Int32) = 1 := by decide
  rcases h with rfl | rfl | rfl
  · rw [if_pos rfl, w60]
    by_cases hl : v1.toInt < v2.toInt
    · rw [if_neg (show ¬ 0 ≤ lg_cmp v1 (v2, s2).1 from fun e => by have := (lg_ge0 _ _).mp e; have : v2.toInt ≤ v1.toInt := this; omega), if_pos hl]
      exact ⟨1, rfl, Or.inr rfl, ⟨fun _ => rfl, fun _ => rfl⟩⟩
    · rw [if_pos (show 0 ≤ lg_cmp v1 (v2, s2).1 from (lg_ge0 _ _).mpr (show v2.toInt ≤ v1.toInt by omega)), if_neg hl]
      exact ⟨0, rfl, Or.inl rfl, ⟨fun e => absurd e h10', fun e => absurd e h10⟩⟩
  · rw [if_neg (show ¬ (62 : Int32) = 60 by decide), if_pos rfl, w62]
    by_cases hl : v2.toInt < v1.toInt
    · rw [if_neg (show ¬ lg_cmp v1 (v2, s2).1 ≤ 0 from fun e => by have := (lg_le0 _ _).mp e; have : v1.toInt ≤ v2.toInt := this; omega), if_pos hl]
      exact ⟨1, rfl, Or.inr rfl, ⟨fun _ => rfl, fun _ => rfl⟩⟩
    · rw [if_pos (show lg_cmp v1 (v2, s2).1 ≤ 0 from (lg_le0 _ _).mpr (show v1.toInt ≤ v2.toInt by omega)), if_neg hl]
      exact ⟨0, rfl, Or.inl rfl, ⟨fun e => absurd e h10', fun e => absurd e h10⟩⟩
  · rw [if_neg (show ¬ (61 : Int32) = 60 by decide), if_neg (show ¬ (61 : Int32) = 62 by decide), w61]
    by_cases hl : v1 = v2
    · rw [if_pos (show lg_cmp v1 (v2, s2).1 = 0 from (lg_eq0 _ _).mpr hl), if_pos hl]
      exact ⟨1, rfl, Or.inr rfl, ⟨fun _ => rfl, fun _ => rfl⟩⟩
    · rw [if_neg (show ¬ lg_cmp v1 (v2, s2).1 = 0 from fun e => hl ((lg_eq0 _ _).mp e)), if_neg hl]
      exact ⟨0, rfl, Or.inl rfl, ⟨fun e => absurd e h10', fun e => absurd e h10⟩⟩
theorem cmp_do {T : Nat → Int32} {n r p o : Nat} (hn : n ≤ 160) (hr : r < 20) (hT : ∀ i, i < n → bw 0 255 (T i)) (hp : p ≤ n) (ho : o ≤ 6) (h33 : ¬ hd T n p = 33) (h40 : ¬ hd T n p = 40) : SinL T n r (fun ask s => f6_readComparison (nI o) ask s) p o := by
  have hsum : ∀ q, q ≤ n → SumL T n r (fun ask s => f6_readSum 8 (nI o) ask s) q o := fun q hq => sum_all hn hr hT 8 o ho (by omega) q hq
  -- the reference's piece
  have yp : ∀ {m0 : OS} {k : Nat} {σ : List Int32} {C : List (Int32 × Int32)} {bh : Int32} {m : OS}, Yd T n r m0 p o (List.replicate k 33 ++ σ) C bh m → ∀ {m1 : OS} {σ1 : List Int32} {C1 : List (Int32 × Int32)} {p1 o1 b1 : Nat} {bh1 : Int32}, loop (f11_pieceOfC_l39) ((1 : Int32), wI m 0 51 0) = some m1 → YB T n r m0 b1 p1 o1 σ1 C1 bh1 m1 → loop (f11_condition_l47) ((1 : Int32), m) = loop (f11_condition_l47) ((0 : Int32), m1) := by
    intro m0 k σ C bh m hm m1 σ1 C1 p1 o1 b1 bh1 h1 h2
    exact f47_piece hm (piece_in hm hn h33 h40 h1) h2
  rcases hsum p hp with ⟨k', pl, k1, k2, k3, k4, k5⟩ | ⟨p1, cs1, pe1, d1, k1, k2, k3, k4, k5, k6, k7, k8, k9⟩
  · refine Or.inl ⟨k', pl, k1, k2, k3, fun ask s ha hs => ?_, fun m0 k o0 σ C bh m _ hσ hm => ?_⟩
    · obtain ⟨v, s', e1, e2⟩ := k4 ask s ha hs
      obtain ⟨x, x1, x2⟩ := areSo_01 v (-1) 0
      refine ⟨x, s', ?_, x2, e2⟩
      show f6_readComparison (nI o) ask s = _
      unfold f6_readComparison
      rw [show f6_readSum 8 (nI o) ask s = some (v, s') from e1, Option.bind_some, x_order e2.2.2.1, Option.bind_some, x_sum e2.2.2.1 7, Option.bind_some, x1, Option.bind_some]
    · obtain ⟨m1, q1, q2⟩ := k5 m0 _ C _ (top_ok (top_33 hσ)).1 (hm.setB (x := 0))
      exact f47_pbad hm (piece_in hm hn h33 h40 q1) q2
  · -- the first sum stands
    have cl1 : ∀ (ask : Int32) (s : OS), (ask = 0 ∨ ask = 1) → RdS T n p s → ∃ v s1, f6_readSum 8 (nI o) ask s = some (v, s1) ∧ RdS T n p1 s1 ∧ FrR s s1 ∧ Ev ask (s.1 0 11) v (s1.1 0 11) (d1 (s.2 3)) := fun ask s ha hs => k8 ask s ha hs
    by_cases hc : isCp (hd T n p1)
    · have hlt : p1 < n := hd_lt (fun e => by rw [e] at hc; rcases hc with c | c | c <;> exact absurd c (by decide))
      have hsg : sg T n p1 = hd T n p1 := sg_lt hlt
      have clC' : ∀ (ask : Int32) (s : OS) (v : Int64) (s1 : OS), f6_readSum 8 (nI o) ask s = some (v, s1) → RdS T n p1 s1 → f6_readComparison (nI o) ask s = f6_readComparison_j45 (nI o) ask v (hd T n p1) s1 := by
        intro ask s v s1 e1 e2
        unfold f6_readComparison f6_readComparison_j45
        rw [e1, Option.bind_some]
        show Option.bind (f6_readOrder s1) _ = _
        rw [c_order e2 hn hlt hc, Option.bind_some]
        first | done | rfl
      have goR : ∀ (m0 : OS) (k : Nat) (σ : List Int32) (C : List (Int32 × Int32)) (bh : Int32) (m : OS), clC σ → Yd T n r m0 p o (List.replicate k 33 ++ σ) C bh m → ∃ m1, loop (f11_pieceOfC_l39) ((1 : Int32), wI m 0 51 0) = loop (f11_pieceOfC_l39) ((1 : Int32), m1) ∧ Yd T n r m0 (p1 + 1) o (hd T n p1 :: (List.replicate k 33 ++ σ)) (C ++ (cs1 ++ emC pe1)) 0 m1 := by
        intro m0 k σ C bh m hσ hm
        obtain ⟨t1, t2, t3⟩ := top_ok (top_33 (k := k) hσ)
        obtain ⟨m1, q1, q2⟩ := k9 m0 _ C _ t1 (hm.setB (x := 0))
        obtain ⟨m2, q3, q4⟩ := go_sign (q2.setB (x := 0)) hn hr t1 k5 t2 t3 hc
        exact ⟨m2, q1.trans (loop_inl (by rw [p39_1 q2]; exact j61_go q2 q3 (Or.inr rfl))), by rw [List.append_assoc] at q4; exact q4⟩
      have hcl : ∀ σ : List Int32, clP (hd T n p1 :: σ) := fun σ => ⟨k6, k7⟩
      rcases hsum (p1 + 1) (by omega) with ⟨k', pl, l1, l2, l3, l4, l5⟩ | ⟨p2, cs2, pe2, d2, l1, l2, l3, l4, l5, l6, l7, l8, l9⟩
      · refine Or.inl ⟨k', pl, l1, l2, l3, fun ask s ha hs => ?_, fun m0 k o0 σ C bh m _ hσ hm => ?_⟩
        · obtain ⟨v, s1, e1, e2, e3, e4⟩ := cl1 ask s ha hs
          obtain ⟨g1, g2, g3⟩ := c_go e2
          obtain ⟨v2, s2, e5, e6⟩ := l4 ask _ ha g1
          obtain ⟨x, w1, w2, w3⟩ := cmp_j45 (v1 := v) hc (show f6_readSum 8 (nI o) ask (wI s1 0 4 (s1.1 0 4 + 1)) = some (v2, s2) from e5)
          exact ⟨x, s2, (clC' ask s v s1 e1 e2).trans w1, w2, e6.fr (e3.trans g2)⟩
        · obtain ⟨m1, q1, q2⟩ := goR m0 k σ C bh m hσ hm
          obtain ⟨m2, q3, q4⟩ := l5 m0 _ _ m1 (hcl _) q2
          exact f47_pbad hm (piece_in hm hn h33 h40 (q1.trans q3)) q4
      · have hy38 : ¬ hd T n p1 = 38 ∧ ¬ hd T n p1 = 124 ∧ ¬ hd T n p1 ≤ 2 := by
          rcases hc with e | e | e <;> rw [e] <;> exact ⟨by decide, by decide, by decide⟩
        have hE := EvS_ar l3 k4 l4 hy38.2.2 hy38.1 hy38.2.1
        refine Or.inr ⟨p2, _, _, by omega, l2, by rw [List.length_append]; show 0 < _ + 1; omega, hE, fun ask s ha hs => ?_, fun m0 k o0 σ C bh m ho0 hσ hm => ?_⟩
        · obtain ⟨v, s1, e1, e2, e3, e4⟩ := cl1 ask s ha hs
          obtain ⟨g1, g2, g3⟩ := c_go e2
          obtain ⟨v2, s2, e5, e6, e7, e8⟩ := l8 ask _ ha g1
          have e8 : Ev ask (s1.1 0 11) v2 (s2.1 0 11) (d2 (s1.2 3)) := e8
          rw [congrFun e3.2.1 3] at e8
          obtain ⟨x, w1, w2, w3⟩ := cmp_j45 (v1 := v) hc (show f6_readSum 8 (nI o) ask (wI s1 0 4 (s1.1 0 4 + 1)) = some (v2, s2) from e5)
          obtain ⟨z1, z2, z3⟩ := wk_cp hc (d1 (s.2 3)).1 (d2 (s.2 3)).1
          obtain ⟨a1, a2, a3, a4⟩ := Ev_ar e4 e8 e6.2.2.2.1 (Or.inr ⟨fun z => z.1.elim z2 z3, rfl, rfl⟩)
          refine ⟨x, s2, (clC' ask s v s1 e1 e2).trans w1, e6, (e3.trans g2).trans e7, w2, z1, fun hf => ?_, a2, a3, a4⟩
          rw [w3, a1 hf]
        · obtain ⟨m1, q1, q2⟩ := goR m0 k σ C bh m hσ hm
          obtain ⟨m2, q3, q4⟩ := l9 m0 _ _ m1 (hcl _) q2
          have hnJ : (hd T n p2 = 93 ∨ isCp (hd T n p2)) → ¬ isJn (hd T n p2) := by
            unfold isJn
            rintro (z | z | z | z) <;> rw [z] <;> decide
          by_cases hbad : hd T n p2 = 93 ∨ isCp (hd T n p2)
          · obtain ⟨x, m3, q5, q6, q7⟩ := go_bad (q4.setB (x := 0)) hn hr (hcl _) l5 l6 l7 (Or.inr ⟨hc, hbad⟩)
            have q8 : loop (f11_pieceOfC_l39) ((1 : Int32), wI m 0 51 0) = some m3 := by
              rw [q1, q3, loop_inl (s' := (x, m3)) (by rw [p39_1 q4]; exact j61_go q4 q5 q6)]
              exact p39_bad q7 x
            obtain ⟨m4, q9, q10⟩ := f47_pbad hm (piece_in hm hn h33 h40 q8) q7
            exact Or.inl ⟨hnJ hbad, m4, q9, q10⟩
          · obtain ⟨m3, q5, q6⟩ := go_end (q4.setB (x := 0)) hn hr l5 hc l6 l7 (fun e => hbad (Or.inl e)) (fun e => hbad (Or.inr e))
            have hpn := (y_len q6).2
            have hσ33 : ¬ tpS σ = 33 := by rcases hσ with e | e | e <;> rw [e] <;> decide
            rw [ho0] at q6
            obtain ⟨m4, q7, q8⟩ := y_ends hr (show p2 ≤ 160 by omega) hσ33 k _ m3 q6
            have q9 : loop (f11_pieceOfC_l39) ((1 : Int32), wI m 0 51 0) = some m4 := by
              rw [q1, q3, loop_inl (s' := (0, m3)) (by rw [p39_1 q4]; exact j61_go q4 q5 (Or.inl rfl))]
              refine loop_inr ?_
              unfold f11_pieceOfC_l39 f11_pieceOfC_j89 f11_pieceOfC_j100
              show (if (0 : Int32) = 0 then Option.map Sum.inr (Option.bind (f11_isGood m3) fun q_90 => if q_90 = 0 then some m3 else Option.bind (f11_ends m3) fun q_97 => some q_97) else _) = _
              rw [if_pos rfl, y_good q6, Option.bind_some, if_neg (show ¬ (1 : Int32) = 0 by decide), q7]; rfl
            refine Or.inr ⟨m4, yp hm q9 q8, ?_⟩
            have hl : C ++ (cs1 ++ emC pe1) ++ cs2 ++ emC pe2 ++ [(hd T n p1, (0 : Int32))] ++ List.replicate k (2, 0) = C ++ (cs1 ++ emC pe1 ++ (cs2 ++ emC pe2) ++ [(hd T n p1, 0)]) ++ List.replicate k (2, 0) := by
              simp only [List.append_assoc]
            rw [hl] at q8
            exact q8
    · refine Or.inl ⟨1, p1, by omega, by omega, by omega, fun ask s ha hs => ?_, fun m0 k o0 σ C bh m _ hσ hm => ?_⟩
      · obtain ⟨v, s1, e1, e2, e3, e4⟩ := cl1 ask s ha hs
        obtain ⟨s', g1, g2⟩ := c_flt e2 (k := 1) (pl := p1) (by omega) (by omega)
        have g1 : f6_fail 1 (s1.1 0 4) s1 = some s' := by rw [e2.2.1]; exact g1
        obtain ⟨x, x1, x2⟩ := areSo_01 v (sg T n p1) 0
        have hord : f6_readOrder s1 = some (sg T n p1, s') := by
          unfold f6_readOrder f6_readOrder_j45
          rw [c_sign e2 hn (by omega), Option.bind_some, if_neg (fun e => hc (Or.inl ((sg_hd (by decide) (by decide)).mp e))), if_neg (fun e => hc (Or.inr (Or.inl ((sg_hd (by decide) (by decide)).mp e)))), if_neg (fun e => hc (Or.inr (Or.inr ((sg_hd (by decide) (by decide)).mp e)))), g1, Option.bind_some]
        refine ⟨x, s', ?_, x2, g2.fr e3⟩
        show f6_readComparison (nI o) ask s = _
        unfold f6_readComparison
        rw [e1, Option.bind_some]
        show Option.bind (f6_readOrder s1) _ = _
        rw [hord, Option.bind_some, x_sum g2.2.2.1 7, Option.bind_some, x1, Option.bind_some]
      · obtain ⟨t1, t2, t3⟩ := top_ok (top_33 (k := k) hσ)
        obtain ⟨m1, q1, q2⟩ := k9 m0 _ C _ t1 (hm.setB (x := 0))
        obtain ⟨m2, q3, q4⟩ := go_bad2 (q2.setB (x := 0)) hn hr t1 k5 t2 t3 k6 k7 hc
        have q5 : loop (f11_pieceOfC_l39) ((1 : Int32), wI m 0 51 0) = some m2 := by
          rw [q1, loop_inl (s' := (0, m2)) (by rw [p39_1 q2]; exact j61_go q2 q3 (Or.inl rfl))]
          exact p39_bad q4 0
        exact f47_pbad hm (piece_in hm hn h33 h40 q5) q4
