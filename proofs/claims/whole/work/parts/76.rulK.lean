-- rules: a clause on both sides
theorem FrC.refl (s : OS) : FrC s s := ⟨fun _ _ => rfl, rfl, fun _ _ _ _ _ _ _ _ => rfl⟩
theorem FrC.trans {a b c : OS} (h : FrC a b) (g : FrC b c) : FrC a c := ⟨fun r h1 => (g.1 r h1).trans (h.1 r h1), g.2.1.trans h.2.1, fun i h1 h2 h3 h4 h5 h6 h7 => (g.2.2 i h1 h2 h3 h4 h5 h6 h7).trans (h.2.2 i h1 h2 h3 h4 h5 h6 h7)⟩
theorem FrR.c {a b : OS} (h : FrR a b) : FrC a b := ⟨h.1, h.2.1, fun i h1 h2 h3 _ _ _ h7 => h.2.2 i h1 h2 h3 h7⟩
theorem FrC.slot {s s' : OS} {i : Nat} {v : Int32} (h : FrC s s') (hi : i = 4 ∨ i = 6 ∨ i = 7 ∨ i = 8 ∨ i = 9 ∨ i = 10 ∨ i = 11) : FrC s (wI s' 0 i v) := by
  refine h.trans ⟨fun r h1 => wI_of h1, rfl, fun j h1 h2 h3 h4 h5 h6 h7 => ?_⟩
  show (if j = i then v else s'.1 0 j) = _
  rw [if_neg (by omega)]
def FltC (k pl : Nat) (s s' : OS) : Prop := s'.1 0 6 = nI k ∧ s'.1 0 7 = nI pl ∧ ¬ s'.1 0 6 = 0 ∧ FrC s s'
theorem Flt.c {k pl : Nat} {a b c : OS} (h : FrC a b) (g : Flt k pl b c) : FltC k pl a c := ⟨g.1, g.2.1, g.2.2.1, h.trans g.2.2.2.c⟩
theorem FltC.slot {k pl i : Nat} {s s' : OS} {v : Int32} (h : FltC k pl s s') (hi : i = 4 ∨ i = 8 ∨ i = 9 ∨ i = 10 ∨ i = 11) : FltC k pl s (wI s' 0 i v) := by
  refine ⟨?_, ?_, ?_, h.2.2.2.slot (by omega)⟩
  · show (if 6 = i then v else s'.1 0 6) = _
    rw [if_neg (by omega)]; exact h.1
  · show (if 7 = i then v else s'.1 0 7) = _
    rw [if_neg (by omega)]; exact h.2.1
  · show ¬ (if 6 = i then v else s'.1 0 6) = 0
    rw [if_neg (by omega)]; exact h.2.2.1
/-- what stays while the reference reads the rules r -/
def FrW (r : Nat) (m m' : OS) : Prop := (∀ q, q ≠ 0 → (q < 37 ∨ 43 < q) → q ≠ 53 → m'.1 q = m.1 q) ∧ m'.2 = m.2 ∧ (∀ i, (i < 43 ∨ i = 44 ∨ 51 < i) → m'.1 0 i = m.1 0 i) ∧ (∀ i, i < 160 * r → m'.1 42 i = m.1 42 i ∧ m'.1 43 i = m.1 43 i) ∧ ∀ q, 37 ≤ q → q ≤ 41 → ∀ i, i < 12 * r → m'.1 q i = m.1 q i
theorem FrW.refl (r : Nat) (m : OS) : FrW r m m := ⟨fun _ _ _ _ => rfl, rfl, fun _ _ => rfl, fun _ _ => ⟨rfl, rfl⟩, fun _ _ _ _ _ => rfl⟩
theorem FrW.trans {r : Nat} {a b c : OS} (h : FrW r a b) (g : FrW r b c) : FrW r a c := ⟨fun q h1 h2 h3 => (g.1 q h1 h2 h3).trans (h.1 q h1 h2 h3), g.2.1.trans h.2.1, fun i hi => (g.2.2.1 i hi).trans (h.2.2.1 i hi), fun i hi => ⟨(g.2.2.2.1 i hi).1.trans (h.2.2.2.1 i hi).1, (g.2.2.2.1 i hi).2.trans (h.2.2.2.1 i hi).2⟩, fun q h1 h2 i hi => (g.2.2.2.2 q h1 h2 i hi).trans (h.2.2.2.2 q h1 h2 i hi)⟩
theorem FrY.w {r : Nat} {a b : OS} (h : FrY r a b) : FrW r a b := ⟨fun q h1 h2 h3 => h.1 q h1 (by omega) (by omega) h3, h.2.1, fun i hi => h.2.2.1 i (by omega), h.2.2.2, fun q h1 h2 i _ => by rw [h.1 q (by omega) (by omega) (by omega) (by omega)]⟩
theorem F43.w {r : Nat} {a b : OS} (h : F43 a b) : FrW r a b := ⟨fun q h1 _ _ => h.1 q h1, h.2.1, fun i hi => h.2.2 i (by omega) (by omega), fun i _ => ⟨by rw [h.1 42 (by decide)], by rw [h.1 43 (by decide)]⟩, fun q h1 _ i _ => by rw [h.1 q (by omega)]⟩
theorem FrW.slot {r : Nat} {a b : OS} {i : Nat} {v : Int32} (h : FrW r a b) (hi : ¬ (i < 43 ∨ i = 44 ∨ 51 < i)) : FrW r a (wI b 0 i v) := by
  refine h.trans ⟨fun q h1 _ _ => wI_of h1, rfl, fun j hj => ?_, fun _ _ => ⟨rfl, rfl⟩, fun q h1 _ j _ => by rw [wI_of (by omega)]⟩
  show (if j = i then v else b.1 0 j) = _
  rw [if_neg (by omega)]
theorem FrW.row {r : Nat} {a b : OS} {q i : Nat} {v : Int32} (h : FrW r a b) (h1 : 37 ≤ q) (h2 : q ≤ 41) (hi : 12 * r ≤ i) : FrW r a (wI b q i v) := by
  refine h.trans ⟨fun x h3 h4 _ => wI_of (by omega), rfl, fun j hj => ?_, fun j _ => ⟨?_, ?_⟩, fun x h3 h4 j hj => ?_⟩
  · rw [wI_of (by omega)]
  · rw [wI_of (by omega)]
  · rw [wI_of (by omega)]
  · show (if x = q then (fun i' => if i' = i then v else b.1 q i') else b.1 x) j = _
    by_cases c : x = q
    · rw [if_pos c]
      show (if j = i then v else b.1 q j) = _
      rw [if_neg (by omega), c]
    · rw [if_neg c]
/-- the reference between clauses: at p, j clauses so far, their codes C -/
def Ys (T : Nat → Int32) (n r : Nat) (m0 : OS) (p j : Nat) (C : List (Int32 × Int32)) (m : OS) : Prop := FrW r m0 m ∧ ((∀ i, i < n → m.1 1 i &&& 255 = T i) ∧ m.1 0 6 = nI r ∧ m.1 0 44 = nI n) ∧ (m.1 0 43 = nI p ∧ m.1 0 45 = 0 ∧ m.1 0 46 = nI j ∧ m.1 0 47 = nI C.length) ∧ cdA (m.1 42) (m.1 43) (160 * r) C ∧ C.length ≤ p ∧ p ≤ n
def Bs (r k pl : Nat) (m0 m : OS) : Prop := FrW r m0 m ∧ m.1 0 45 = -1000 * nI k - nI pl ∧ m.1 0 45 < 0
theorem bs_good {r k pl : Nat} {m0 m : OS} (h : Bs r k pl m0 m) : f11_isGood m = some 0 := by
  unfold f11_isGood f11_isGood_j12
  rw [if_neg (fun e => by have := h.2.2; rw [e] at this; exact absurd this (by decide))]; rfl
theorem Bs.slot {r k pl i : Nat} {m0 m : OS} {v : Int32} (h : Bs r k pl m0 m) (hi : ¬ (i < 43 ∨ i = 44 ∨ 51 < i)) (h45 : i ≠ 45) : Bs r k pl m0 (wI m 0 i v) := by
  refine ⟨h.1.slot hi, ?_, ?_⟩
  · show (if 45 = i then v else m.1 0 45) = _
    rw [if_neg (fun e => h45 e.symm)]; exact h.2.1
  · show (if 45 = i then v else m.1 0 45) < 0
    rw [if_neg (fun e => h45 e.symm)]; exact h.2.2
theorem Bs.row {r k pl q i : Nat} {m0 m : OS} {v : Int32} (h : Bs r k pl m0 m) (h1 : 37 ≤ q) (h2 : q ≤ 41) (hi : 12 * r ≤ i) : Bs r k pl m0 (wI m q i v) := by
  refine ⟨h.1.row h1 h2 hi, ?_, ?_⟩
  · rw [wI_of (by omega)]; exact h.2.1
  · rw [wI_of (by omega)]; exact h.2.2
theorem Bd.s {r k pl : Nat} {m0 m m' : OS} (g : FrW r m0 m) (h : Bd r k pl m m') : Bs r k pl m0 m' := ⟨g.trans h.1.w, h.2.1, h.2.2⟩
theorem BW.s {r k pl : Nat} {m0 m m' : OS} (g : FrW r m0 m) (h : BW k pl m m') : Bs r k pl m0 m' := ⟨g.trans h.1.w, h.2.1, h.2.2⟩
/-- a clause at p -/
def ClLF (T : Nat → Int32) (n r p k pl : Nat) : Prop := (∀ (ask : Int32) (s : OS), (ask = 0 ∨ ask = 1) → RdS T n p s → ∃ x s', f6_readClauseO ask s = some (x, s') ∧ FltC k pl s s') ∧ ∀ (m0 : OS) (j : Nat) (C : List (Int32 × Int32)) (m : OS), j < 12 → Ys T n r m0 p j C m → ∃ m', f11_clause m = some m' ∧ Bs r k pl m0 m'
def ClLO (T : Nat → Int32) (n r p p' : Nat) (L F S : Int32) (cs : List (Int32 × Int32)) : Prop :=
  ((L = 120 ∧ (∃ I J : Nat, I < 20 ∧ J < 12 ∧ F = nI I ∧ S = nI J) ∧ ∀ (ask : Int32) (s : OS), (ask = 0 ∨ ask = 1) → RdS T n p s → ∃ s', f6_readClauseO ask s = some (0, s') ∧ RdS T n p' s' ∧ FrC s s' ∧ s'.1 0 8 = L ∧ s'.1 0 9 = F ∧ s'.1 0 10 = S) ∨
   ((L = 98 ∨ L = 100 ∨ L = 116) ∧ (∃ N : Nat, N < 1000000 ∧ F = nI N ∧ (L = 116 → N ≤ 1000)) ∧ ∃ den : (Nat → Int64) → Int64 × Bool, EvS cs den ∧ ∀ (ask : Int32) (s : OS), (ask = 0 ∨ ask = 1) → RdS T n p s → ∃ x s', f6_readClauseO ask s = some (x, s') ∧ RdS T n p' s' ∧ FrC s s' ∧ s'.1 0 8 = L ∧ (¬ L = 98 → s'.1 0 9 = F) ∧ EvB ask 0 x (s'.1 0 11) (den (s.2 3)))) ∧
  ∀ (m0 : OS) (j : Nat) (C : List (Int32 × Int32)) (m : OS), j < 12 → Ys T n r m0 p j C m → ∃ m', f11_clause m = some m' ∧ Ys T n r m0 p' (j + 1) (C ++ cs) m' ∧ (m'.1 37 (12 * r + j) = L ∧ m'.1 38 (12 * r + j) = F ∧ m'.1 39 (12 * r + j) = S ∧ m'.1 40 (12 * r + j) = nI C.length ∧ m'.1 41 (12 * r + j) = nI (C ++ cs).length) ∧ ∀ q, 37 ≤ q → q ≤ 41 → ∀ i, i < 12 * r + j → m'.1 q i = m.1 q i
theorem c_isCl (c : Int32) : ∃ x, f6_isClauseLetter c = some x ∧ ((x = 1 ∧ (c = 98 ∨ c = 100 ∨ c = 116 ∨ c = 120)) ∨ (x = 0 ∧ ¬ (c = 98 ∨ c = 100 ∨ c = 116 ∨ c = 120))) := by
  unfold f6_isClauseLetter f6_isClauseLetter_j24 f6_isClauseLetter_j29
  by_cases h1 : c = 98
  · rw [if_pos h1]; exact ⟨1, rfl, Or.inl ⟨rfl, Or.inl h1⟩⟩
  · rw [if_neg h1]
    by_cases h2 : c = 100
    · rw [if_pos h2]; exact ⟨1, rfl, Or.inl ⟨rfl, Or.inr (Or.inl h2)⟩⟩
    · rw [if_neg h2]
      by_cases h3 : c = 116
      · rw [if_pos h3]; exact ⟨1, rfl, Or.inl ⟨rfl, Or.inr (Or.inr (Or.inl h3))⟩⟩
      · rw [if_neg h3]
        by_cases h4 : c = 120
        · rw [if_pos h4]; exact ⟨1, rfl, Or.inl ⟨rfl, Or.inr (Or.inr (Or.inr h4))⟩⟩
        · rw [if_neg h4]; exact ⟨0, rfl, Or.inr ⟨rfl, fun e => e.elim h1 (fun e => e.elim h2 (fun e => e.elim h3 h4))⟩⟩
def isCl (c : Int32) : Prop := c = 98 ∨ c = 100 ∨ c = 116 ∨ c = 120
theorem cl_t {c : Int32} (h : isCl c) : f6_isClauseLetter c = some 1 := by
  obtain ⟨x, h1, ⟨rfl, _⟩ | ⟨_, h2⟩⟩ := c_isCl c
  · exact h1
  · exact absurd h h2
theorem cl_f {c : Int32} (h : ¬ isCl c) : f6_isClauseLetter c = some 0 := by
  obtain ⟨x, h1, ⟨_, h2⟩ | ⟨rfl, _⟩⟩ := c_isCl c
  · exact absurd h2 h
  · exact h1
/-- the class's clause up to its letter -/
theorem c_clause {T : Nat → Int32} {n p : Nat} {s : OS} {ask : Int32} (h : RdS T n p s) (hn : n ≤ 160) (hp : p < n) (hL : isCl (hd T n p)) : ∃ s1, RdS T n (p + 1) s1 ∧ FrC s s1 ∧ s1.1 0 8 = hd T n p ∧ s1.1 0 11 = 0 ∧ f6_readClauseO ask s = (if hd T n p = 120 then Option.bind (f6_readTold 19 s1) fun q_57 => Option.bind (f6_require 46 (wI q_57.2 0 9 q_57.1)) fun q_66 => Option.bind (f6_readTold 11 q_66) fun q_73 => some ((0 : Int32), wI q_73.2 0 10 q_73.1) else if hd T n p = 98 then f6_readClauseO_j115 ask s1 else if hd T n p = 116 then f6_readClauseO_j109 ask 1000 s1 else f6_readClauseO_j109 ask 999999 s1) := by
  have h0 : RdS T n p (wI s 0 11 0) := ⟨h.1, h.2.1, h.2.2.1, Or.inl wI_at, h.2.2.2.2⟩
  have hs := c_sign h0 hn (by omega)
  rw [sg_lt hp] at hs
  obtain ⟨s2, hs2⟩ : ∃ s2, s2 = wI (wI s 0 11 0) 0 8 (hd T n p) := ⟨_, rfl⟩
  have h2 : RdS T n p s2 := by rw [hs2]; exact ⟨h.1, h.2.1, h.2.2.1, Or.inl rfl, h.2.2.2.2⟩
  have e8 : s2.1 0 8 = hd T n p := by rw [hs2]; exact wI_at (s := wI s 0 11 0) (r := 0) (i := 8)
  have e11 : s2.1 0 11 = 0 := by rw [hs2]; rfl
  have hF : FrC s s2 := by rw [hs2]; exact ((FrC.refl s).slot (by omega)).slot (by omega)
  obtain ⟨g1, g2, g3⟩ := c_go h2
  refine ⟨_, g1, hF.trans g2.c, ?_, g3.trans e11, ?_⟩
  · show s2.1 0 8 = _
    exact e8
  · unfold f6_readClauseO
    simp only [nm_p]
    rw [hs, Option.bind_some, ← hs2, e8, cl_t hL, Option.bind_some, if_neg (show ¬ (1 : Int32) = 0 by decide)]
    show (if s2.1 0 8 = 120 then _ else if s2.1 0 8 = 98 then _ else if s2.1 0 8 = 116 then _ else _) = _
    rw [e8]
/-- the reference's clause up to its letter -/
theorem r_clause {T : Nat → Int32} {n r p j : Nat} {m0 m : OS} {C : List (Int32 × Int32)} (h : Ys T n r m0 p j C m) (hn : n ≤ 160) (hr : r < 20) (hj : j < 12) (hp : p < n) (hL : isCl (hd T n p)) : ∃ m1, FrW r m m1 ∧ Ys T n r m0 (p + 1) j C m1 ∧ (m1.1 37 (12 * r + j) = hd T n p ∧ m1.1 38 (12 * r + j) = 0 ∧ m1.1 39 (12 * r + j) = 0 ∧ m1.1 40 (12 * r + j) = nI C.length) ∧ (∀ q, 37 ≤ q → q ≤ 41 → ∀ i, i < 12 * r + j → m1.1 q i = m.1 q i) ∧ f11_clause m = (if hd T n p = 100 then f11_clause_j133 (hd T n p) (nI (12 * r + j)) m1 else if hd T n p = 116 then f11_clause_j133 (hd T n p) (nI (12 * r + j)) m1 else f11_clause_j158 (hd T n p) (nI (12 * r + j)) m1) := by
  obtain ⟨hF, ⟨h1, h2, h3⟩, ⟨g1, g2, g3, g4⟩, h5, h6, h7⟩ := id h
  have hw : YW T n m p m := ⟨F43.refl m, h1, h3, g1, g2, h7⟩
  obtain ⟨m1, hm1⟩ : ∃ m1, m1 = wI (wI (wI (wI (wI m 37 (12 * r + j) (hd T n p)) 38 (12 * r + j) 0) 39 (12 * r + j) 0) 40 (12 * r + j) (nI C.length)) 0 43 (nI p + 1) := ⟨_, rfl⟩
  have hFm : FrW r m m1 := by
    rw [hm1]
    exact (((((FrW.refl r m).row (by omega) (by omega) (by omega)).row (by omega) (by omega) (by omega)).row (by omega) (by omega) (by omega)).row (by omega) (by omega) (by omega)).slot (by omega)
  refine ⟨m1, hFm, ⟨hF.trans hFm, ⟨?_, ?_, ?_⟩, ⟨?_, ?_, ?_, ?_⟩, ?_, by omega, by omega⟩, ⟨?_, ?_, ?_, ?_⟩, fun q q1 q2 i hi => ?_, ?_⟩
  · rw [hm1]; exact h1
  · rw [hm1]; exact h2
  · rw [hm1]; exact h3
  · rw [hm1, wI_at, nI_1]
  · rw [hm1]; exact g2
  · rw [hm1]; exact g3
  · rw [hm1]; exact g4
  · rw [hm1]; exact h5
  · rw [hm1]; exact wI_at (s := m) (r := 37) (i := 12 * r + j)
  · rw [hm1]; exact wI_at (s := wI m 37 (12 * r + j) (hd T n p)) (r := 38) (i := 12 * r + j)
  · rw [hm1]; exact wI_at (s := wI (wI m 37 (12 * r + j) (hd T n p)) 38 (12 * r + j) 0) (r := 39) (i := 12 * r + j)
  · rw [hm1]; exact wI_at (s := wI (wI (wI m 37 (12 * r + j) (hd T n p)) 38 (12 * r + j) 0) 39 (12 * r + j) 0) (r := 40) (i := 12 * r + j)
  · have hne : i ≠ 12 * r + j := by omega
    have key : ∀ (a : OS) (q' : Nat) (v : Int32), (wI a q' (12 * r + j) v).1 q i = a.1 q i := fun a q' v => by
      show (if q = q' then (fun i' => if i' = 12 * r + j then v else a.1 q' i') else a.1 q) i = _
      by_cases c : q = q'
      · rw [if_pos c]
        show (if i = 12 * r + j then v else a.1 q' i) = _
        rw [if_neg hne, c]
      · rw [if_neg c]
    rw [hm1, wI_of (by omega), key, key, key, key]
  · have q0 : ∀ (a : OS) (q' i' : Nat) (v : Int32), q' ≠ 0 → (wI a q' i' v).1 0 = a.1 0 := fun a q' i' v hq => wI_of (fun e => hq e.symm)
    have body : f11_clause_j59 (hd T n p) m = (if hd T n p = 100 then f11_clause_j133 (hd T n p) (nI (12 * r + j)) m1 else if hd T n p = 116 then f11_clause_j133 (hd T n p) (nI (12 * r + j)) m1 else f11_clause_j158 (hd T n p) (nI (12 * r + j)) m1) := by
      unfold f11_clause_j59
      rw [w_good hw, Option.bind_some, if_neg (show ¬ (1 : Int32) = 0 by decide), h2, g3, show (12 : Int32) = nI 12 from rfl, pk_mul, nI_add]
      simp only [nm_p, nI_clamp (n := 12 * r + j) (by omega), inb_n (show 12 * r + j < 240 by omega) (by omega : 240 < 2 ^ 31), chk_p]
      rw [q0 _ 39 _ _ (by decide), q0 _ 38 _ _ (by decide), q0 _ 37 _ _ (by decide), q0 _ 40 _ _ (by decide), q0 _ 39 _ _ (by decide), q0 _ 38 _ _ (by decide), q0 _ 37 _ _ (by decide), g4, g1, ← hm1]
    have j41 : f11_clause_j41 (hd T n p) m = f11_clause_j59 (hd T n p) m := by
      unfold f11_clause_j41
      rw [g3, if_neg (show ¬ nI j = (12 : Int32) from fun e => by have := (nI_eq (a := j) (b := 12) (by omega) (by omega)).mp e; omega)]
    rw [← body, ← j41]
    unfold f11_clause
    rw [w_here hw hn, Option.bind_some]
    rcases hL with c | c | c | c
    · rw [if_pos c]
    · rw [if_neg (show ¬ hd T n p = 98 by rw [c]; decide), if_pos c]
    · rw [if_neg (show ¬ hd T n p = 98 by rw [c]; decide), if_neg (show ¬ hd T n p = 100 by rw [c]; decide), if_pos c]
    · rw [if_neg (show ¬ hd T n p = 98 by rw [c]; decide), if_neg (show ¬ hd T n p = 100 by rw [c]; decide), if_neg (show ¬ hd T n p = 116 by rw [c]; decide), if_pos c]
/-- the reference's clause at its end -/
theorem r_clend {T : Nat → Int32} {n r p j : Nat} {m0 m : OS} {C : List (Int32 × Int32)} (h : Ys T n r m0 p j C m) (hr : r < 20) (hj : j < 12) : ∃ m1, f11_clause_j222 (nI (12 * r + j)) m = some m1 ∧ Ys T n r m0 p (j + 1) C m1 ∧ m1.1 41 (12 * r + j) = nI C.length ∧ (∀ q, 37 ≤ q → q ≤ 40 → m1.1 q = m.1 q) ∧ ∀ i, i < 12 * r + j → m1.1 41 i = m.1 41 i := by
  obtain ⟨hF, ⟨h1, h2, h3⟩, ⟨g1, g2, g3, g4⟩, h5, h6, h7⟩ := h
  unfold f11_clause_j222
  simp only [nm_p, nI_clamp (n := 12 * r + j) (by omega), inb_n (show 12 * r + j < 240 by omega) (by omega : 240 < 2 ^ 31), chk_p]
  refine ⟨_, rfl, ⟨(hF.row (by omega) (by omega) (by omega)).slot (by omega), ⟨h1, h2, h3⟩, ⟨g1, g2, ?_, g4⟩, h5, h6, h7⟩, ?_, fun q q1 q2 => ?_, fun i hi => ?_⟩
  · show m.1 0 46 + 1 = _
    rw [g3, nI_1]
  · show (if 12 * r + j = 12 * r + j then m.1 0 47 else _) = _
    rw [if_pos rfl, g4]
  · rw [wI_of (by omega), wI_of (by omega)]
  · show (if i = 12 * r + j then _ else m.1 41 i) = _
    rw [if_neg (by omega)]
theorem r_clbad {r k pl j : Nat} {m0 m : OS} (h : Bs r k pl m0 m) (hr : r < 20) (hj : j < 12) : ∃ m1, f11_clause_j222 (nI (12 * r + j)) m = some m1 ∧ Bs r k pl m0 m1 := by
  unfold f11_clause_j222
  simp only [nm_p, nI_clamp (n := 12 * r + j) (by omega), inb_n (show 12 * r + j < 240 by omega) (by omega : 240 < 2 ^ 31), chk_p]
  exact ⟨_, rfl, (h.row (by omega) (by omega) (by omega)).slot (by omega) (by omega)⟩
theorem Ys.w {T : Nat → Int32} {n r p j : Nat} {m0 m : OS} {C : List (Int32 × Int32)} (h : Ys T n r m0 p j C m) : YW T n m p m := ⟨F43.refl m, h.2.1.1, h.2.1.2.2, h.2.2.1.1, h.2.2.1.2.1, h.2.2.2.2.2⟩
theorem Ys.go {T : Nat → Int32} {n r p p' j : Nat} {m0 m m' : OS} {C : List (Int32 × Int32)} (h : Ys T n r m0 p j C m) (g : YW T n m p' m') (hp : p ≤ p') : Ys T n r m0 p' j C m' := by
  obtain ⟨hF, ⟨h1, h2, h3⟩, ⟨g1, g2, g3, g4⟩, h5, h6, h7⟩ := h
  obtain ⟨k1, k2, k3, k4, k5, k6⟩ := g
  refine ⟨hF.trans k1.w, ⟨k2, by rw [k1.2.2 6 (by decide) (by decide)]; exact h2, k3⟩, ⟨k4, k5, by rw [k1.2.2 46 (by decide) (by decide)]; exact g3, by rw [k1.2.2 47 (by decide) (by decide)]; exact g4⟩, ?_, by omega, k6⟩
  rw [k1.1 42 (by decide), k1.1 43 (by decide)]; exact h5
theorem Ys.row {T : Nat → Int32} {n r p j q i : Nat} {m0 m : OS} {C : List (Int32 × Int32)} {v : Int32} (h : Ys T n r m0 p j C m) (h1 : 37 ≤ q) (h2 : q ≤ 41) (hi : 12 * r ≤ i) : Ys T n r m0 p j C (wI m q i v) := by
  obtain ⟨hF, ⟨k1, k2, k3⟩, k4, k5, k6⟩ := h
  have e : ∀ x, x ≠ q → (wI m q i v).1 x = m.1 x := fun x hx => wI_of hx
  refine ⟨hF.row h1 h2 hi, ?_, ?_, ?_, k6⟩
  · rw [e 1 (by omega), e 0 (by omega)]; exact ⟨k1, k2, k3⟩
  · rw [e 0 (by omega)]; exact k4
  · rw [e 42 (by omega), e 43 (by omega)]; exact k5
