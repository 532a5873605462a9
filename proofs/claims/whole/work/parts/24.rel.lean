-- what holds between the class and the reference behind k calls
/-- a whole number between -/
def bw (lo hi : Int) (x : Int32) : Prop := lo ≤ x.toInt ∧ x.toInt ≤ hi
/-- the cabinets' gases and the day -/
def RelV (gC : Nat → Int32) (tC : Int32) (gM : Nat → Int32) (tM : Int32) : Prop := gC = gM ∧ tC = tM ∧ bw 0 99999 tC ∧ ∀ i, bw 0 65535 (gC i)
/-- the pieces -/
def RelP (n : Nat) (s4 : OS) (nM : Int32) (a12 a13 a14 a15 a16 a17 a18 a19 : Nat → Int32) (b21 b22 b23 b24 : Nat → Int64) : Prop :=
  n ≤ 150 ∧ s4.1 0 10 = nI n ∧ nM = nI n ∧ s4.1 1 = a12 ∧ s4.1 2 = a13 ∧ s4.1 3 = a14 ∧ s4.1 4 = a15 ∧ s4.1 5 = a16 ∧ s4.1 6 = a17 ∧ s4.1 7 = a18 ∧ s4.1 8 = a19 ∧
  (∀ p, p < n → bw 0 7 (a12 p) ∧ bw 0 1000000000 (a14 p) ∧ bw 0 65535 (a15 p) ∧ bw 0 12 (a16 p) ∧ bw 0 1 (a19 p)) ∧
  ∀ j, j < 8 → s4.2 9 j = b21 j ∧ s4.2 9 (8 + j) = b22 j ∧ s4.2 9 (16 + j) = b23 j ∧ s4.2 9 (24 + j) = b24 j
/-- the diary: behind k calls, n pieces -/
def RelD (k n : Nat) (s1 : OS) (cM : Int32) (a26 a27 a28 a29 a30 : Nat → Int32) : Prop :=
  ∃ d : Nat, d ≤ k + n ∧ s1.1 0 5 = nI d ∧ cM = nI d ∧ s1.1 1 = a26 ∧ s1.1 2 = a27 ∧ s1.1 3 = a28 ∧ s1.1 4 = a29 ∧ s1.1 5 = a30
/-- what is missing by an asker, over the first c loans -/
def misS (bo mi : Nat → Int32) (a : Int32) : Nat → Int64
  | 0 => 0
  | c + 1 => misS bo mi a c + (if bo c = a then (mi c).toInt64 else 0)
/-- askers and loans -/
def RelL (n : Nat) (s2 : OS) (nA nL : Int32) (a31 a32 : Nat → Int32) (b33 : Nat → Int64) (a59 a60 a61 a62 a63 a64 : Nat → Int32) : Prop :=
  ∃ a c : Nat, a ≤ 20 ∧ c ≤ 100 ∧ s2.1 0 2 = nI a ∧ nA = nI a ∧ s2.1 0 9 = nI c ∧ nL = nI c ∧ s2.1 1 = a31 ∧ s2.1 2 = a32 ∧ s2.1 4 = a59 ∧ s2.1 5 = a60 ∧ s2.1 6 = a61 ∧ s2.1 7 = a62 ∧ s2.1 8 = a63 ∧ s2.1 9 = a64 ∧
  (∀ i, i < c → (∃ p, p < n ∧ a59 i = nI p) ∧ (∃ q, q < a ∧ a60 i = nI q) ∧ (a63 i = -1 → a64 i = 0)) ∧ (∀ q, q < 20 → b33 q = misS a60 a64 (nI q) c)
/-- what was weighed -/
def RelS (s7 : OS) (nW : Int32) (a65 a66 a67 a68 : Nat → Int32) : Prop :=
  ∃ w : Nat, w ≤ 200 ∧ s7.1 0 4 = nI w ∧ nW = nI w ∧ s7.1 1 = a65 ∧ s7.1 2 = a66 ∧ ∀ i, s7.1 3 i = a67 i - a68 i ∧ s7.1 4 i = a67 i + a68 i
/-- the tape -/
def RelT (s8 : OS) (tM : Int32) (a1 : Nat → Int32) : Prop :=
  ∃ t : Nat, t ≤ 400 ∧ s8.1 0 1 = nI t ∧ tM = nI t ∧ ∀ i, i < 400 → bw 0 255 (s8.1 1 i) ∧ a1 i &&& 255 = s8.1 1 i
/-- ways, gifts, sights -/
def RelW (s9 : OS) (nG nS : Int32) (a78 a80 a81 a82 a83 a84 : Nat → Int32) : Prop :=
  ∃ g t : Nat, g ≤ 40 ∧ t ≤ 100 ∧ s9.1 0 6 = nI g ∧ nG = nI g ∧ s9.1 0 7 = nI (g + t) ∧ nS = nI t ∧ s9.1 3 = a80 ∧
  (∀ i, i < 256 → (s9.1 1 i = 0 ∧ a78 i = 1000000) ∨ (bw 1 1000 (s9.1 1 i) ∧ a78 i = s9.1 1 i)) ∧ (∀ i j, i < 16 → j < 16 → s9.1 1 (i * 16 + j) = s9.1 1 (j * 16 + i)) ∧
  (∀ i, i < g → bw 0 99999 (a80 i) ∧ bw 0 15 (a81 i)) ∧ (∀ i, i < t → (∃ q, q < g ∧ a82 i = nI q) ∧ bw 0 15 (a83 i) ∧ bw 0 99999 (a84 i)) ∧
  ∀ x y z : Int32, (∃ i, i < g + t ∧ s9.1 4 i = x ∧ s9.1 5 i = y ∧ s9.1 6 i = z) ↔ ((∃ i, i < g ∧ nI i = x ∧ a81 i = y ∧ a80 i = z) ∨ ∃ i, i < t ∧ a82 i = x ∧ a83 i = y ∧ a84 i = z)
/-- the asks -/
def RelA (s0 : OS) (nA lM : Int32) (a85 a86 a87 : Nat → Int32) : Prop :=
  ∃ a : Nat, a ≤ 6 ∧ s0.1 0 9 = nI a ∧ nA = nI a ∧ s0.1 0 11 = lM ∧ bw 0 1000000 lM ∧ s0.1 1 = a85 ∧ s0.1 2 = a86 ∧ s0.1 3 = a87 ∧ ∀ i, i < a → bw 1 1000000000 (a85 i) ∧ bw 1 1000 (a86 i) ∧ bw 0 65535 (a87 i)
def mkB (b : Nat → Bool) : Nat → Nat
  | 0 => 0
  | i + 1 => mkB b i ||| (if b i = true then 2 ^ i else 0)
/-- what each thing may be: c things, the class's pieces in their order, the reference's as told; marks of both that name the same pieces -/
def MixR (c n : Nat) (sp sm : Nat → Int32) (an : Int32) (a71 a76 a77 : Nat → Int32) : Prop :=
  ∃ (A : Nat) (ps pp : Nat → Nat) (bC bM bS : Nat → Nat → Bool), an = nI A ∧ A < 2 ^ 30 ∧ (∀ j, j < c → sp j = nI (ps j) ∧ ps j < n ∧ a71 j = nI (pp j) ∧ pp j < n) ∧
    (∀ i j, i < j → j < c → ps i < ps j) ∧ (∀ i j, i < c → j < c → pp i = pp j → i = j) ∧
    ∀ i, i < c → (sm i = nI (mkB (bC i) 16) ∧ a76 i = nI (mkB (bM i) 16) ∧ a77 i = nI (mkB (bS i) 16)) ∧ (∀ j, c ≤ j → bC i j = false ∧ bM i j = false) ∧
      (∀ u, (∃ j, j < c ∧ bC i j = true ∧ ps j = u) ↔ ∃ j, j < c ∧ bM i j = true ∧ pp j = u) ∧
      (A = 0 → ∀ j, bM i j = false) ∧ (0 < A → (∃ j, j < c ∧ bM i j = true) ∧ ∀ j, j < c → (bS i j = true ↔ ∀ j', bM i j' = true → j' = j))
def RelM (n : Nat) (s3 : OS) (nT an : Int32) (a71 a76 a77 : Nat → Int32) : Prop :=
  ∃ c : Nat, c ≤ 6 ∧ s3.1 0 3 = nI c ∧ nT = nI c ∧ MixR c n (s3.1 1) (s3.1 3) an a71 a76 a77
theorem RelM.up {n n' : Nat} {s3 : OS} {nT an : Int32} {a71 a76 a77 : Nat → Int32} (h : RelM n s3 nT an a71 a76 a77) (hn : n ≤ n') : RelM n' s3 nT an a71 a76 a77 := by
  obtain ⟨c, h1, h2, h3, A, ps, pp, bC, bM, bS, g1, g2, g3, g4⟩ := h
  exact ⟨c, h1, h2, h3, A, ps, pp, bC, bM, bS, g1, g2, fun j hj => by
    obtain ⟨z1, z2, z3, z4⟩ := g3 j hj
    exact ⟨z1, by omega, z3, by omega⟩, g4⟩
/-- the class's reader: the text T of n bytes, at the place p, without a fault -/
def RdS (T : Nat → Int32) (n p : Nat) (s : OS) : Prop := s.1 0 3 = nI n ∧ s.1 0 4 = nI p ∧ s.1 0 6 = 0 ∧ (s.1 0 11 = 0 ∨ s.1 0 11 = 1) ∧ ∀ i, i < n → s.1 1 i = T i
/-- what stays while a clause is read -/
def FrC (s s' : OS) : Prop := (∀ r, r ≠ 0 → s'.1 r = s.1 r) ∧ s'.2 = s.2 ∧ ∀ i, i ≠ 4 → i ≠ 6 → i ≠ 7 → i ≠ 8 → i ≠ 9 → i ≠ 10 → i ≠ 11 → s'.1 0 i = s.1 0 i
/-- the codes cs lie from i on -/
def cdA (a b : Nat → Int32) : Nat → List (Int32 × Int32) → Prop
  | _, [] => True
  | i, x :: cs => a i = x.1 ∧ b i = x.2 ∧ cdA a b (i + 1) cs
/-- the letters in the class's order -/
def letC (j : Nat) : Int32 := if j = 0 then 102 else if j = 1 then 104 else if j = 2 then 107 else if j = 3 then 119 else if j = 4 then 109 else if j = 5 then 108 else if j = 6 then 97 else if j = 7 then 115 else 100
/-- what stays while the reference asks -/
def FrE (m m' : OS) : Prop := (∀ r, r ≠ 57 → m'.1 r = m.1 r) ∧ ∀ r, r ≠ 56 → m'.2 r = m.2 r
def EnvM (m : OS) (env : Nat → Int64) : Prop := ∀ m', FrE m m' → ∀ j, j < 9 → f11_valueOf (letC j) m' = some (env j)
/-- the codes cs, run by the reference, put what den says on the stack -/
def EvS (cs : List (Int32 × Int32)) (den : (Nat → Int64) → Int64 × Bool) : Prop := ∀ (kk base : Int32) (i c hi : Nat) (env : Nat → Int64) (m : OS), inb kk 240 = true → cdA (m.1 42) (m.1 43) i cs → base + m.1 41 kk.toNatClampNeg = nI hi → i + cs.length ≤ hi → hi ≤ 3200 → c + cs.length ≤ 200 → EnvM m env →
  ∃ m', loop (f11_holds_l21 kk base) (nI c, nI i, m) = loop (f11_holds_l21 kk base) (nI (c + 1), nI (i + cs.length), m') ∧ FrE m m' ∧ m'.2 56 c = (den env).1 ∧ m'.1 57 c = (if (den env).2 = true then 1 else 0) ∧ ∀ x, x < c → m'.2 56 x = m.2 56 x ∧ m'.1 57 x = m.1 57 x
/-- one clause on both sides: the text T of n bytes, read from st on; its letter, numbers, codes -/
def ClOne (T : Nat → Int32) (n st : Nat) (L F S cf ct : Int32) (a b : Nat → Int32) (base : Nat) : Prop :=
  (L = 120 ∧ (∃ I J : Nat, I < 20 ∧ J < 12 ∧ F = nI I ∧ S = nI J) ∧ ∀ (p : Nat) (s : OS), RdS T n p s → ∃ (p' : Nat) (s' : OS), f6_asksClause (nI st) s = some (0, s') ∧ FrC s s' ∧ RdS T n p' s' ∧ s'.1 0 8 = L ∧ s'.1 0 9 = F ∧ s'.1 0 10 = S) ∨
  ((L = 98 ∨ L = 100 ∨ L = 116) ∧ (∃ N : Nat, N < 1000000 ∧ F = nI N ∧ (L = 116 → N ≤ 1000)) ∧ ∃ (cs : List (Int32 × Int32)) (den : (Nat → Int64) → Int64 × Bool) (c0 : Nat), EvS cs den ∧ cf = nI c0 ∧ ct = nI (c0 + cs.length) ∧ c0 + cs.length ≤ 160 ∧ cdA a b (base + c0) cs ∧
    ∀ (p : Nat) (s : OS), RdS T n p s → ∃ (x : Int32) (p' : Nat) (s' : OS), f6_asksClause (nI st) s = some (x, s') ∧ FrC s s' ∧ RdS T n p' s' ∧ s'.1 0 8 = L ∧ (¬ L = 98 → s'.1 0 9 = F) ∧ ((x = 1 ∧ (den (s.2 3)).2 = false ∧ (den (s.2 3)).1 = 1) ∨ (x = 0 ∧ ¬ ((den (s.2 3)).2 = false ∧ (den (s.2 3)).1 = 1))))
/-- what the clauses of the rules say on both sides -/
def ClR (r : Nat) (tx ln st a36 a37 a38 a39 a40 a41 a42 a43 : Nat → Int32) : Prop := ∀ i, i < r → ∃ n k : Nat, n ≤ 160 ∧ ln i = nI n ∧ a36 i = nI k ∧ (∀ x, x < n → bw 0 255 (tx (160 * i + x))) ∧ ∀ j, j < k → ∃ p : Nat, p ≤ n ∧ st (12 * i + j) = nI p ∧ ClOne (fun x => tx (160 * i + x)) n p (a37 (12 * i + j)) (a38 (12 * i + j)) (a39 (12 * i + j)) (a40 (12 * i + j)) (a41 (12 * i + j)) a42 a43 (160 * i)
def RelB (s5 : OS) (nR : Int32) (a34 a35 a36 a37 a38 a39 a40 a41 a42 a43 : Nat → Int32) : Prop :=
  ∃ r : Nat, r ≤ 20 ∧ s5.1 0 8 = nI r ∧ nR = nI r ∧ s5.1 3 = a34 ∧ s5.1 4 = a35 ∧ s5.1 5 = a36 ∧ (∀ i, i < r → bw 1 12 (a36 i)) ∧ ClR r (s5.1 1) (s5.1 2) (s5.1 6) a36 a37 a38 a39 a40 a41 a42 a43
def Rel (k : Nat) (s0 s1 s2 s3 s4 s5 _s6 s7 s8 s9 s10 s11 : OS) : Prop :=
  ∃ n : Nat, RelV (s10.1 1) (s10.1 0 9) (s11.1 20) (s11.1 0 2) ∧
   RelP n s4 (s11.1 0 3) (s11.1 12) (s11.1 13) (s11.1 14) (s11.1 15) (s11.1 16) (s11.1 17) (s11.1 18) (s11.1 19) (s11.2 21) (s11.2 22) (s11.2 23) (s11.2 24) ∧
   RelD k n s1 (s11.1 0 24) (s11.1 26) (s11.1 27) (s11.1 28) (s11.1 29) (s11.1 30) ∧
   RelL n s2 (s11.1 0 4) (s11.1 0 5) (s11.1 31) (s11.1 32) (s11.2 33) (s11.1 59) (s11.1 60) (s11.1 61) (s11.1 62) (s11.1 63) (s11.1 64) ∧
   RelS s7 (s11.1 0 7) (s11.1 65) (s11.1 66) (s11.1 67) (s11.1 68) ∧ RelT s8 (s11.1 0 1) (s11.1 1) ∧
   RelW s9 (s11.1 0 8) (s11.1 0 9) (s11.1 78) (s11.1 80) (s11.1 81) (s11.1 82) (s11.1 83) (s11.1 84) ∧
   RelA s0 (s11.1 0 10) (s11.1 0 89) (s11.1 85) (s11.1 86) (s11.1 87) ∧ RelM n s3 (s11.1 0 68) (s11.1 0 69) (s11.1 71) (s11.1 76) (s11.1 77) ∧
   RelB s5 (s11.1 0 6) (s11.1 34) (s11.1 35) (s11.1 36) (s11.1 37) (s11.1 38) (s11.1 39) (s11.1 40) (s11.1 41) (s11.1 42) (s11.1 43)
theorem RelD.up {k n n' : Nat} {s1 : OS} {cM : Int32} {a26 a27 a28 a29 a30 : Nat → Int32} (h : RelD k n s1 cM a26 a27 a28 a29 a30) (hn : n ≤ n') : RelD (k + 1) n' s1 cM a26 a27 a28 a29 a30 := by
  obtain ⟨d, h1, h2⟩ := h
  exact ⟨d, by omega, h2⟩
theorem RelL.up {n n' : Nat} {s2 : OS} {nA nL : Int32} {a31 a32 : Nat → Int32} {b33 : Nat → Int64} {a59 a60 a61 a62 a63 a64 : Nat → Int32} (h : RelL n s2 nA nL a31 a32 b33 a59 a60 a61 a62 a63 a64) (hn : n ≤ n') : RelL n' s2 nA nL a31 a32 b33 a59 a60 a61 a62 a63 a64 := by
  obtain ⟨a, c, h1, h2, h3, h4, h5, h6, h7, h8, h9, h10, h11, h12, h13, h14, h15, h16⟩ := h
  exact ⟨a, c, h1, h2, h3, h4, h5, h6, h7, h8, h9, h10, h11, h12, h13, h14, fun i hi => by
    obtain ⟨⟨p, g1, g2⟩, g3⟩ := h15 i hi
    exact ⟨⟨p, by omega, g2⟩, g3⟩, h16⟩
theorem Rel.same {k : Nat} {s0 s1 s2 s3 s4 s5 s6 s7 s8 s9 s10 s11 s6' : OS} (h : Rel k s0 s1 s2 s3 s4 s5 s6 s7 s8 s9 s10 s11) : Rel (k + 1) s0 s1 s2 s3 s4 s5 s6' s7 s8 s9 s10 s11 := by
  obtain ⟨n, h1, h2, h3, h4⟩ := h
  exact ⟨n, h1, h2, h3.up (Nat.le_refl _), h4⟩
