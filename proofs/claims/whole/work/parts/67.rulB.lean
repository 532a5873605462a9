-- rules: the reference's reader, its smallest steps
def tpS : List Int32 → Int32
  | [] => 0
  | c :: _ => c
def stk (a : Nat → Int32) : List Int32 → Prop
  | [] => True
  | c :: σ => a σ.length = c ∧ stk a σ
theorem stk_upd {a a' : Nat → Int32} : ∀ (σ : List Int32), (∀ i, i < σ.length → a' i = a i) → stk a σ → stk a' σ
  | [], _, _ => trivial
  | c :: σ, h, g => ⟨(h σ.length (Nat.lt_succ_self _)).trans g.1, stk_upd σ (fun i hi => h i (Nat.lt_succ_of_lt hi)) g.2⟩
theorem cdA_upd {a b a' b' : Nat → Int32} : ∀ (C : List (Int32 × Int32)) (i : Nat), (∀ j, i ≤ j → j < i + C.length → a' j = a j ∧ b' j = b j) → cdA a b i C → cdA a' b' i C
  | [], _, _, _ => trivial
  | x :: C, i, h, g => by
    have h0 := h i (Nat.le_refl _) (by show i < i + (C.length + 1); omega)
    exact ⟨h0.1.trans g.1, h0.2.trans g.2.1, cdA_upd C (i + 1) (fun j h1 h2 => h j (by omega) (by show j < i + (C.length + 1); omega)) g.2.2⟩
theorem cdA_app {a b : Nat → Int32} : ∀ (C D : List (Int32 × Int32)) (i : Nat), cdA a b i (C ++ D) ↔ cdA a b i C ∧ cdA a b (i + C.length) D
  | [], D, i => ⟨fun h => ⟨trivial, h⟩, fun h => h.2⟩
  | x :: C, D, i => by
    show (a i = x.1 ∧ b i = x.2 ∧ cdA a b (i + 1) (C ++ D)) ↔ (a i = x.1 ∧ b i = x.2 ∧ cdA a b (i + 1) C) ∧ cdA a b (i + (C.length + 1)) D
    rw [cdA_app C D (i + 1), show i + 1 + C.length = i + (C.length + 1) by omega]
    exact ⟨fun ⟨h1, h2, h3, h4⟩ => ⟨⟨h1, h2, h3⟩, h4⟩, fun ⟨⟨h1, h2, h3⟩, h4⟩ => ⟨h1, h2, h3, h4⟩⟩
/-- what stays while the reference reads a clause of the rules r -/
def FrY (r : Nat) (m m' : OS) : Prop := (∀ q, q ≠ 0 → q ≠ 42 → q ≠ 43 → q ≠ 53 → m'.1 q = m.1 q) ∧ m'.2 = m.2 ∧ (∀ i, (i < 43 ∨ i = 44 ∨ i = 46 ∨ 51 < i) → m'.1 0 i = m.1 0 i) ∧ ∀ i, i < 160 * r → m'.1 42 i = m.1 42 i ∧ m'.1 43 i = m.1 43 i
theorem FrY.refl (r : Nat) (m : OS) : FrY r m m := ⟨fun _ _ _ _ _ => rfl, rfl, fun _ _ => rfl, fun _ _ => ⟨rfl, rfl⟩⟩
theorem FrY.trans {r : Nat} {a b c : OS} (h : FrY r a b) (g : FrY r b c) : FrY r a c := ⟨fun q h1 h2 h3 h4 => (g.1 q h1 h2 h3 h4).trans (h.1 q h1 h2 h3 h4), g.2.1.trans h.2.1, fun i hi => (g.2.2.1 i hi).trans (h.2.2.1 i hi), fun i hi => ⟨(g.2.2.2 i hi).1.trans (h.2.2.2 i hi).1, (g.2.2.2 i hi).2.trans (h.2.2.2 i hi).2⟩⟩
theorem FrY.slot {r : Nat} {a b : OS} {i : Nat} {v : Int32} (h : FrY r a b) (hi : ¬ (i < 43 ∨ i = 44 ∨ i = 46 ∨ 51 < i)) : FrY r a (wI b 0 i v) := by
  refine ⟨fun q h1 h2 h3 h4 => (wI_of h1).trans (h.1 q h1 h2 h3 h4), h.2.1, fun j hj => ?_, fun j hj => h.2.2.2 j hj⟩
  show (if j = i then v else b.1 0 j) = _
  rw [if_neg (fun e => hi (by rw [← e]; exact hj))]; exact h.2.2.1 j hj
/-- the reference's reader: at p, o open, stack σ, codes C so far, behind a ] or a factor or not; no more than b codes and stacked -/
def YB (T : Nat → Int32) (n r : Nat) (m0 : OS) (b p o : Nat) (σ : List Int32) (C : List (Int32 × Int32)) (bh : Int32) (m : OS) : Prop :=
  FrY r m0 m ∧ ((∀ i, i < n → m.1 1 i &&& 255 = T i) ∧ m.1 0 6 = nI r ∧ m.1 0 44 = nI n) ∧ (m.1 0 43 = nI p ∧ m.1 0 45 = 0 ∧ m.1 0 47 = nI C.length ∧ m.1 0 48 = nI o ∧ m.1 0 49 = nI σ.length ∧ m.1 0 50 = 0 ∧ m.1 0 51 = bh) ∧ stk (m.1 53) σ ∧ cdA (m.1 42) (m.1 43) (160 * r) C ∧ C.length + σ.length ≤ b ∧ p ≤ n
abbrev Yd (T : Nat → Int32) (n r : Nat) (m0 : OS) (p o : Nat) (σ : List Int32) (C : List (Int32 × Int32)) (bh : Int32) (m : OS) : Prop := YB T n r m0 p p o σ C bh m
/-- a fault has been told -/
def Bd (r k pl : Nat) (m0 m : OS) : Prop := FrY r m0 m ∧ m.1 0 45 = -1000 * nI k - nI pl ∧ m.1 0 45 < 0
theorem bad_neg {k pl : Nat} (h1 : 0 < k) (h2 : k < 6) (h3 : pl ≤ 200) : (-1000 : Int32) * nI k - nI pl < 0 := by
  have hk : ∃ q : Nat, q ≤ 5000 ∧ (-1000 : Int32) * nI k = -nI q ∧ 1000 ≤ q := by
    have : k = 1 ∨ k = 2 ∨ k = 3 ∨ k = 4 ∨ k = 5 := by omega
    rcases this with rfl | rfl | rfl | rfl | rfl
    · exact ⟨1000, by omega, by decide, by omega⟩
    · exact ⟨2000, by omega, by decide, by omega⟩
    · exact ⟨3000, by omega, by decide, by omega⟩
    · exact ⟨4000, by omega, by decide, by omega⟩
    · exact ⟨5000, by omega, by decide, by omega⟩
  obtain ⟨q, hq, e, hq2⟩ := hk
  rw [e, Int32.lt_iff_toInt_lt, Int32.toInt_sub, Int32.toInt_neg, nI_toInt (by omega), nI_toInt (by omega), Int.bmod_eq_of_le (n := -(q : Int)) (by omega) (by omega), Int.bmod_eq_of_le (by omega) (by omega)]
  have : (0 : Int32).toInt = 0 := rfl
  omega
section
variable {T : Nat → Int32} {n r b p o : Nat} {m0 m : OS} {σ : List Int32} {C : List (Int32 × Int32)} {bh : Int32}
theorem y_here (h : YB T n r m0 b p o σ C bh m) (hn : n ≤ 160) : f11_here m = some (hd T n p) := by
  obtain ⟨_, ⟨h1, _, h2⟩, ⟨h3, _⟩, _, _, _, h4⟩ := h
  unfold f11_here f11_here_j28 hd
  rw [h2, h3]
  by_cases c : p < n
  · rw [if_pos c, if_neg (nI_ge c (by omega)), nI_clamp (by omega), inb_n (show p < 400 by omega) (by omega), chk_p, nm_p, h1 p c]
  · rw [if_neg c, if_pos (nI_le (by omega) (by omega))]
theorem y_good (h : YB T n r m0 b p o σ C bh m) : f11_isGood m = some 1 := by
  unfold f11_isGood f11_isGood_j12
  rw [if_pos h.2.2.1.2.1]; rfl
theorem b_good {k pl : Nat} (h : Bd r k pl m0 m) : f11_isGood m = some 0 := by
  unfold f11_isGood f11_isGood_j12
  rw [if_neg (fun e => by have := h.2.2; rw [e] at this; exact absurd this (by decide))]; rfl
theorem y_len (h : YB T n r m0 b p o σ C bh m) : C.length + σ.length ≤ b ∧ p ≤ n := h.2.2.2.2.2
theorem y_top (h : YB T n r m0 b p o σ C bh m) (hb : b ≤ 190) : f11_top m = some (tpS σ) := by
  obtain ⟨_, _, ⟨_, _, _, _, h3, _⟩, h4, _, h5, h6⟩ := h
  unfold f11_top f11_top_j22
  rw [h3]
  cases σ with
  | nil => rw [if_pos (show nI ([] : List Int32).length ≤ 0 by decide)]; rfl
  | cons c σ =>
    have hl : (c :: σ).length = σ.length + 1 := rfl
    rw [hl] at h5 ⊢
    rw [if_neg (show ¬ nI (σ.length + 1) ≤ 0 from nI_ge (a := 0) (b := σ.length + 1) (by omega) (by omega)), ← nI_1, add_sub1, nI_clamp (by omega), inb_n (show σ.length < 200 by omega) (by omega), chk_p, nm_p, h4.1]; rfl
theorem y_wrongs (h : YB T n r m0 b p o σ C bh m) (k pl : Int32) : f11_wrongs k pl m = some (wI m 0 45 (-1000 * k - pl)) := by
  unfold f11_wrongs f11_wrongs_j22
  rw [h.2.2.1.2.1, if_pos (show (0 : Int32) ≤ 0 by decide), nm_p]
theorem y_bd (h : YB T n r m0 b p o σ C bh m) {k pl : Nat} (h1 : 0 < k) (h2 : k < 6) (h3 : pl ≤ 200) : Bd r k pl m0 (wI m 0 45 (-1000 * nI k - nI pl)) := by
  refine ⟨h.1.slot (by omega), wI_at, ?_⟩
  rw [wI_at]; exact bad_neg h1 h2 h3
theorem Bd.slot {k pl i : Nat} {v : Int32} (h : Bd r k pl m0 m) (hi : ¬ (i < 43 ∨ i = 44 ∨ i = 46 ∨ 51 < i)) (h45 : i ≠ 45) : Bd r k pl m0 (wI m 0 i v) := by
  refine ⟨h.1.slot hi, ?_, ?_⟩
  · show (if 45 = i then v else m.1 0 45) = _
    rw [if_neg (fun e => h45 e.symm)]; exact h.2.1
  · show (if 45 = i then v else m.1 0 45) < 0
    rw [if_neg (fun e => h45 e.symm)]; exact h.2.2
theorem y_puts (h : YB T n r m0 b p o σ C bh m) (hb : b ≤ 190) (hp : p < n) (c : Int32) : ∃ m1, f11_puts c m = some m1 ∧ YB T n r m0 (b + 1) (p + 1) o (c :: σ) C bh m1 := by
  obtain ⟨hF, ⟨h1, h2, h3⟩, ⟨g1, g2, g3, g4, g5, g6, g7⟩, h4, h5, h6, h7⟩ := h
  unfold f11_puts
  rw [g5, inb_n (show σ.length < 200 by omega) (by omega), chk_p]
  simp only [nm_p, nI_clamp (n := σ.length) (by omega)]
  refine ⟨_, rfl, ((?_ : FrY r m0 (wI m 53 σ.length c)).slot (i := 49) (by omega)).slot (i := 43) (by omega), ⟨h1, h2, h3⟩, ⟨?_, g2, g3, g4, ?_, g6, g7⟩, ⟨wI_at (s := m) (r := 53) (i := σ.length) (v := c), stk_upd σ (fun i hi => ?_) h4⟩, h5, ?_, by omega⟩
  · exact ⟨fun q z1 z2 z3 z4 => (wI_of z4).trans (hF.1 q z1 z2 z3 z4), hF.2.1, fun i hi => hF.2.2.1 i hi, fun i hi => hF.2.2.2 i hi⟩
  · show m.1 0 43 + 1 = _
    rw [g1, nI_1]
  · show m.1 0 49 + 1 = nI (σ.length + 1)
    rw [g5, nI_1]
  · show (if i = σ.length then c else m.1 53 i) = _
    rw [if_neg (by omega)]
  · show C.length + (σ.length + 1) ≤ b + 1
    omega
theorem y_emit (h : YB T n r m0 b p o σ C bh m) (hr : r < 20) (hC : C.length < 160) (c a : Int32) : ∃ m1, f11_emit c a m = some m1 ∧ YB T n r m0 (b + 1) p o σ (C ++ [(c, a)]) bh m1 := by
  have hg := y_good h
  obtain ⟨hF, ⟨h1, h2, h3⟩, ⟨g1, g2, g3, g4, g5, g6, g7⟩, h4, h5, h6, h7⟩ := h
  unfold f11_emit
  rw [hg, Option.bind_some, if_neg (show ¬ (1 : Int32) = 0 by decide), h2, g3, show (160 : Int32) = nI 160 from rfl, pk_mul, nI_add, inb_n (show 160 * r + C.length < 3200 by omega) (by omega), chk_p]
  have q1 : ∀ i v, (wI m 42 i v).1 0 6 = nI r := fun _ _ => h2
  have q2 : ∀ i v, (wI m 42 i v).1 0 47 = nI C.length := fun _ _ => g3
  simp only [nm_p, nI_clamp (n := 160 * r + C.length) (by omega), q1, q2, pk_mul, nI_add, inb_n (show 160 * r + C.length < 3200 by omega) (by omega : 3200 < 2 ^ 31), chk_p]
  have hl : (C ++ [(c, a)]).length = C.length + 1 := by rw [List.length_append]; rfl
  refine ⟨_, rfl, (?_ : FrY r m0 (wI (wI m 42 (160 * r + C.length) c) 43 (160 * r + C.length) a)).slot (i := 47) (by omega), ⟨h1, h2, h3⟩, ⟨g1, g2, ?_, g4, g5, g6, g7⟩, h4, (cdA_app _ _ _).mpr ⟨cdA_upd C _ (fun j z1 z2 => ?_) h5, wI_at (s := m) (r := 42) (i := 160 * r + C.length) (v := c), wI_at (s := wI m 42 (160 * r + C.length) c) (r := 43) (i := 160 * r + C.length) (v := a), trivial⟩, ?_, h7⟩
  · refine ⟨fun q z1 z2 z3 z4 => ((wI_of z3).trans (wI_of z2)).trans (hF.1 q z1 z2 z3 z4), hF.2.1, fun i hi => hF.2.2.1 i hi, fun i hi => ?_⟩
    show (if i = 160 * r + C.length then c else m.1 42 i) = m0.1 42 i ∧ (if i = 160 * r + C.length then a else m.1 43 i) = m0.1 43 i
    rw [if_neg (by omega), if_neg (by omega)]; exact hF.2.2.2 i hi
  · show m.1 0 47 + 1 = _
    rw [g3, nI_1, hl]
  · show (if j = 160 * r + C.length then c else m.1 42 j) = m.1 42 j ∧ (if j = 160 * r + C.length then a else m.1 43 j) = m.1 43 j
    rw [if_neg (by omega), if_neg (by omega)]; exact ⟨rfl, rfl⟩
  · rw [hl]; omega
theorem y_drop {c : Int32} (h : YB T n r m0 (b + 1) p o (c :: σ) C bh m) : YB T n r m0 b p o σ C bh (wI m 0 49 (m.1 0 49 - 1)) := by
  obtain ⟨hF, ⟨h1, h2, h3⟩, ⟨g1, g2, g3, g4, g5, g6, g7⟩, h4, h5, h6, h7⟩ := h
  refine ⟨hF.slot (by omega), ⟨h1, h2, h3⟩, ⟨g1, g2, g3, g4, ?_, g6, g7⟩, h4.2, h5, ?_, h7⟩
  · show m.1 0 49 - 1 = _
    rw [g5, show (c :: σ).length = σ.length + 1 from rfl, ← nI_1, add_sub1]
  · have : C.length + (σ.length + 1) ≤ b + 1 := h6
    omega
theorem YB.wk {b' : Nat} (h : YB T n r m0 b p o σ C bh m) (hb : b ≤ b') : YB T n r m0 b' p o σ C bh m := by
  obtain ⟨hF, h1, h2, h3, h4, h5, h6⟩ := h
  exact ⟨hF, h1, h2, h3, h4, by omega, h6⟩
theorem YB.setB {x : Int32} (h : YB T n r m0 b p o σ C bh m) : YB T n r m0 b p o σ C x (wI m 0 51 x) := by
  obtain ⟨hF, h1, ⟨g1, g2, g3, g4, g5, g6, g7⟩, h3, h4, h5, h6⟩ := h
  exact ⟨hF.slot (by omega), h1, ⟨g1, g2, g3, g4, g5, g6, rfl⟩, h3, h4, h5, h6⟩
theorem YB.place {q : Nat} (h : YB T n r m0 b p o σ C bh m) (hp : p < n) : YB T n r m0 b (p + 1) o σ C bh (wI m 0 43 (m.1 0 43 + 1)) := by
  obtain ⟨hF, h1, ⟨g1, g2, g3, g4, g5, g6, g7⟩, h3, h4, h5, h6⟩ := h
  exact ⟨hF.slot (by omega), h1, ⟨by show m.1 0 43 + 1 = _; rw [g1, nI_1], g2, g3, g4, g5, g6, g7⟩, h3, h4, h5, by omega⟩
theorem YB.opn {o' : Nat} {v : Int32} (h : YB T n r m0 b p o σ C bh m) (hv : v = nI o') : YB T n r m0 b p o' σ C bh (wI m 0 48 v) := by
  obtain ⟨hF, h1, ⟨g1, g2, g3, g4, g5, g6, g7⟩, h3, h4, h5, h6⟩ := h
  exact ⟨hF.slot (by omega), h1, ⟨g1, g2, g3, hv, g5, g6, g7⟩, h3, h4, h5, h6⟩
/-- the top goes into the codes -/
theorem y_pop {c : Int32} (h : YB T n r m0 b p o (c :: σ) C bh m) (hr : r < 20) (hb : b ≤ 160) (x : Int32) : ∃ m1, f11_emit x 0 m = some m1 ∧ YB T n r m0 b p o σ (C ++ [(x, 0)]) bh (wI m1 0 49 (m1.1 0 49 - 1)) := by
  have hl := (y_len h).1
  have hl2 : (c :: σ).length = σ.length + 1 := rfl
  obtain ⟨m1, k1, k2⟩ := y_emit h hr (by omega) x 0
  exact ⟨m1, k1, y_drop k2⟩
theorem y_opens (h : YB T n r m0 b p o σ C bh m) (hn : n ≤ 160) (hb : b ≤ 190) (hp : p < n) (ho : o < 6) : ∃ m1, f11_opens m = some m1 ∧ YB T n r m0 (b + 1) (p + 1) (o + 1) (hd T n p :: σ) C bh m1 := by
  unfold f11_opens f11_opens_j18
  have g4 := h.2.2.1.2.2.2.1
  rw [g4, if_neg (show ¬ nI o = (6 : Int32) from fun e => by have := (nI_eq (a := o) (b := 6) (by omega) (by omega)).mp e; omega), nm_p, nI_1]
  have h2 := h.opn (o' := o + 1) rfl
  rw [y_here h2 hn, Option.bind_some]
  obtain ⟨m1, k1, k2⟩ := y_puts h2 hb hp (hd T n p)
  rw [k1]
  exact ⟨m1, rfl, k2⟩
theorem y_opens6 (h : YB T n r m0 b p 6 σ C bh m) (hn : n ≤ 160) (hb : b ≤ 190) : ∃ m1, f11_opens m = some m1 ∧ Bd r 5 p m0 m1 := by
  obtain ⟨hF, ⟨h1, h2, h3⟩, ⟨g1, g2, g3, g4, g5, g6, g7⟩, h4, h5, h6, h7⟩ := id h
  have hbd := y_bd h (k := 5) (pl := p) (by omega) (by omega) (by omega)
  unfold f11_opens f11_opens_j18
  rw [g4, if_pos (show nI 6 = (6 : Int32) from rfl), y_wrongs h, Option.bind_some, g1]
  obtain ⟨mb, hmb⟩ : ∃ mb, mb = wI m 0 45 (-1000 * 5 - nI p) := ⟨_, rfl⟩
  have hbd : Bd r 5 p m0 mb := by rw [hmb]; exact hbd
  rw [← hmb, nm_p]
  have e43 : (wI mb 0 48 (mb.1 0 48 + 1)).1 0 43 = nI p := by rw [hmb]; exact g1
  have e44 : (wI mb 0 48 (mb.1 0 48 + 1)).1 0 44 = nI n := by rw [hmb]; exact h3
  have e49 : (wI mb 0 48 (mb.1 0 48 + 1)).1 0 49 = nI σ.length := by rw [hmb]; exact g5
  have hh : ∃ x, f11_here (wI mb 0 48 (mb.1 0 48 + 1)) = some x := by
    unfold f11_here f11_here_j28
    rw [e43, e44]
    by_cases c : nI n ≤ nI p
    · rw [if_pos c]; exact ⟨_, rfl⟩
    · rw [if_neg c, inb_n (show p < 400 by omega) (by omega), chk_p]; exact ⟨_, rfl⟩
  obtain ⟨x, hx⟩ := hh
  rw [hx, Option.bind_some]
  unfold f11_puts
  rw [e49, inb_n (show σ.length < 200 by omega) (by omega), chk_p]
  simp only [nm_p, nI_clamp (n := σ.length) (by omega)]
  refine ⟨_, rfl, Bd.slot (i := 43) (Bd.slot (i := 49) ?_ (by omega) (by omega)) (by omega) (by omega)⟩
  have hb2 : Bd r 5 p m0 (wI mb 0 48 (mb.1 0 48 + 1)) := hbd.slot (by omega) (by omega)
  exact ⟨⟨fun q z1 z2 z3 z4 => (wI_of z4).trans (hb2.1.1 q z1 z2 z3 z4), hb2.1.2.1, fun i hi => hb2.1.2.2.1 i hi, fun i hi => hb2.1.2.2.2 i hi⟩, hb2.2.1, hb2.2.2⟩
end
-- the signs
def isTm (c : Int32) : Prop := c = 42 ∨ c = 47 ∨ c = 37
def isPm (c : Int32) : Prop := c = 43 ∨ c = 45
def isCp (c : Int32) : Prop := c = 60 ∨ c = 62 ∨ c = 61
theorem r_isTm (c : Int32) : ∃ x, f11_isTimes c = some x ∧ ((x = 1 ∧ isTm c) ∨ (x = 0 ∧ ¬ isTm c)) := by
  unfold f11_isTimes f11_isTimes_j18 f11_isTimes_j23 isTm
  by_cases h1 : c = 42
  · rw [if_pos h1]; exact ⟨1, rfl, Or.inl ⟨rfl, Or.inl h1⟩⟩
  · rw [if_neg h1]
    by_cases h2 : c = 47
    · rw [if_pos h2]; exact ⟨1, rfl, Or.inl ⟨rfl, Or.inr (Or.inl h2)⟩⟩
    · rw [if_neg h2]
      by_cases h3 : c = 37
      · rw [if_pos h3]; exact ⟨1, rfl, Or.inl ⟨rfl, Or.inr (Or.inr h3)⟩⟩
      · rw [if_neg h3]; exact ⟨0, rfl, Or.inr ⟨rfl, fun e => e.elim h1 (fun e => e.elim h2 h3)⟩⟩
theorem r_isPl (c : Int32) : ∃ x, f11_isPlus c = some x ∧ ((x = 1 ∧ isPm c) ∨ (x = 0 ∧ ¬ isPm c)) := by
  unfold f11_isPlus f11_isPlus_j12 f11_isPlus_j17 isPm
  by_cases h1 : c = 43
  · rw [if_pos h1]; exact ⟨1, rfl, Or.inl ⟨rfl, Or.inl h1⟩⟩
  · rw [if_neg h1]
    by_cases h2 : c = 45
    · rw [if_pos h2]; exact ⟨1, rfl, Or.inl ⟨rfl, Or.inr h2⟩⟩
    · rw [if_neg h2]; exact ⟨0, rfl, Or.inr ⟨rfl, fun e => e.elim h1 h2⟩⟩
theorem r_isCp (c : Int32) : ∃ x, f11_isSign c = some x ∧ ((x = 1 ∧ isCp c) ∨ (x = 0 ∧ ¬ isCp c)) := by
  unfold f11_isSign f11_isSign_j18 f11_isSign_j23 isCp
  by_cases h1 : c = 60
  · rw [if_pos h1]; exact ⟨1, rfl, Or.inl ⟨rfl, Or.inl h1⟩⟩
  · rw [if_neg h1]
    by_cases h2 : c = 62
    · rw [if_pos h2]; exact ⟨1, rfl, Or.inl ⟨rfl, Or.inr (Or.inl h2)⟩⟩
    · rw [if_neg h2]
      by_cases h3 : c = 61
      · rw [if_pos h3]; exact ⟨1, rfl, Or.inl ⟨rfl, Or.inr (Or.inr h3)⟩⟩
      · rw [if_neg h3]; exact ⟨0, rfl, Or.inr ⟨rfl, fun e => e.elim h1 (fun e => e.elim h2 h3)⟩⟩
theorem tm_t {c : Int32} (h : isTm c) : f11_isTimes c = some 1 := by
  obtain ⟨x, h1, ⟨rfl, _⟩ | ⟨_, h2⟩⟩ := r_isTm c
  · exact h1
  · exact absurd h h2
theorem tm_f {c : Int32} (h : ¬ isTm c) : f11_isTimes c = some 0 := by
  obtain ⟨x, h1, ⟨_, h2⟩ | ⟨rfl, _⟩⟩ := r_isTm c
  · exact absurd h2 h
  · exact h1
theorem pl_t {c : Int32} (h : isPm c) : f11_isPlus c = some 1 := by
  obtain ⟨x, h1, ⟨rfl, _⟩ | ⟨_, h2⟩⟩ := r_isPl c
  · exact h1
  · exact absurd h h2
theorem pl_f {c : Int32} (h : ¬ isPm c) : f11_isPlus c = some 0 := by
  obtain ⟨x, h1, ⟨_, h2⟩ | ⟨rfl, _⟩⟩ := r_isPl c
  · exact absurd h2 h
  · exact h1
theorem cp_t {c : Int32} (h : isCp c) : f11_isSign c = some 1 := by
  obtain ⟨x, h1, ⟨rfl, _⟩ | ⟨_, h2⟩⟩ := r_isCp c
  · exact h1
  · exact absurd h h2
theorem cp_f {c : Int32} (h : ¬ isCp c) : f11_isSign c = some 0 := by
  obtain ⟨x, h1, ⟨_, h2⟩ | ⟨rfl, _⟩⟩ := r_isCp c
  · exact absurd h2 h
  · exact h1
def emC (σ : List Int32) : List (Int32 × Int32) := σ.map (fun c => (c, 0))
section
variable {T : Nat → Int32} {n r b p o : Nat} {m0 : OS} {σ : List Int32} {bh : Int32}
theorem y_sums1 (hr : r < 20) (hb : b ≤ 160) (hσ : ¬ isTm (tpS σ) ∧ ¬ isPm (tpS σ)) : ∀ (pe : List Int32) (C : List (Int32 × Int32)) (m : OS), (∀ c ∈ pe, isTm c ∨ isPm c) → YB T n r m0 b p o (pe ++ σ) C bh m → ∃ m', f11_sums 1 m = some m' ∧ YB T n r m0 b p o σ (C ++ emC pe) bh m'
  | [], C, m, _, h => by
    refine ⟨m, ?_, by show YB T n r m0 b p o σ (C ++ []) bh m; rw [List.append_nil]; exact h⟩
    unfold f11_sums
    refine loop_inr ?_
    unfold f11_sums_l0 f11_sums_j46
    rw [y_top h (by omega), Option.bind_some]
    show Option.bind (f11_isTimes (tpS σ)) _ = _
    rw [tm_f hσ.1, Option.bind_some, if_pos rfl, if_neg (show ¬ (1 : Int32) = 0 by decide), Option.bind_some]
    show Option.bind (f11_isPlus (tpS σ)) _ = _
    rw [pl_f hσ.2, Option.bind_some, if_pos rfl]; rfl
  | c :: pe, C, m, hp, h => by
    obtain ⟨m1, k1, k2⟩ := y_pop h hr hb c
    obtain ⟨m', k3, k4⟩ := y_sums1 hr hb hσ pe _ _ (fun x hx => hp x (List.mem_cons_of_mem _ hx)) k2
    refine ⟨m', ?_, by rw [List.append_assoc] at k4; exact k4⟩
    rw [← k3]
    unfold f11_sums
    refine loop_inl ?_
    have hj : f11_sums_j24 1 m = some (Sum.inl (wI m1 0 49 (m1.1 0 49 - 1))) := by
      unfold f11_sums_j24
      rw [y_top h (by omega), Option.bind_some]
      show Option.bind (f11_emit c 0 m) _ = _
      rw [k1, Option.bind_some, nm_p]
    unfold f11_sums_l0
    rw [y_top h (by omega), Option.bind_some]
    show Option.bind (f11_isTimes c) _ = _
    by_cases ht : isTm c
    · rw [tm_t ht, Option.bind_some, if_neg (show ¬ (1 : Int32) = 0 by decide)]; exact hj
    · rw [tm_f ht, Option.bind_some, if_pos rfl, if_neg (show ¬ (1 : Int32) = 0 by decide), Option.bind_some]
      show Option.bind (f11_isPlus c) _ = _
      rw [pl_t ((hp c (List.mem_cons_self ..)).resolve_left ht), Option.bind_some, if_neg (show ¬ (1 : Int32) = 0 by decide)]; exact hj
theorem y_sums0 (hr : r < 20) (hb : b ≤ 160) (hσ : ¬ isTm (tpS σ)) : ∀ (pe : List Int32) (C : List (Int32 × Int32)) (m : OS), (∀ c ∈ pe, isTm c) → YB T n r m0 b p o (pe ++ σ) C bh m → ∃ m', f11_sums 0 m = some m' ∧ YB T n r m0 b p o σ (C ++ emC pe) bh m'
  | [], C, m, _, h => by
    refine ⟨m, ?_, by show YB T n r m0 b p o σ (C ++ []) bh m; rw [List.append_nil]; exact h⟩
    unfold f11_sums
    refine loop_inr ?_
    unfold f11_sums_l0 f11_sums_j46
    rw [y_top h (by omega), Option.bind_some]
    show Option.bind (f11_isTimes (tpS σ)) _ = _
    rw [tm_f hσ, Option.bind_some, if_pos rfl, if_pos rfl]; rfl
  | c :: pe, C, m, hp, h => by
    obtain ⟨m1, k1, k2⟩ := y_pop h hr hb c
    obtain ⟨m', k3, k4⟩ := y_sums0 hr hb hσ pe _ _ (fun x hx => hp x (List.mem_cons_of_mem _ hx)) k2
    refine ⟨m', ?_, by rw [List.append_assoc] at k4; exact k4⟩
    rw [← k3]
    unfold f11_sums
    refine loop_inl ?_
    unfold f11_sums_l0 f11_sums_j24
    rw [y_top h (by omega), Option.bind_some]
    show Option.bind (f11_isTimes c) _ = _
    rw [tm_t (hp c (List.mem_cons_self ..)), Option.bind_some, if_neg (show ¬ (1 : Int32) = 0 by decide), Option.bind_some]
    show Option.bind (f11_emit c 0 m) _ = _
    rw [k1, Option.bind_some, nm_p]
theorem y_joins1 (hr : r < 20) (hb : b ≤ 160) (hσ : ¬ tpS σ = 38 ∧ ¬ tpS σ = 124) : ∀ (pe : List Int32) (C : List (Int32 × Int32)) (m : OS), (∀ c ∈ pe, c = 38 ∨ c = 124) → YB T n r m0 b p o (pe ++ σ) C bh m → ∃ m', f11_joins 1 m = some m' ∧ YB T n r m0 b p o σ (C ++ emC pe) bh m'
  | [], C, m, _, h => by
    refine ⟨m, ?_, by show YB T n r m0 b p o σ (C ++ []) bh m; rw [List.append_nil]; exact h⟩
    unfold f11_joins
    refine loop_inr ?_
    unfold f11_joins_l0 f11_joins_j44
    rw [y_top h (by omega), Option.bind_some]
    show (if tpS σ = 38 then _ else _) = _
    rw [if_neg hσ.1, if_neg (show ¬ (1 : Int32) = 0 by decide), Option.bind_some]
    show (if tpS σ = 124 then _ else _) = _
    rw [if_neg hσ.2]; rfl
  | c :: pe, C, m, hp, h => by
    obtain ⟨m1, k1, k2⟩ := y_pop h hr hb c
    obtain ⟨m', k3, k4⟩ := y_joins1 hr hb hσ pe _ _ (fun x hx => hp x (List.mem_cons_of_mem _ hx)) k2
    refine ⟨m', ?_, by rw [List.append_assoc] at k4; exact k4⟩
    rw [← k3]
    unfold f11_joins
    refine loop_inl ?_
    have hj : f11_joins_j22 1 m = some (Sum.inl (wI m1 0 49 (m1.1 0 49 - 1))) := by
      unfold f11_joins_j22
      rw [y_top h (by omega), Option.bind_some]
      show Option.bind (f11_emit c 0 m) _ = _
      rw [k1, Option.bind_some, nm_p]
    unfold f11_joins_l0
    rw [y_top h (by omega), Option.bind_some]
    show (if c = 38 then _ else _) = _
    by_cases ht : c = 38
    · rw [if_pos ht]; exact hj
    · rw [if_neg ht, if_neg (show ¬ (1 : Int32) = 0 by decide), Option.bind_some]
      show (if c = 124 then _ else _) = _
      rw [if_pos ((hp c (List.mem_cons_self ..)).resolve_left ht)]; exact hj
theorem y_joins0 (hr : r < 20) (hb : b ≤ 160) (hσ : ¬ tpS σ = 38) : ∀ (pe : List Int32) (C : List (Int32 × Int32)) (m : OS), (∀ c ∈ pe, c = 38) → YB T n r m0 b p o (pe ++ σ) C bh m → ∃ m', f11_joins 0 m = some m' ∧ YB T n r m0 b p o σ (C ++ emC pe) bh m'
  | [], C, m, _, h => by
    refine ⟨m, ?_, by show YB T n r m0 b p o σ (C ++ []) bh m; rw [List.append_nil]; exact h⟩
    unfold f11_joins
    refine loop_inr ?_
    unfold f11_joins_l0 f11_joins_j44
    rw [y_top h (by omega), Option.bind_some]
    show (if tpS σ = 38 then _ else _) = _
    rw [if_neg hσ, if_pos rfl]; rfl
  | c :: pe, C, m, hp, h => by
    obtain ⟨m1, k1, k2⟩ := y_pop h hr hb c
    obtain ⟨m', k3, k4⟩ := y_joins0 hr hb hσ pe _ _ (fun x hx => hp x (List.mem_cons_of_mem _ hx)) k2
    refine ⟨m', ?_, by rw [List.append_assoc] at k4; exact k4⟩
    rw [← k3]
    unfold f11_joins
    refine loop_inl ?_
    unfold f11_joins_l0 f11_joins_j22
    rw [y_top h (by omega), Option.bind_some]
    show (if c = 38 then _ else _) = _
    rw [if_pos (hp c (List.mem_cons_self ..)), Option.bind_some]
    show Option.bind (f11_emit c 0 m) _ = _
    rw [k1, Option.bind_some, nm_p]
theorem y_ends (hr : r < 20) (hb : b ≤ 160) (hσ : ¬ tpS σ = 33) : ∀ (k : Nat) (C : List (Int32 × Int32)) (m : OS), YB T n r m0 b p (o + k) (List.replicate k 33 ++ σ) C bh m → ∃ m', f11_ends m = some m' ∧ YB T n r m0 b p o σ (C ++ List.replicate k (2, 0)) bh m'
  | 0, C, m, h => by
    refine ⟨m, ?_, by show YB T n r m0 b p o σ (C ++ []) bh m; rw [List.append_nil]; exact h⟩
    unfold f11_ends
    refine loop_inr ?_
    unfold f11_ends_l0
    rw [y_top h (by omega), Option.bind_some]
    show (if tpS σ = 33 then _ else _) = _
    rw [if_neg hσ]; rfl
  | k + 1, C, m, h => by
    have h : YB T n r m0 b p (o + (k + 1)) (33 :: (List.replicate k 33 ++ σ)) C bh m := h
    obtain ⟨m1, k1, k2⟩ := y_pop h hr hb 2
    have k3 := k2.opn (o' := o + k) (v := (wI m1 0 49 (m1.1 0 49 - 1)).1 0 48 - 1) (by
      rw [k2.2.2.1.2.2.2.1, show o + (k + 1) = (o + k) + 1 by omega, ← nI_1, add_sub1])
    obtain ⟨m', k4, k5⟩ := y_ends hr hb hσ k _ _ k3
    refine ⟨m', ?_, ?_⟩
    · rw [← k4]
      unfold f11_ends
      refine loop_inl ?_
      unfold f11_ends_l0
      rw [y_top h (by omega), Option.bind_some]
      show (if (33 : Int32) = 33 then _ else _) = _
      rw [if_pos rfl, k1, Option.bind_some]; rfl
    · rw [List.append_assoc] at k5
      exact k5
end
