-- steps: where
def wOf (m : OS) (i j : Nat) : Nat := (m.1 78 (16 * i + j)).toNatClampNeg
theorem ways_ok {s9 m : OS} (q8 : ∀ i, i < 256 → (s9.1 1 i = 0 ∧ m.1 78 i = 1000000) ∨ (bw 1 1000 (s9.1 1 i) ∧ m.1 78 i = s9.1 1 i)) (q9 : ∀ i j, i < 16 → j < 16 → s9.1 1 (i * 16 + j) = s9.1 1 (j * 16 + i)) : (∀ i j, i < 16 → j < 16 → m.1 78 (16 * i + j) = nI (wOf m i j) ∧ wOf m i j ≤ 1000000) ∧ WwR s9 (wOf m) ∧ ∀ i j, i < 16 → j < 16 → wOf m i j = wOf m j i := by
  have one : ∀ i j, i < 16 → j < 16 → (s9.1 1 (i * 16 + j) = 0 ∧ m.1 78 (16 * i + j) = nI 1000000) ∨ ∃ v, 1 ≤ v ∧ v ≤ 1000 ∧ s9.1 1 (i * 16 + j) = nI v ∧ m.1 78 (16 * i + j) = nI v := by
    intro i j hi hj
    rcases q8 (16 * i + j) (by omega) with ⟨e1, e2⟩ | ⟨e1, e2⟩
    · exact Or.inl ⟨by rw [show i * 16 + j = 16 * i + j by omega]; exact e1, e2⟩
    · obtain ⟨v, h1, h2, e⟩ := bw_nat (lo := 1) (hi := 1000) e1 (by omega)
      exact Or.inr ⟨v, h1, h2, by rw [show i * 16 + j = 16 * i + j by omega]; exact e, by rw [e2]; exact e⟩
  refine ⟨fun i j hi hj => ?_, fun i j hi hj => ?_, fun i j hi hj => ?_⟩
  · unfold wOf
    rcases one i j hi hj with ⟨e1, e2⟩ | ⟨v, h1, h2, e1, e2⟩
    · rw [e2, nI_clamp (by omega)]; exact ⟨rfl, Nat.le_refl _⟩
    · rw [e2, nI_clamp (by omega)]; exact ⟨rfl, by omega⟩
  · unfold wOf
    rcases one i j hi hj with ⟨e1, e2⟩ | ⟨v, h1, h2, e1, e2⟩
    · rw [e2, nI_clamp (by omega)]; exact Or.inl ⟨e1, rfl⟩
    · rw [e2, nI_clamp (by omega)]; exact Or.inr ⟨h1, h2, e1⟩
  · unfold wOf
    have e9 := q9 i j hi hj
    rcases one i j hi hj with ⟨e1, e2⟩ | ⟨v, h1, h2, e1, e2⟩
    · rcases one j i hj hi with ⟨f1, f2⟩ | ⟨u, g1, g2, f1, f2⟩
      · rw [e2, f2]
      · rw [e1, f1] at e9
        exact absurd ((nI_eq (a := 0) (b := u) (by omega) (by omega)).mp e9) (by omega)
    · rcases one j i hj hi with ⟨f1, f2⟩ | ⟨u, g1, g2, f1, f2⟩
      · rw [e1, f1] at e9
        exact absurd ((nI_eq (a := v) (b := 0) (by omega) (by omega)).mp e9) (by omega)
      · rw [e1, f1] at e9
        rw [e2, f2, e9]
theorem r_j127 {m : OS} {w : Nat → Nat → Nat} {day L p : Nat} {bp : Nat → Bool} {N' v7 : Int32} (E : (Nat → Nat → Nat) → Nat → Bool) (hw : ∀ i j, i < 16 → j < 16 → m.1 78 (16 * i + j) = nI (w i j) ∧ w i j ≤ 1000000) (hp : p < 16) (hbp : ∀ j, j < 16 → (bp j = true ↔ j = p)) (hL : L ≤ day) (hday : day ≤ 99999)
    (hE : (N' = -1 ∧ ∀ d v, E d v = true) ∨ ∃ N p2 b2, N' = nI N ∧ day < N ∧ N ≤ 99999 ∧ p2 < 16 ∧ v7 = nI (mkB b2 16) ∧ (∀ j, j < 16 → (b2 j = true ↔ j = p2)) ∧ ∀ d v, E d v = decide (d v p2 ≤ N - day)) :
    ∃ d m', St79 m m' d ∧ (∀ i j L, i < 16 → j < 16 → (d i j ≤ L ↔ Ck w 16 i j L)) ∧ f11_where_j127 (nI day) (nI L) N' (nI (mkB bp 16)) v7 m = some (nI (mkB (fun v => decide (d p v ≤ day - L) && E d v) 16), m') := by
  obtain ⟨m', e1, d, hd, hc⟩ := r_measures hw
  refine ⟨d, m', hd, hc, ?_⟩
  unfold f11_where_j127
  rw [e1, Option.bind_some]
  refine loop_seq (fun i => (nI (mkB (fun v => decide (d p v ≤ day - L) && E d v) i), nI i)) 16 _ (fun i hi => ?_) ?_
  · have ix : ∀ a b, (16 : Int32) * nI a + nI b = nI (16 * a + b) := fun a b => by rw [show (16 : Int32) = nI 16 from rfl, pk_mul, nI_add]
    have g1 := hd.2.2 p i hp hi
    have hml := mkB_lt (fun v => decide (d p v ≤ day - L) && E d v) i
    have hml2 : (2 : Nat) ^ i ≤ 2 ^ 16 := Nat.pow_le_pow_right (by omega) (by omega)
    have h2i : (2 : Nat) ^ i < 2 ^ 16 := Nat.pow_lt_pow_right (by omega) hi
    have orT : (decide (d p i ≤ day - L) && E d i) = true → nI (mkB (fun v => decide (d p v ≤ day - L) && E d v) i) ||| (1 : Int32) <<< (nI i &&& 31) = nI (mkB (fun v => decide (d p v ≤ day - L) && E d v) (i + 1)) := by
      intro e
      rw [one_shl hi, nI_or (by omega) (by omega)]
      show _ = nI (mkB _ i ||| (if (decide (d p i ≤ day - L) && E d i) = true then 2 ^ i else 0))
      rw [if_pos e]
    have orF : (decide (d p i ≤ day - L) && E d i) = false → nI (mkB (fun v => decide (d p v ≤ day - L) && E d v) i) ||| 0 = nI (mkB (fun v => decide (d p v ≤ day - L) && E d v) (i + 1)) := by
      intro e
      rw [or_0]
      show _ = nI (mkB _ i ||| (if (decide (d p i ≤ day - L) && E d i) = true then 2 ^ i else 0))
      rw [if_neg (by rw [e]; decide), Nat.or_zero]
    unfold f11_where_l137 f11_where_j172 f11_where_j212 f11_where_j213 f11_where_j215 f11_where_j230
    simp only [r_placeOf hp hbp, Option.bind_some, ix, nI_clamp (n := 16 * p + i) (by omega), inb_n (show 16 * p + i < 256 by omega) (by omega : 256 < 2 ^ 31), chk_p, nm_p, g1.1, nI_1, pk_sub hL]
    rw [if_neg (show ¬ (16 : Int32) ≤ nI i from nI_ge (a := i) (b := 16) hi (by omega))]
    by_cases hle : d p i ≤ day - L
    · have dT : decide (d p i ≤ day - L) = true := decide_eq_true hle
      rw [if_neg (show ¬ nI (day - L) < nI (d p i) from nI_nlt hle (by omega)), if_neg (show ¬ (1 : Int32) = 0 by decide), if_neg (show ¬ (1 : Int32) = 0 by decide)]
      rcases hE with ⟨e2, e3⟩ | ⟨N, p2, b2, e2, e3, e4, e5, e6, e7, e8⟩
      · rw [if_pos e2, orT (by rw [dT, e3]; rfl)]
      · rw [if_neg (by rw [e2]; exact nI_m1 (by omega)), e2, e6]
        have g2 := hd.2.2 i p2 hi e5
        simp only [r_placeOf e5 e7, Option.bind_some, ix, nI_clamp (n := 16 * i + p2) (by omega), inb_n (show 16 * i + p2 < 256 by omega) (by omega : 256 < 2 ^ 31), chk_p, nm_p, g2.1, pk_sub (show day ≤ N by omega)]
        by_cases hle2 : d i p2 ≤ N - day
        · rw [if_neg (show ¬ nI (N - day) < nI (d i p2) from nI_nlt hle2 (by omega)), orT (by rw [dT, e8, decide_eq_true hle2]; rfl)]
        · rw [if_pos (show nI (N - day) < nI (d i p2) from nI_lt (by omega) (by omega)), if_pos trivial, orF (by rw [dT, e8, decide_eq_false hle2]; rfl)]
    · have dF : decide (d p i ≤ day - L) = false := decide_eq_false hle
      have orF := orF (by rw [dF]; rfl)
      rw [if_pos (show nI (day - L) < nI (d p i) from nI_lt (by omega) (by omega))]
      simp only [if_true, orF, ite_self]
  · unfold f11_where_l137
    show (if (16 : Int32) ≤ nI 16 then _ else _) = _
    rw [if_pos (show (16 : Int32) ≤ nI 16 from by decide)]; rfl
theorem mkB_and {b c : Nat → Bool} : nI (mkB b 16) &&& nI (mkB c 16) = nI (mkB (fun v => b v && c v) 16) := by
  have h1 := mkB_lt b 16
  have h2 := mkB_lt c 16
  rw [nI_and (by omega) (by omega)]
  congr 1
  apply Nat.eq_of_testBit_eq
  intro j
  rw [Nat.testBit_and, mkB_bit, mkB_bit, mkB_bit]
  by_cases e : j < 16
  · simp [e]
  · simp [e]
theorem RelW.r2 {s9 s9' : OS} {nG nS : Int32} {a78 a80 a81 a82 a83 a84 : Nat → Int32} (h : RelW s9 nG nS a78 a80 a81 a82 a83 a84) (hf : ∀ r, r ≠ 2 → s9'.1 r = s9.1 r) : RelW s9' nG nS a78 a80 a81 a82 a83 a84 := by
  unfold RelW
  simp only [hf 0 (by decide), hf 1 (by decide), hf 3 (by decide), hf 4 (by decide), hf 5 (by decide), hf 6 (by decide)]
  exact h
theorem Rel.w2 {k : Nat} {s0 s1 s2 s3 s4 s5 s6 s7 s8 s9 s10 s11 s9' m : OS} (h : Rel k s0 s1 s2 s3 s4 s5 s6 s7 s8 s9 s10 s11) (hf : ∀ r, r ≠ 2 → s9'.1 r = s9.1 r) (f1 : ∀ r, r ≠ 79 → m.1 r = s11.1 r) (f3 : m.2 = s11.2) : Rel (k + 1) s0 s1 s2 s3 s4 s5 s6 s7 s8 s9' s10 m := by
  obtain ⟨n, h1, h2, h3, h4, h5, h6, h7, h8, h9, h10⟩ := h.same (s6' := s6)
  unfold Rel
  simp only [f1 0 (by decide), f1 1 (by decide), f1 20 (by decide), f1 12 (by decide), f1 13 (by decide), f1 14 (by decide), f1 15 (by decide), f1 16 (by decide), f1 17 (by decide), f1 18 (by decide), f1 19 (by decide), f1 26 (by decide), f1 27 (by decide), f1 28 (by decide), f1 29 (by decide), f1 30 (by decide), f1 31 (by decide), f1 32 (by decide), f1 59 (by decide), f1 60 (by decide), f1 61 (by decide), f1 62 (by decide), f1 63 (by decide), f1 64 (by decide), f1 65 (by decide), f1 66 (by decide), f1 67 (by decide), f1 68 (by decide), f1 78 (by decide), f1 80 (by decide), f1 81 (by decide), f1 82 (by decide), f1 83 (by decide), f1 84 (by decide), f1 85 (by decide), f1 86 (by decide), f1 87 (by decide), f1 71 (by decide), f1 76 (by decide), f1 77 (by decide), f1 34 (by decide), f1 35 (by decide), f1 36 (by decide), f1 37 (by decide), f1 38 (by decide), f1 39 (by decide), f1 40 (by decide), f1 41 (by decide), f1 42 (by decide), f1 43 (by decide), f3]
  exact ⟨n, h1, h2, h3, h4, h5, h6, h7.r2 hf, h8, h9, h10⟩
theorem TlC.r2 {s s' : OS} {N : Nat} {y z : Nat → Nat} (h : TlC s N y z) (hf : ∀ r, r ≠ 2 → s'.1 r = s.1 r) : TlC s' N y z := by
  unfold TlC
  rw [hf 0 (by decide), hf 5 (by decide), hf 6 (by decide)]
  exact h
theorem pla_mask {T T' : Nat → Nat → Prop} {d : Nat} {r : Int32} {b : Nat → Bool} (h : PlaS T d r) (hT : ∀ a c, T a c ↔ T' a c) (hb : ∀ a, a < 16 → (b a = true ↔ T' a d)) (h16 : ∀ a c, T a c → a < 16) (hex : ∃ a, T a d) : (∃ q, q < 16 ∧ r = nI q ∧ ∀ j, j < 16 → (b j = true ↔ j = q)) ∨ (r = -2 ∧ ¬ onesN 16 (mkB b 16) = 1) := by
  rcases h with ⟨e1, e2⟩ | ⟨q, e1, e2, e3, e4⟩ | ⟨e1, a, c, e2, e3, e4⟩
  · obtain ⟨a, ha⟩ := hex
    exact absurd ha (e2 a)
  · refine Or.inl ⟨q, e2, e1, fun j hj => ?_⟩
    rw [hb j hj, ← hT]
    exact ⟨e4 j, fun e => by rw [e]; exact e3⟩
  · refine Or.inr ⟨e1, fun e => ?_⟩
    obtain ⟨q, hq, hs⟩ := ones_one.mp e
    have h1 := (hs a (h16 _ _ e3)).mp ((hb a (h16 _ _ e3)).mpr ((hT a d).mp e3))
    have h2 := (hs c (h16 _ _ e4)).mp ((hb c (h16 _ _ e4)).mpr ((hT c d).mp e4))
    exact e2 (h1.trans h2.symm)
theorem size_one {b : Nat → Bool} : f11_sizeOf (nI (mkB b 16)) = some (nI (onesN 16 (mkB b 16))) := r_sizeOf (by have := mkB_lt b 16; omega)
theorem size_is {b : Nat → Bool} : (nI (onesN 16 (mkB b 16)) = (1 : Int32)) ↔ onesN 16 (mkB b 16) = 1 := nI_eq (a := onesN 16 (mkB b 16)) (b := 1) (by have := ones_le 16 (mkB b 16); omega) (by omega)
theorem mk_zero {b : Nat → Bool} : (nI (mkB b 16) = (0 : Int32)) ↔ ∀ j, j < 16 → b j = false := by
  have h1 := mkB_lt b 16
  rw [show (0 : Int32) = nI 0 from rfl, nI_eq (by omega) (by omega)]
  constructor
  · intro e j hj
    have := mkB_bit b 16 j
    rw [e, Nat.zero_testBit] at this
    simp [hj] at this
    exact this
  · intro h
    have : mkB b 16 = mkB (fun _ => false) 16 := mkB_congr 16 h
    rw [this]; rfl
theorem isPl {q : Nat} (hq : q < 16) : f10_isPlace (nI q) = some 1 := by rw [c_isPlace, b1_t (by rw [nI_toInt (by omega)]; omega)]
theorem isPl2 : f10_isPlace (-2) = some 0 := by rw [c_isPlace, b1_f (by decide)]
