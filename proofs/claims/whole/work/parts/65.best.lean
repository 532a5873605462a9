-- judge, best
theorem Rel.asks {n k : Nat} {s0 s1 s2 s3 s4 s5 s6 s7 s8 s9 s10 s11 s0' m : OS} (h : RelN n k s0 s1 s2 s3 s4 s5 s7 s8 s9 s10 s11) (g1 : s0'.1 1 = s0.1 1) (g2 : s0'.1 2 = s0.1 2) (g3 : s0'.1 3 = s0.1 3) (g4 : s0'.1 0 9 = s0.1 0 9) (g5 : s0'.1 0 11 = s0.1 0 11) (f1 : ∀ r, r ≠ 0 → r ≠ 88 → r ≠ 89 → m.1 r = s11.1 r) (f2 : ∀ i, i ≠ 90 → i ≠ 92 → i ≠ 93 → m.1 0 i = s11.1 0 i) (f3 : ∀ r, r ≠ 0 → m.2 r = s11.2 r) : Rel (k + 1) s0' s1 s2 s3 s4 s5 s6 s7 s8 s9 s10 m := by
  obtain ⟨h1, h2, h3, h4, h5, h6, h7, h8, h9, h10⟩ := h.up
  have F1 : ∀ r, r ≠ 0 ∧ r ≠ 88 ∧ r ≠ 89 → m.1 r = s11.1 r := fun r hr => f1 r hr.1 hr.2.1 hr.2.2
  have F2 : ∀ i, i ≠ 90 ∧ i ≠ 92 ∧ i ≠ 93 → m.1 0 i = s11.1 0 i := fun i hi => f2 i hi.1 hi.2.1 hi.2.2
  refine ⟨n, ?_, ?_, ?_, ?_, ?_, ?_, ?_, ?_, ?_, ?_⟩
  · rw [F1 20 (by decide), F2 2 (by decide)]; exact h1
  · rw [f3 21 (by decide), f3 22 (by decide), f3 23 (by decide), f3 24 (by decide), F2 3 (by decide), F1 12 (by decide), F1 13 (by decide), F1 14 (by decide), F1 15 (by decide), F1 16 (by decide), F1 17 (by decide), F1 18 (by decide), F1 19 (by decide)]; exact h2
  · rw [F2 24 (by decide), F1 26 (by decide), F1 27 (by decide), F1 28 (by decide), F1 29 (by decide), F1 30 (by decide)]; exact h3
  · rw [f3 33 (by decide), F2 4 (by decide), F2 5 (by decide), F1 31 (by decide), F1 32 (by decide), F1 59 (by decide), F1 60 (by decide), F1 61 (by decide), F1 62 (by decide), F1 63 (by decide), F1 64 (by decide)]; exact h4
  · rw [F2 7 (by decide), F1 65 (by decide), F1 66 (by decide), F1 67 (by decide), F1 68 (by decide)]; exact h5
  · rw [F2 1 (by decide), F1 1 (by decide)]; exact h6
  · rw [F2 8 (by decide), F2 9 (by decide), F1 78 (by decide), F1 80 (by decide), F1 81 (by decide), F1 82 (by decide), F1 83 (by decide), F1 84 (by decide)]; exact h7
  · unfold RelA
    rw [F2 10 (by decide), F2 89 (by decide), F1 85 (by decide), F1 86 (by decide), F1 87 (by decide), g1, g2, g3, g4, g5]; exact h8
  · rw [F2 68 (by decide), F2 69 (by decide), F1 71 (by decide), F1 76 (by decide), F1 77 (by decide)]; exact h9
  · rw [F2 6 (by decide), F1 34 (by decide), F1 35 (by decide), F1 36 (by decide), F1 37 (by decide), F1 38 (by decide), F1 39 (by decide), F1 40 (by decide), F1 41 (by decide), F1 42 (by decide), F1 43 (by decide)]; exact h10
theorem c_has0 {a : Nat} {u : OS} (h1 : a ≤ 6) (h2 : u.1 0 9 = nI a) (x : Int32) : f0_has x u = some (b1 (0 ≤ x.toInt ∧ x.toInt < a)) := by
  unfold f0_has f0_has_j22 f0_has_j23
  rw [h2]
  have z0 : (0 : Int32).toInt = 0 := rfl
  by_cases c1 : x < 0
  · rw [if_pos c1, b1_f (fun e => by rw [Int32.lt_iff_toInt_lt] at c1; omega)]; rfl
  · rw [if_neg c1]
    rw [Int32.lt_iff_toInt_lt] at c1
    by_cases c2 : nI a ≤ x
    · rw [if_pos c2, b1_f (fun e => by rw [Int32.le_iff_toInt_le, nI_toInt (by omega)] at c2; omega)]; rfl
    · rw [if_neg c2]
      rw [Int32.le_iff_toInt_le, nI_toInt (by omega)] at c2
      have z6 : (6 : Int32).toInt = 6 := rfl
      rw [if_neg (show ¬ (6 : Int32) ≤ x by rw [Int32.le_iff_toInt_le]; omega), b1_t (by omega)]; rfl
theorem clampN {lo hi : Nat} {x : Int32} (h : bw lo hi x) (hh : hi < 2 ^ 30) : x = nI x.toNatClampNeg ∧ x.toNatClampNeg ≤ hi := by
  obtain ⟨b, _, h2, rfl⟩ := bw_nat h hh
  rw [nI_clamp (by omega)]
  exact ⟨rfl, h2⟩
theorem both_stock {n k a : Nat} {s0 s1 s2 s3 s4 s5 s7 s8 s9 s10 s11 : OS} (h : RelN n k s0 s1 s2 s3 s4 s5 s7 s8 s9 s10 s11) (ha : s0.1 0 9 = nI a) (ha6 : a ≤ 6) (kk : Int32) : ∃ (st L : Nat) (w v W : Nat → Nat) (q M : Nat → Int32) (P : Nat → Nat) (u m : OS), f10_takeStock kk s0 s4 = some u ∧ f11_stocks kk s11 = some m ∧ AsH a st L w v W q M u ∧ MsH a st L w v W q M P m ∧ (∀ r, r ≠ 0 → r ≠ 4 → r ≠ 5 → u.1 r = s0.1 r) ∧ (∀ i, i ≠ 10 → u.1 0 i = s0.1 0 i) ∧ (∀ r, r ≠ 0 → r ≠ 88 → m.1 r = s11.1 r) ∧ (∀ i, i ≠ 90 → m.1 0 i = s11.1 0 i) ∧ m.2 = s11.2 := by
  obtain ⟨hV, ⟨p1, p2, p3, p4, p5, p6, p7, p8, p9, p10, p11, p12, p13⟩, hD, hL, hS, hT, hW, ⟨a', g1, g2, g3, g4, g5, g6, g7, g8, g9⟩, hM⟩ := h
  have haa : a' = a := by
    rw [g2] at ha
    exact (nI_eq (by omega) (by omega)).mp ha
  subst haa
  obtain ⟨u, c1, c2, c3, c4, c5⟩ := c_stock (s0 := s0) (k := kk) p1 p2
  obtain ⟨m, r1, r2, r3, r4, r5, r6⟩ := r_stock (m := s11) (k := kk) p1 p3
  rw [p4, p8, p11] at c4 c5
  obtain ⟨V, hVd⟩ : ∃ V, V = selP (s11.1 12) (s11.1 16) (s11.1 19) kk := ⟨_, rfl⟩
  rw [← hVd] at c4 c5 r5 r6
  obtain ⟨st, hst⟩ : ∃ st, st = min 4 (cntB V n) := ⟨_, rfl⟩
  rw [← hst] at c4 c5 r5 r6
  have hP : ∀ s, s < st → (m.1 88 s).toNatClampNeg < n ∧ m.1 88 s = nI (m.1 88 s).toNatClampNeg ∧ u.1 4 s = s11.1 14 (m.1 88 s).toNatClampNeg ∧ u.1 5 s = s11.1 15 (m.1 88 s).toNatClampNeg := by
    intro s hs
    obtain ⟨x, x1, x2, x3, x4, x5⟩ := c5 s hs
    obtain ⟨y, y1, y2, y3, y4⟩ := r6 s hs
    have hxy : x = y := cnt_inj x2 y2 (by rw [x3, y3])
    subst hxy
    rw [y4, nI_clamp (by omega)]
    exact ⟨x1, rfl, by rw [x4, p6], by rw [x5, p7]⟩
  have hw9 : ∀ i, i < a' → s11.1 85 i = nI (s11.1 85 i).toNatClampNeg ∧ (s11.1 85 i).toNatClampNeg ≤ 1000000000 := fun i hi => clampN (lo := 1) (hi := 1000000000) (g9 i hi).1 (by omega)
  have hv9 : ∀ i, i < a' → s11.1 86 i = nI (s11.1 86 i).toNatClampNeg ∧ (s11.1 86 i).toNatClampNeg ≤ 1000 := fun i hi => clampN (lo := 1) (hi := 1000) (g9 i hi).2.1 (by omega)
  have hL9 := clampN (lo := 0) (hi := 1000000) g5 (by omega)
  have hW9 : ∀ s, s < st → s11.1 14 (m.1 88 s).toNatClampNeg = nI (s11.1 14 (m.1 88 s).toNatClampNeg).toNatClampNeg ∧ (s11.1 14 (m.1 88 s).toNatClampNeg).toNatClampNeg ≤ 1000000000 := fun s hs => clampN (lo := 0) (hi := 1000000000) (p12 _ (hP s hs).1).2.1 (by omega)
  refine ⟨st, (s11.1 0 89).toNatClampNeg, fun i => (s11.1 85 i).toNatClampNeg, fun i => (s11.1 86 i).toNatClampNeg, fun s => (s11.1 14 (m.1 88 s).toNatClampNeg).toNatClampNeg, s11.1 87, fun s => s11.1 15 (m.1 88 s).toNatClampNeg, fun s => (m.1 88 s).toNatClampNeg, u, m, c1, r1, ⟨⟨g1, by omega, hL9.2⟩, ⟨by rw [c3 9 (by decide)]; exact g2, c4, by rw [c3 11 (by decide), g4]; exact hL9.1⟩, fun i hi => ?_, fun s hs => ?_⟩, ⟨⟨g1, by omega, hL9.2⟩, ⟨by rw [r3 10 (by decide)]; exact g3, r5, by rw [r3 89 (by decide)]; exact hL9.1⟩, fun i hi => ?_, fun s hs => ?_⟩, c2, c3, r2, r3, r4⟩
  · rw [c2 1 (by decide) (by decide) (by decide), c2 2 (by decide) (by decide) (by decide), c2 3 (by decide) (by decide) (by decide), g6, g7, g8]
    exact ⟨(hw9 i hi).1, (hv9 i hi).1, rfl, (hw9 i hi).2, (hv9 i hi).2⟩
  · obtain ⟨z1, z2, z3, z4⟩ := hP s hs
    exact ⟨z3.trans (hW9 s hs).1, z4, (hW9 s hs).2⟩
  · rw [r2 85 (by decide) (by decide), r2 86 (by decide) (by decide), r2 87 (by decide) (by decide)]
    exact ⟨(hw9 i hi).1, (hv9 i hi).1, rfl, (hw9 i hi).2, (hv9 i hi).2⟩
  · obtain ⟨z1, z2, z3, z4⟩ := hP s hs
    rw [r2 14 (by decide) (by decide), r2 15 (by decide) (by decide)]
    exact ⟨⟨z2, show (m.1 88 s).toNatClampNeg < 150 by omega⟩, (hW9 s hs).1, rfl, (hW9 s hs).2⟩
theorem st_best {k : Nat} {s0 s1 s2 s3 s4 s5 s6 s7 s8 s9 s10 s11 : OS} (h : Rel k s0 s1 s2 s3 s4 s5 s6 s7 s8 s9 s10 s11) (hk : k < 512) (a1 : Int32) (a2 : Int32) : ∃ (rc : Int64 × OS) (rr : Int64 × OS), f10_best a1 a2 s0 s4 = some rc ∧ f11_best a1 a2 s11 = some rr ∧ rc.1 = rr.1 ∧ Rel (k + 1) rc.2 s1 s2 s3 s4 s5 s6 s7 s8 s9 s10 rr.2 := by
  obtain ⟨n, hN⟩ := h.toN
  obtain ⟨hV, hP, hD, hL, hS, hT, hW, ⟨a, g1, g2, g3, g4, g5, g6, g7, g8, g9⟩, hM⟩ := id hN
  have main : (a2 = -1 ∨ a2 = 10 ∨ ∃ i, i < a ∧ a2 = nI i) → ∃ (rc : Int64 × OS) (rr : Int64 × OS), (Option.bind (f10_takeStock a1 s0 s4) fun q_45 => Option.bind (f0_findBest q_45) fun q_52 => Option.bind (f0_tellBest a2 q_52) fun q_60 => some (q_60, q_52)) = some rc ∧ f11_best_j38 a1 a2 s11 = some rr ∧ rc.1 = rr.1 ∧ Rel (k + 1) rc.2 s1 s2 s3 s4 s5 s6 s7 s8 s9 s10 rr.2 := by
    intro ha2
    obtain ⟨st, L, w, v, W, q, M, P, u, m, e1, e2, e3, e4, e5, e6, e7, e8, e9⟩ := both_stock hN g2 g1 a1
    obtain ⟨m1, hm1⟩ : ∃ m1, m1 = wI m 0 92 (-1) := ⟨_, rfl⟩
    have hFn : Fn m m1 := by
      subst hm1
      exact ⟨fun r h1 _ => wI_of h1, fun i h1 _ => if_neg h1, fun _ _ => rfl⟩
    obtain ⟨m', r1, r2, r3⟩ := r_all (e4.fn hFn) ⟨fun _ => by subst hm1; rfl, fun r z => by cases z⟩
    obtain ⟨u', c1, c2, c3⟩ := c_findBest e3
    obtain ⟨r, hr, hf⟩ := foB_some (a := a) (st := st) (L := L) (w := w) (v := v) (W := W) (q := q) (M := M)
    obtain ⟨b1', b2', b3', b4'⟩ := r3.2 r hf
    obtain ⟨b5', b6', b7'⟩ := c3.2 r hf
    have h5a : 5 ^ a ≤ 15625 := Nat.le_trans (Nat.pow_le_pow_right (by omega) g1) (by decide)
    have hch : f11_chooses a1 s11 = some m' := by
      unfold f11_chooses
      rw [e2, Option.bind_some, nm_p, ← hm1]; exact r1
    have hR : ∀ x y : OS, x = u' → y = m' → Rel (k + 1) x s1 s2 s3 s4 s5 s6 s7 s8 s9 s10 y := by
      intro x y hx hy
      subst hx hy
      refine Rel.asks hN ?_ ?_ ?_ ?_ ?_ (fun r h1 h2 h3 => ?_) (fun i h1 h2 h3 => ?_) (fun r h1 => ?_)
      · rw [c2.1 1 (by decide) (by decide) (by decide) (by decide), e5 1 (by decide) (by decide) (by decide)]
      · rw [c2.1 2 (by decide) (by decide) (by decide) (by decide), e5 2 (by decide) (by decide) (by decide)]
      · rw [c2.1 3 (by decide) (by decide) (by decide) (by decide), e5 3 (by decide) (by decide) (by decide)]
      · rw [c2.2 9 (by decide) (by decide), e6 9 (by decide)]
      · rw [c2.2 11 (by decide) (by decide), e6 11 (by decide)]
      · rw [r2.1 r h1 h3, hFn.1 r h1 h3, e7 r h1 h2]
      · rw [r2.2.1 i h2 h3, hFn.2.1 i h2 h3, e8 i h1]
      · rw [r2.2.2 r h1, hFn.2.2 r h1, e9]
    unfold f11_best_j38
    rw [e1, Option.bind_some, c1, Option.bind_some, hch, Option.bind_some]
    unfold f0_tellBest f0_tellBest_j44
    rcases ha2 with rfl | rfl | ⟨i, hi, rfl⟩
    · rw [if_pos rfl, if_pos rfl]
      exact ⟨_, _, rfl, rfl, by show (u'.1 0 12).toInt64 = (m'.1 0 93).toInt64; rw [b5', b3'], hR _ _ rfl rfl⟩
    · rw [if_neg (show ¬ (10 : Int32) = -1 by decide), if_neg (show ¬ (10 : Int32) = -1 by decide), if_pos rfl, if_pos rfl]
      refine ⟨_, _, rfl, rfl, ?_, hR _ _ rfl rfl⟩
      show (u'.1 0 13).toInt64 = m'.2 0 94
      have hl := losS_le (L := L) (w := w) (W := W) (e := dg a r) (a := a) 4
      have hl2 : 4 * (a * L) ≤ 4 * 6000000 := Nat.mul_le_mul (Nat.le_refl _) (Nat.le_trans (Nat.mul_le_mul g1 e3.1.2.2) (by omega))
      rw [b6', ← Int64.toInt_inj, b4', nl_toInt (by omega)]
    · have hi1 : ¬ nI i = (-1 : Int32) := fun z => by
        have := congrArg Int32.toInt z
        rw [nI_toInt (by omega)] at this
        have : (i : Int) = -1 := this
        omega
      have hi2 : ¬ nI i = (10 : Int32) := fun z => by
        have := (nI_eq (a := i) (b := 10) (by omega) (by omega)).mp z
        omega
      have hu' := e3.fa c2
      have hm'a : m'.1 0 10 = nI a := ((e4.fn hFn).fn r2).2.1.1
      rw [if_neg hi1, if_neg hi1, if_neg hi2, if_neg hi2, c_hasI hu' hi, Option.bind_some, if_neg (show ¬ (1 : Int32) = 0 by decide), nI_clamp (by omega), inb_n (show i < 6 by omega) (by omega)]
      simp only [chk_p, nm_p, b7' i hi, b2', hm'a]
      rw [show nI a - (1 : Int32) = nI (a - 1) by rw [show (1 : Int32) = nI 1 from rfl, pk_sub (by omega)]]
      have key : ∃ o, loop (f11_best_l78 (nI i) m') (nI r, nI (a - 1)) = some o ∧ o = ((nI (dg a r i)).toInt64, m') := by
        refine loop_inv (a - 1 - i) (fun c (t : Int32 × Int32) => c ≤ a - 1 - i ∧ t.1 = nI (r / 5 ^ c) ∧ t.2 = nI (a - 1 - c)) _ ?_ (a - 1 - i) 0 _ (by omega) ⟨by omega, by rw [Nat.pow_zero, Nat.div_one], by rw [Nat.sub_zero]⟩
        rintro c ⟨x, y⟩ ⟨hc, d1, d2⟩
        have d1 : x = nI (r / 5 ^ c) := d1
        have d2 : y = nI (a - 1 - c) := d2
        subst d1 d2
        have hq5 : r / 5 ^ c ≤ r := Nat.div_le_self _ _
        have hrem : nI (r / 5 ^ c) - nI (r / 5 ^ c) / 5 * 5 = nI (r / 5 ^ c % 5) := pk_rem (a := r / 5 ^ c) (d := 5) (by omega) (by omega) (by omega)
        have hdiv : nI (r / 5 ^ c) / 5 = nI (r / 5 ^ c / 5) := pk_div (a := r / 5 ^ c) (d := 5) (by omega) (by omega) (by omega)
        unfold f11_best_l78
        by_cases cc : c = a - 1 - i
        · right
          refine ⟨_, ?_, rfl⟩
          show (if nI (a - 1 - c) ≤ nI i then Option.map Sum.inr (some ((nI (r / 5 ^ c) - nI (r / 5 ^ c) / 5 * 5).toInt64, m')) else _) = _
          rw [if_pos (nI_le (by omega) (by omega)), hrem]
          unfold dg
          rw [cc]; rfl
        · left
          refine ⟨by omega, ?_⟩
          show ∃ t, (if nI (a - 1 - c) ≤ nI i then _ else nm (nI (r / 5 ^ c) / 5) fun n_87 => nm (nI (a - 1 - c) + (-1)) fun n_88 => some (Sum.inl (n_87, n_88))) = some (Sum.inl t) ∧ _
          rw [if_neg (nI_ge (by omega) (by omega)), hdiv, show a - 1 - c = a - 1 - (c + 1) + 1 by omega, pk_m1]
          refine ⟨_, rfl, by omega, ?_, rfl⟩
          show nI (r / 5 ^ c / 5) = _
          rw [Nat.div_div_eq_div_mul, Nat.pow_succ]
      obtain ⟨o, k1, rfl⟩ := key
      rw [k1]
      exact ⟨_, _, rfl, rfl, rfl, hR _ _ rfl rfl⟩
  unfold f10_best f10_best_j22 f10_best_j27 f10_best_j39 f11_best f11_best_j34
  rw [c_isKind, r_isKind, c_has0 g1 g2, r_lies0 (by omega) g3]
  simp only [Option.bind_some, if_b1]
  by_cases h1 : 0 ≤ a1.toInt ∧ a1.toInt ≤ 7
  · simp only [if_pos h1]
    by_cases h2 : a2 = -1
    · rw [if_pos h2, if_pos h2, if_neg (show ¬ (1 : Int32) = 0 by decide)]
      exact main (Or.inl h2)
    · rw [if_neg h2, if_neg h2]
      by_cases h3 : a2 = 10
      · rw [if_pos h3, if_pos h3, if_neg (show ¬ (1 : Int32) = 0 by decide)]
        exact main (Or.inr (Or.inl h3))
      · rw [if_neg h3, if_neg h3]
        by_cases h4 : 0 ≤ a2.toInt ∧ a2.toInt < a
        · rw [if_pos h4, if_pos h4, if_neg (show ¬ (1 : Int32) = 0 by decide)]
          exact main (Or.inr (Or.inr (nI_of_in h4 (by omega))))
        · rw [if_neg h4, if_neg h4]
          simp only [↓reduceIte]
          exact ⟨_, _, rfl, rfl, rfl, h.same⟩
  · simp only [if_neg h1, ite_self]
    exact ⟨_, _, rfl, rfl, rfl, h.same⟩
theorem updN_id (e : Nat → Nat) (i : Nat) : updN e i (e i) = e := by
  funext j
  unfold updN
  by_cases c : j = i
  · rw [if_pos c, c]
  · rw [if_neg c]
theorem c_judge {a st L : Nat} {w v W : Nat → Nat} {q M : Nat → Int32} {u : OS} {row : Nat} {e : Nat → Nat} (h : AsH a st L w v W q M u) (hr : row < 15625) (he : e = fun i => row / 5 ^ i % 5) : ∃ r u', f0_worthOfRow (nI row) u = some (r, u') ∧ Fa u u' ∧ ((Rgt a st L w W q M e ∧ r = nI (woS v e a)) ∨ (¬ Rgt a st L w W q M e ∧ r = -2)) := by
  obtain ⟨ha, hst, hL⟩ := id h.1
  have e4 : ∀ i, e i ≤ 4 := fun i => by
    rw [he]
    have := Nat.mod_lt (row / 5 ^ i) (show 0 < 5 by omega)
    show row / 5 ^ i % 5 ≤ 4
    omega
  obtain ⟨u1, k1, k2, -, k3⟩ := c_none u w e
  have key : ∃ o : Int32 × OS, f0_worthOfRow (nI row) u = some o ∧ Fa u o.2 ∧ ((Rgt a st L w W q M e ∧ o.1 = nI (woS v e a)) ∨ (¬ Rgt a st L w W q M e ∧ o.1 = -2)) := by
    unfold f0_worthOfRow
    rw [k1, Option.bind_some]
    refine loop_inv a (fun i (t : Int32 × Int32 × Int32 × OS) => i ≤ a ∧ t.1 = nI (row / 5 ^ i) ∧ t.2.1 = nI (woS v e i) ∧ t.2.2.1 = nI i ∧ Fa u t.2.2.2 ∧ SvC w e i t.2.2.2 ∧ ∀ j, j < i → e j = 4 ∨ okQ st M q (e j) j) _ ?_ a 0 _ (by omega) ⟨by omega, by rw [Nat.pow_zero, Nat.div_one], rfl, rfl, k2.fa, k3, fun j hj => by omega⟩
    rintro i ⟨x, y, z, t⟩ ⟨hi, d1, d2, d3, d4, d5, d6⟩
    have d1 : x = nI (row / 5 ^ i) := d1
    have d2 : y = nI (woS v e i) := d2
    have d3 : z = nI i := d3
    subst d1 d2 d3
    have d4 : Fa u t := d4
    have d5 : SvC w e i t := d5
    have ht := h.fa d4
    have hq5 : row / 5 ^ i ≤ row := Nat.div_le_self _ _
    have ei : e i = row / 5 ^ i % 5 := by rw [he]
    have hrem : nI (row / 5 ^ i) - nI (row / 5 ^ i) / 5 * 5 = nI (e i) := by rw [ei]; exact pk_rem (a := row / 5 ^ i) (d := 5) (by omega) (by omega) (by omega)
    have hdiv : nI (row / 5 ^ i) / 5 = nI (row / 5 ^ i / 5) := pk_div (a := row / 5 ^ i) (d := 5) (by omega) (by omega) (by omega)
    unfold f0_worthOfRow_l11 f0_worthOfRow_j76 f0_worthOfRow_j84 f0_worthOfRow_j98
    by_cases c : i = a
    · right
      subst c
      obtain ⟨r, l1, l2⟩ := c_losses ht d5 d6
      have bl := Nat.le_trans (losS_le (L := L) (w := w) (W := W) (e := e) (a := i) 4) (show 4 * (i * L) ≤ 24000000 by
        have := Nat.mul_le_mul ha hL
        omega)
      show ∃ o, (if t.1 0 9 ≤ nI i then (Option.map Sum.inr (Option.bind (f0_lossesOfRow t) fun q_85 => if q_85 = (-1 : Int32) then some ((-2 : Int32), t) else some (nI (woS v e i), t)) : Option ((Int32 × Int32 × Int32 × OS) ⊕ (Int32 × OS))) else _) = some (Sum.inr o) ∧ _
      rw [ht.2.1.1, if_pos (show nI i ≤ nI i from nI_le (Nat.le_refl _) (by omega)), l1, Option.bind_some]
      rcases l2 with ⟨rfl, l2⟩ | ⟨rfl, l2⟩
      · rw [if_neg (fun z => by
          have := congrArg Int32.toInt z
          rw [nI_toInt (by omega)] at this
          have : ((losS L w W e i 4 : Nat) : Int) = -1 := this
          omega)]
        exact ⟨_, rfl, d4, Or.inl ⟨(Rgt_pre d6).mpr l2, rfl⟩⟩
      · rw [if_pos rfl]
        exact ⟨_, rfl, d4, Or.inr ⟨fun z => l2 ((Rgt_pre d6).mp z), rfl⟩⟩
    · have hlt : i < a := by omega
      obtain ⟨x, s1, s2⟩ := c_canServe ht d5 hlt (e4 i)
      show (i < a ∧ ∃ t', (if t.1 0 9 ≤ nI i then _ else _) = some (Sum.inl t') ∧ _) ∨ ∃ r, (if t.1 0 9 ≤ nI i then _ else _) = some (Sum.inr r) ∧ _
      rw [ht.2.1.1, if_neg (nI_ge hlt (by omega)), if_neg (show ¬ (6 : Int32) ≤ nI i from nI_ge (a := i) (b := 6) (by omega) (by omega))]
      simp only [nm_p]
      rw [hrem, hdiv, s1]
      simp only [Option.bind_some]
      have wu : woS v e (i + 1) = woS v e i + if e i = 4 then 0 else v i := rfl
      rcases s2 with ⟨rfl, s2⟩ | ⟨rfl, hp4, s2⟩
      · left
        refine ⟨hlt, ?_⟩
        obtain ⟨u2, q1, q2, q3⟩ := c_serve ht d5 hlt (e4 i)
        rw [updN_id] at q3
        have hu2 := ht.fa q2.fa
        rw [if_neg (show ¬ (1 : Int32) = 0 by decide), q1, Option.bind_some]
        have fin : ∀ j, j < i + 1 → e j = 4 ∨ okQ st M q (e j) j := fun j hj => by
          by_cases c2 : j = i
          · subst c2; exact s2.imp id (fun z => z.1)
          · exact d6 j (by omega)
        have hdd : nI (row / 5 ^ i / 5) = nI (row / 5 ^ (i + 1)) := by rw [Nat.div_div_eq_div_mul, Nat.pow_succ]
        by_cases c4 : e i = 4
        · rw [if_pos c4] at wu
          rw [if_pos (show nI (e i) = (4 : Int32) from congrArg nI c4)]
          refine ⟨_, rfl, by omega, hdd, ?_, nI_1 i, d4.trans q2.fa, q3, fin⟩
          show nI (woS v e i) + 0 = _
          rw [wu, Int32.add_zero]; rfl
        · rw [if_neg c4] at wu
          rw [if_neg (show ¬ nI (e i) = (4 : Int32) from fun z => c4 ((nI_eq (a := e i) (b := 4) (by have := e4 i; omega) (by omega)).mp z)), nI_clamp (by omega), inb_n (show i < 6 by omega) (by omega), chk_p, (hu2.2.2.1 i hlt).2.1]
          refine ⟨_, rfl, by omega, hdd, ?_, nI_1 i, d4.trans q2.fa, q3, fin⟩
          show nI (woS v e i) + nI (v i) = _
          rw [wu, nI_add]
      · right
        rw [if_pos rfl]
        exact ⟨_, rfl, d4, Or.inr ⟨Rgt_not hlt hp4 (fun _ _ => rfl) rfl s2, rfl⟩⟩
  obtain ⟨⟨r, u'⟩, z1, z2⟩ := key
  exact ⟨r, u', z1, z2⟩
theorem c_isRow {a : Nat} {u : OS} (ha : a ≤ 6) (h : u.1 0 9 = nI a) (x : Int32) : f0_isRow x u = some (b1 (0 ≤ x.toInt ∧ x.toInt < ((5 ^ a : Nat) : Int))) := by
  have hb : ∀ i, i ≤ 6 → 5 ^ i ≤ 15625 := fun i hi => Nat.le_trans (Nat.pow_le_pow_right (by omega) hi) (by decide)
  have h5 := hb a ha
  unfold f0_isRow
  refine Exists.elim (loop_inv (f := f0_isRow_l4 x u) a (fun i (t : Int32 × Int32) => i ≤ a ∧ t.1 = nI (5 ^ i) ∧ t.2 = nI i) (fun r => r = b1 (0 ≤ x.toInt ∧ x.toInt < ((5 ^ a : Nat) : Int))) ?_ a 0 ((1 : Int32), (0 : Int32)) (by omega) ⟨by omega, rfl, rfl⟩) (fun r hr => by rw [hr.1, hr.2])
  rintro i ⟨p, y⟩ ⟨hi, e1, e2⟩
  have e1 : p = nI (5 ^ i) := e1
  have e2 : y = nI i := e2
  subst e1 e2
  unfold f0_isRow_l4 f0_isRow_j35 f0_isRow_j36
  by_cases c : i = a
  · right
    subst c
    have z0 : (0 : Int32).toInt = 0 := rfl
    show ∃ r, (if u.1 0 9 ≤ nI i then (Option.map Sum.inr (if x < 0 then chk (isB (0 : Int32)) (some (0 : Int32)) else (if nI (5 ^ i) ≤ x then chk (isB (0 : Int32)) (some (0 : Int32)) else chk (isB (1 : Int32)) (some (1 : Int32)))) : Option ((Int32 × Int32) ⊕ Int32)) else _) = some (Sum.inr r) ∧ _
    rw [h, if_pos (show nI i ≤ nI i from nI_le (Nat.le_refl _) (by omega))]
    by_cases c1 : x < 0
    · rw [if_pos c1]
      refine ⟨_, rfl, ?_⟩
      rw [Int32.lt_iff_toInt_lt] at c1
      rw [b1_f (fun z => by omega)]
    · rw [if_neg c1]
      rw [Int32.lt_iff_toInt_lt] at c1
      by_cases c2 : nI (5 ^ i) ≤ x
      · rw [if_pos c2]
        refine ⟨_, rfl, ?_⟩
        rw [Int32.le_iff_toInt_le, nI_toInt (by omega)] at c2
        rw [b1_f (fun z => by omega)]
      · rw [if_neg c2]
        refine ⟨_, rfl, ?_⟩
        rw [Int32.le_iff_toInt_le, nI_toInt (by omega)] at c2
        rw [b1_t (by omega)]
  · left
    have := hb i (by omega)
    refine ⟨by omega, ?_⟩
    show ∃ t, (if u.1 0 9 ≤ nI i then _ else _) = some (Sum.inl t) ∧ _
    rw [h, if_neg (nI_ge (show i < a by omega) (by omega))]
    simp only [nm_p, nI_1]
    exact ⟨_, rfl, by omega, by rw [show (5 : Int32) = nI 5 from rfl, pk_mul, Nat.pow_succ], rfl⟩
theorem st_judge {k : Nat} {s0 s1 s2 s3 s4 s5 s6 s7 s8 s9 s10 s11 : OS} (h : Rel k s0 s1 s2 s3 s4 s5 s6 s7 s8 s9 s10 s11) (hk : k < 512) (a1 : Int32) (a2 : Int32) : ∃ (rc : Int32 × OS) (rr : Int32 × OS), f10_judge a1 a2 s0 s4 = some rc ∧ f11_judge a1 a2 s11 = some rr ∧ rc.1 = rr.1 ∧ Rel (k + 1) rc.2 s1 s2 s3 s4 s5 s6 s7 s8 s9 s10 rr.2 := by
  obtain ⟨n, hN⟩ := h.toN
  obtain ⟨hV, hP, hD, hL, hS, hT, hW, ⟨a, g1, g2, g3, g4, g5, g6, g7, g8, g9⟩, hM⟩ := id hN
  have h5a : 5 ^ a ≤ 15625 := Nat.le_trans (Nat.pow_le_pow_right (by omega) g1) (by decide)
  unfold f10_judge f10_judge_j18 f11_judge f11_judge_j27
  rw [c_isKind, r_isKind, c_isRow g1 g2, g3, r_rowsOf g1]
  simp only [Option.bind_some, if_b1]
  rw [r_lies0 (n := 5 ^ a) (by omega) rfl]
  simp only [Option.bind_some, if_b1]
  by_cases h1 : 0 ≤ a1.toInt ∧ a1.toInt ≤ 7
  · rw [if_pos h1, if_pos h1]
    by_cases h2 : 0 ≤ a2.toInt ∧ a2.toInt < ((5 ^ a : Nat) : Int)
    · rw [if_pos h2, if_pos h2]
      obtain ⟨row, hrow, rfl⟩ := nI_of_in h2 (by omega)
      obtain ⟨e, he⟩ : ∃ e : Nat → Nat, e = fun i => row / 5 ^ i % 5 := ⟨_, rfl⟩
      obtain ⟨st, L, w, v, W, q, M, P, u, m, e1, e2, e3, e4, e5, e6, e7, e8, e9⟩ := both_stock hN g2 g1 a1
      obtain ⟨r, u', c1, c2, c3⟩ := c_judge e3 (show row < 15625 by omega) he
      rw [e1, Option.bind_some, c1, Option.bind_some, e2, Option.bind_some]
      have bW : woS v e a ≤ 6000 := Nat.le_trans (woS_le e a (fun j hj => (e3.2.2.1 j hj).2.2.2.2)) (Nat.mul_le_mul_right 1000 g1)
      have key : ∃ o : Int32 × OS, loop (f11_judge_l39) (nI row, (0 : Int32), m) = some o ∧ o.1 = r ∧ Rel (k + 1) u' s1 s2 s3 s4 s5 s6 s7 s8 s9 s10 o.2 := by
        refine loop_inv a (fun i (t : Int32 × Int32 × OS) => i ≤ a ∧ t.1 = nI (row / 5 ^ i) ∧ t.2.1 = nI i ∧ Fn m t.2.2 ∧ ∀ j, j < i → t.2.2.1 89 j = nI (e j)) _ ?_ a 0 _ (by omega) ⟨by omega, by rw [Nat.pow_zero, Nat.div_one], rfl, Fn.refl m, fun j hj => by omega⟩
        rintro i ⟨x, y, t⟩ ⟨hi, d1, d2, d3, d4⟩
        have d1 : x = nI (row / 5 ^ i) := d1
        have d2 : y = nI i := d2
        subst d1 d2
        have d3 : Fn m t := d3
        have d4 : ∀ j, j < i → t.1 89 j = nI (e j) := d4
        have ht := e4.fn d3
        have hq5 : row / 5 ^ i ≤ row := Nat.div_le_self _ _
        have ei : e i = row / 5 ^ i % 5 := by rw [he]
        have hrem : nI (row / 5 ^ i) - nI (row / 5 ^ i) / 5 * 5 = nI (e i) := by rw [ei]; exact pk_rem (a := row / 5 ^ i) (d := 5) (by omega) (by omega) (by omega)
        have hdiv : nI (row / 5 ^ i) / 5 = nI (row / 5 ^ i / 5) := pk_div (a := row / 5 ^ i) (d := 5) (by omega) (by omega) (by omega)
        unfold f11_judge_l39 f11_judge_j87
        by_cases c : i = a
        · right
          subst c
          obtain ⟨x, m', w1, w2, w3, w4, w5⟩ := r_worth ht (e := e) (fun j hj => ⟨d4 j hj, by
            rw [he]
            have := Nat.mod_lt (row / 5 ^ j) (show 0 < 5 by omega)
            show row / 5 ^ j % 5 ≤ 4
            omega⟩)
          have hR : Rel (k + 1) u' s1 s2 s3 s4 s5 s6 s7 s8 s9 s10 m' := by
            refine Rel.asks hN ?_ ?_ ?_ ?_ ?_ (fun r h1 h2 h3 => ?_) (fun i h1 h2 h3 => ?_) (fun r h1 => ?_)
            · rw [c2.1 1 (by decide) (by decide) (by decide) (by decide), e5 1 (by decide) (by decide) (by decide)]
            · rw [c2.1 2 (by decide) (by decide) (by decide) (by decide), e5 2 (by decide) (by decide) (by decide)]
            · rw [c2.1 3 (by decide) (by decide) (by decide) (by decide), e5 3 (by decide) (by decide) (by decide)]
            · rw [c2.2 9 (by decide) (by decide), e6 9 (by decide)]
            · rw [c2.2 11 (by decide) (by decide), e6 11 (by decide)]
            · rw [w2, d3.1 r h1 h3, e7 r h1 h2]
            · rw [w2, d3.2.1 i h2 h3, e8 i h1]
            · rw [w3 r h1, d3.2.2 r h1, e9]
          show ∃ o, (if t.1 0 10 ≤ nI i then (Option.map Sum.inr (Option.bind (f11_worthOfRow t) fun q_69 => if q_69.1 = (-1 : Int32) then some ((-2 : Int32), q_69.2) else some (q_69.1, q_69.2)) : Option ((Int32 × Int32 × OS) ⊕ (Int32 × OS))) else _) = some (Sum.inr o) ∧ _
          rw [ht.2.1.1, if_pos (show nI i ≤ nI i from nI_le (Nat.le_refl _) (by omega)), w1, Option.bind_some]
          rcases c3 with ⟨R1, rfl⟩ | ⟨R1, rfl⟩
          · rcases w5 with ⟨_, hx, _⟩ | ⟨R2, _⟩
            · rw [if_neg (show ¬ x = -1 from fun z => by
                rw [hx] at z
                have := congrArg Int32.toInt z
                rw [nI_toInt (by omega)] at this
                have : ((woS v e i : Nat) : Int) = -1 := this
                omega)]
              exact ⟨_, rfl, hx, hR⟩
            · exact absurd R1 R2
          · rcases w5 with ⟨R2, _, _⟩ | ⟨_, hx⟩
            · exact absurd R2 R1
            · rw [if_pos hx]
              exact ⟨_, rfl, rfl, hR⟩
        · have hlt : i < a := by omega
          left
          refine ⟨hlt, ?_⟩
          show ∃ t', (if t.1 0 10 ≤ nI i then _ else _) = some (Sum.inl t') ∧ _
          rw [ht.2.1.1, if_neg (nI_ge hlt (by omega)), nI_clamp (by omega), inb_n (show i < 6 by omega) (by omega), chk_p]
          simp only [nm_p, nI_1]
          rw [hrem, hdiv]
          refine ⟨_, rfl, by omega, ?_, rfl, d3.trans ⟨fun r' h1 h2 => wI_of h2, fun i _ _ => rfl, fun _ _ => rfl⟩, fun j hj => ?_⟩
          · show nI (row / 5 ^ i / 5) = _
            rw [Nat.div_div_eq_div_mul, Nat.pow_succ]
          · show (if j = i then nI (e i) else t.1 89 j) = nI (e j)
            by_cases c2 : j = i
            · rw [if_pos c2, c2]
            · rw [if_neg c2]; exact d4 j (by omega)
      obtain ⟨o, k1, k2, k3⟩ := key
      exact ⟨_, o, rfl, k1, k2.symm, k3⟩
    · rw [if_neg h2, if_neg h2]
      exact ⟨_, _, rfl, rfl, rfl, h.same⟩
  · rw [if_neg h1, if_neg h1]
    exact ⟨_, _, rfl, rfl, rfl, h.same⟩
