-- steps: where, the step itself
theorem st_where {k : Nat} {s0 s1 s2 s3 s4 s5 s6 s7 s8 s9 s10 s11 : OS} (h : Rel k s0 s1 s2 s3 s4 s5 s6 s7 s8 s9 s10 s11) (hk : k < 512) (a1 : Int32) (a2 : Int32) : ∃ (rc : Int32 × OS) (rr : Int32 × OS), f10_where a1 a2 s9 s10 = some rc ∧ f11_where a1 a2 s11 = some rr ∧ rc.1 = rr.1 ∧ Rel (k + 1) s0 s1 s2 s3 s4 s5 s6 s7 s8 rc.2 s10 rr.2 := by
  obtain ⟨n, ⟨hg, ht, htr, hgr⟩, hP, hD, hL, hS, hT, ⟨g, t, q1, q2, q3, q4, q5, q6, q7, q8, q9, q10, q11, q12⟩, hA⟩ := id h
  unfold f10_where f10_where_j30 f11_where f11_where_j28
  rw [c_hasGift q1 q3, r_isGift q1 q4]
  simp only [Option.bind_some, if_b1]
  by_cases h1 : 0 ≤ a1.toInt ∧ a1.toInt < g
  · simp only [if_pos h1]
    obtain ⟨x, hx, rfl⟩ := nI_of_in h1 (by omega)
    have hxc := nI_clamp (n := x) (by omega)
    obtain ⟨gz, gy⟩ := q10 x hx
    obtain ⟨z0, -, hz0, ez0⟩ := bw_nat (lo := 0) (hi := 99999) gz (by omega)
    obtain ⟨y0, -, hy0, ey0⟩ := bw_nat (lo := 0) (hi := 15) gy (by omega)
    rw [c_givenOnP q1 q3 hx, q7]
    simp only [Option.bind_some, hxc, inb_n (show x < 40 by omega) (by omega : 40 < 2 ^ 31), chk_p, nm_p, ez0, c_isWithin, r_lies, if_b1, Int32.toInt_toInt64]
    by_cases h2 : (nI z0).toInt ≤ a2.toInt ∧ a2.toInt ≤ (s10.1 0 9).toInt
    · rw [if_pos h2, if_pos (show (nI z0).toInt ≤ a2.toInt ∧ a2.toInt ≤ (s11.1 0 2).toInt by rw [← ht]; exact h2)]
      rw [nI_toInt (by omega)] at h2
      have htr2 := htr.2
      obtain ⟨day, hday, rfl⟩ := nI_of_in (x := a2) (n := 100000) (by omega) (by omega)
      have hzd : z0 ≤ day := by have := h2.1; rw [nI_toInt (by omega)] at this; omega
      have hday' : day ≤ 99999 := by omega
      obtain ⟨yC, hyC⟩ : ∃ f : Nat → Nat, f = fun i => (s9.1 5 i).toNatClampNeg := ⟨_, rfl⟩
      obtain ⟨zC, hzC⟩ : ∃ f : Nat → Nat, f = fun i => (s9.1 6 i).toNatClampNeg := ⟨_, rfl⟩
      obtain ⟨yM, hyM⟩ : ∃ f : Nat → Nat, f = fun i => (s11.1 83 i).toNatClampNeg := ⟨_, rfl⟩
      obtain ⟨zM, hzM⟩ : ∃ f : Nat → Nat, f = fun i => (s11.1 84 i).toNatClampNeg := ⟨_, rfl⟩
      have hC : TlC s9 (g + t) yC zC := by
        refine ⟨by omega, q5, fun i hi => ?_⟩
        have hb : bw 0 15 (s9.1 5 i) ∧ bw 0 99999 (s9.1 6 i) := by
          rcases (q12 (s9.1 4 i) (s9.1 5 i) (s9.1 6 i)).mp ⟨i, hi, rfl, rfl, rfl⟩ with ⟨j, hj, _, e2, e3⟩ | ⟨j, hj, _, e2, e3⟩
          · rw [← e2, ← e3]; exact ⟨(q10 j hj).2, (q10 j hj).1⟩
          · rw [← e2, ← e3]; exact ⟨(q11 j hj).2.1, (q11 j hj).2.2⟩
        obtain ⟨a, -, ha, ea⟩ := bw_nat (lo := 0) (hi := 15) hb.1 (by omega)
        obtain ⟨b, -, hb', eb⟩ := bw_nat (lo := 0) (hi := 99999) hb.2 (by omega)
        subst hyC hzC
        simp only [ea, eb, nI_clamp (n := a) (by omega), nI_clamp (n := b) (by omega)]
        exact ⟨trivial, ha, trivial, hb'⟩
      have hM : TlM s11 x t y0 z0 yM zM := by
        refine ⟨by omega, q2, q6, ez0, ey0, hy0, hz0, fun i hi => ?_⟩
        obtain ⟨a, -, ha, ea⟩ := bw_nat (lo := 0) (hi := 15) (q11 i hi).2.1 (by omega)
        obtain ⟨b, -, hb', eb⟩ := bw_nat (lo := 0) (hi := 99999) (q11 i hi).2.2 (by omega)
        subst hyM hzM
        simp only [ea, eb, nI_clamp (n := a) (by omega), nI_clamp (n := b) (by omega)]
        exact ⟨trivial, ha, trivial, hb'⟩
      have hTT : ∀ a c, told (fun i => s9.1 4 i = nI x) yC zC (g + t) a c ↔ TM (fun i => s11.1 82 i = nI x) yM zM y0 z0 t a c := by
        intro a c
        constructor
        · rintro ⟨i, hi, hp, rfl, rfl⟩
          obtain ⟨b1', b2', b3', b4'⟩ := hC.2.2 i hi
          rcases (q12 (nI x) (s9.1 5 i) (s9.1 6 i)).mp ⟨i, hi, hp, rfl, rfl⟩ with ⟨j, hj, e1, e2, e3⟩ | ⟨j, hj, e1, e2, e3⟩
          · have hjx := (nI_eq (a := j) (b := x) (by omega) (by omega)).mp e1
            subst hjx
            rw [ey0, b1'] at e2
            rw [ez0, b3'] at e3
            exact Or.inl ⟨((nI_eq (by omega) (by omega)).mp e2).symm, ((nI_eq (by omega) (by omega)).mp e3).symm⟩
          · obtain ⟨c1, c2, c3, c4⟩ := hM.2.2.2.2.2.2.2 j hj
            rw [c1, b1'] at e2
            rw [c3, b3'] at e3
            exact Or.inr ⟨j, hj, e1, (nI_eq (by omega) (by omega)).mp e2, (nI_eq (by omega) (by omega)).mp e3⟩
        · rintro (⟨rfl, rfl⟩ | ⟨j, hj, e1, rfl, rfl⟩)
          · obtain ⟨i, hi, e1, e2, e3⟩ := (q12 (nI x) (nI a) (nI c)).mpr (Or.inl ⟨x, hx, rfl, ey0, ez0⟩)
            obtain ⟨b1', b2', b3', b4'⟩ := hC.2.2 i hi
            rw [b1'] at e2
            rw [b3'] at e3
            exact ⟨i, hi, e1, (nI_eq (by omega) (by omega)).mp e2, (nI_eq (by omega) (by omega)).mp e3⟩
          · obtain ⟨c1, c2, c3, c4⟩ := hM.2.2.2.2.2.2.2 j hj
            obtain ⟨i, hi, f1, f2, f3⟩ := (q12 (nI x) (nI (yM j)) (nI (zM j))).mpr (Or.inr ⟨j, hj, e1, c1, c3⟩)
            obtain ⟨b1', b2', b3', b4'⟩ := hC.2.2 i hi
            rw [b1'] at f2
            rw [b3'] at f3
            exact ⟨i, hi, f1, (nI_eq (by omega) (by omega)).mp f2, (nI_eq (by omega) (by omega)).mp f3⟩
      have h16 : ∀ a c, told (fun i => s9.1 4 i = nI x) yC zC (g + t) a c → a < 16 := by
        rintro a c ⟨i, hi, _, rfl, _⟩
        have := (hC.2.2 i hi).2.1
        omega
      have hbase : told (fun i => s9.1 4 i = nI x) yC zC (g + t) y0 z0 := (hTT _ _).mpr (Or.inl ⟨rfl, rfl⟩)
      obtain ⟨r1, c1, l1⟩ := c_latest (X := nI x) hC hday'
      obtain ⟨r2, c2, l2⟩ := c_next (X := nI x) hC hday'
      obtain ⟨L, rfl, hLd, hLe, hLm⟩ : ∃ L, r1 = nI L ∧ L ≤ day ∧ (∃ a, told (fun i => s9.1 4 i = nI x) yC zC (g + t) a L) ∧ ∀ a c, told (fun i => s9.1 4 i = nI x) yC zC (g + t) a c → c ≤ day → c ≤ L := by
        rcases l1 with ⟨_, e⟩ | e
        · have := e _ _ hbase; omega
        · exact e
      obtain ⟨r3, c3, l3⟩ := c_place (X := nI x) (d := L) hC (by omega)
      obtain ⟨bd, k1, k2⟩ := r_toldOn (d := day) hM hday'
      obtain ⟨bL, k3, k4⟩ := r_toldOn (d := L) hM (by omega)
      unfold f9_placesOn f9_placesOn_j44 f9_placesOn_j109
      rw [c1, Option.bind_some, c2, Option.bind_some, c3, Option.bind_some, k1, Option.bind_some]
      by_cases hLday : L = day
      · -- told on the day itself
        subst hLday
        have hnz : ¬ nI (mkB bd 16) = 0 := by
          intro e
          have e := mk_zero.mp e
          obtain ⟨a, ha⟩ := hLe
          have := (k2 a (h16 _ _ ha)).mpr ((hTT _ _).mp ha)
          rw [e a (h16 _ _ ha)] at this
          cases this
        rw [if_pos rfl, if_neg hnz, size_one, Option.bind_some]
        unfold f11_where_j54
        rcases pla_mask l3 hTT k2 h16 hLe with ⟨q, hq, rfl, hs⟩ | ⟨rfl, hns⟩
        · rw [isPl hq, Option.bind_some, if_neg (by decide), if_pos (size_is.mpr (ones_one.mpr ⟨q, hq, hs⟩)), mk_one hq hs]
          exact ⟨_, _, rfl, rfl, rfl, h.same⟩
        · rw [isPl2, Option.bind_some, if_pos rfl, if_neg (fun e => hns (size_is.mp e))]
          exact ⟨_, _, rfl, rfl, rfl, h.same⟩
      · have hz : nI (mkB bd 16) = 0 := by
          refine mk_zero.mpr (fun j hj => ?_)
          cases hb : bd j
          · rfl
          · have := (hTT _ _).mpr ((k2 j hj).mp hb)
            have := hLm _ _ this (Nat.le_refl _)
            omega
        have hz0 : z0 < day := by have := hLm _ _ hbase hzd; omega
        obtain ⟨L', m1, m2, ⟨a', m3⟩, m4⟩ := r_before hM hday' hz0
        have hLL : L' = L := by
          have e1 := hLm _ _ ((hTT _ _).mpr m3) (by omega)
          obtain ⟨a, ha⟩ := hLe
          have e2 := m4 _ _ ((hTT _ _).mp ha) (by omega)
          omega
        subst hLL
        obtain ⟨r2', m5, m6⟩ := r_after hM hday' hzd
        have e22 := (NexS.congr hTT l2).same m6
        subst e22
        rw [if_neg (fun e => hLday ((nI_eq (by omega) (by omega)).mp e)), if_pos hz, m1, Option.bind_some, m5, Option.bind_some, k3, Option.bind_some]
        unfold f11_where_j99 f11_where_j125
        rw [size_one, Option.bind_some]
        obtain ⟨w1, w2, w3⟩ := ways_ok q8 q9
        rcases pla_mask l3 hTT k4 h16 hLe with ⟨q, hq, rfl, hs⟩ | ⟨rfl, hns⟩
        · rw [isPl hq, Option.bind_some, if_neg (by decide), if_pos (size_is.mpr (ones_one.mpr ⟨q, hq, hs⟩)), pk_sub (show L' ≤ day by omega)]
          obtain ⟨b1', s9', d1, d2, d3, d4⟩ := c_reachable (s := s9) (a := q) (B := day - L') hq (by omega) w2
          rw [d1, Option.bind_some]
          rcases m6 with ⟨e1, e2⟩ | ⟨N, e1, e2, e9, hNe, e4⟩
          · rw [if_pos e1, if_pos e1, if_pos e1]
            obtain ⟨d, m', f1, f2, f3⟩ := r_j127 (m := s11) (w := wOf s11) (L := L') (bp := bL) (v7 := 0) (fun _ _ => true) w1 hq hs (by omega) hday' (Or.inl ⟨e1, fun _ _ => rfl⟩)
            rw [f3]
            refine ⟨_, _, rfl, rfl, ?_, h.w2 d2 f1.1 f1.2.1⟩
            show nI (mkB b1' 16) = nI (mkB _ 16)
            congr 1
            refine mkB_congr 16 (fun v hv => ?_)
            rw [Bool.and_true]
            by_cases c : b1' v = true
            · rw [c, decide_eq_true ((f2 q v _ hq hv).mpr ((d4 v hv).mp c))]
            · rw [decide_eq_false (fun e => c ((d4 v hv).mpr ((f2 q v _ hq hv).mp e)))]
              simpa using c
          · subst e1
            rw [if_neg (nI_m1 (n := N) (by omega)), if_neg (nI_m1 (n := N) (by omega))]
            obtain ⟨bN, k5, k6⟩ := r_toldOn (d := N) hM e9
            have hC' := hC.r2 d2
            obtain ⟨r4, c4, l4⟩ := c_place (X := nI x) (d := N) hC' e9
            rw [show (fun i => s9'.1 4 i = nI x) = (fun i => s9.1 4 i = nI x) by rw [d2 4 (by decide)]] at l4
            rw [k5, Option.bind_some, Option.bind_some, if_pos (size_is.mpr (ones_one.mpr ⟨q, hq, hs⟩)), if_neg (nI_m1 (n := N) (by omega)), c4, Option.bind_some, size_one, Option.bind_some]
            have hNe' : ∃ a, told (fun i => s9.1 4 i = nI x) yC zC (g + t) a N := by
              obtain ⟨a, ha⟩ := hNe
              exact ⟨a, (hTT _ _).mpr ha⟩
            rcases pla_mask l4 hTT k6 h16 hNe' with ⟨q', hq', rfl, hs'⟩ | ⟨rfl, hns'⟩
            · rw [isPl hq', Option.bind_some, if_neg (by decide), if_pos (size_is.mpr (ones_one.mpr ⟨q', hq', hs'⟩)), pk_sub (show day ≤ N by omega)]
              have w2' : WwR s9' (wOf s11) := by
                unfold WwR; rw [d2 1 (by decide)]; exact w2
              obtain ⟨b2', s9'', g1, g2, g3, g4⟩ := c_reachable (s := s9') (a := q') (B := N - day) hq' (by omega) w2'
              rw [g1, Option.bind_some]
              obtain ⟨d, m', f1, f2, f3⟩ := r_j127 (m := s11) (w := wOf s11) (L := L') (bp := bL) (N' := nI N) (v7 := nI (mkB bN 16)) (fun d v => decide (d v q' ≤ N - day)) w1 hq hs (by omega) hday' (Or.inr ⟨N, q', bN, rfl, e2, e9, hq', rfl, hs', fun _ _ => rfl⟩)
              rw [f3]
              refine ⟨_, _, rfl, rfl, ?_, h.w2 (fun r hr => (g2 r hr).trans (d2 r hr)) f1.1 f1.2.1⟩
              show nI (mkB b1' 16) &&& nI (mkB b2' 16) = nI (mkB _ 16)
              rw [mkB_and]
              congr 1
              refine mkB_congr 16 (fun v hv => ?_)
              have z1 : b1' v = decide (d q v ≤ day - L') := by
                by_cases c : b1' v = true
                · rw [c, decide_eq_true ((f2 q v _ hq hv).mpr ((d4 v hv).mp c))]
                · rw [decide_eq_false (fun e => c ((d4 v hv).mpr ((f2 q v _ hq hv).mp e)))]
                  simpa using c
              have z2 : b2' v = decide (d v q' ≤ N - day) := by
                by_cases c : b2' v = true
                · rw [c, decide_eq_true ((f2 v q' _ hv hq').mpr (Ck_sym w3 (Nat.le_refl _) hq' hv ((g4 v hv).mp c)))]
                · rw [decide_eq_false (fun e => c ((g4 v hv).mpr (Ck_sym w3 (Nat.le_refl _) hv hq' ((f2 v q' _ hv hq').mp e))))]
                  simpa using c
              rw [z1, z2]
            · rw [isPl2, Option.bind_some, if_pos rfl, if_neg (fun e => hns' (size_is.mp e))]
              exact ⟨_, _, rfl, rfl, rfl, h.w2 d2 (fun _ _ => rfl) rfl⟩
        · rw [isPl2, Option.bind_some, if_pos rfl, if_neg (fun e => hns (size_is.mp e))]
          by_cases hN : r2 = -1
          · rw [if_pos hN]; exact ⟨_, _, rfl, rfl, rfl, h.same⟩
          · rw [if_neg hN]
            rcases m6 with ⟨e1, e2⟩ | ⟨N, e1, e2, e9, hNe, e4⟩
            · exact absurd e1 hN
            · subst e1
              obtain ⟨bN, k5, k6⟩ := r_toldOn (d := N) hM e9
              simp only [k5, Option.bind_some]
              rw [if_neg (fun e => hns (size_is.mp e))]
              exact ⟨_, _, rfl, rfl, rfl, h.same⟩
    · rw [if_neg h2, if_neg (show ¬ ((nI z0).toInt ≤ a2.toInt ∧ a2.toInt ≤ (s11.1 0 2).toInt) by rw [← ht]; exact h2)]
      exact ⟨_, _, rfl, rfl, rfl, h.same⟩
  · simp only [if_neg h1]
    exact ⟨_, _, rfl, rfl, rfl, h.same⟩
