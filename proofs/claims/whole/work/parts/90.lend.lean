-- step: lend
theorem cl_F {T : Nat → Int32} {n z st : Nat} {L F S cf ct : Int32} {a42 a43 : Nat → Int32} {env : Nat → Int64} {b : Bool} (h : ClH T n z st L F S cf ct a42 a43 env b) : bw 0 999999 F ∧ ¬ F = -1 ∧ (L = 98 ∨ L = 100 ∨ L = 116 ∨ L = 120) := by
  rcases h.1 with ⟨h1, I, J, h2, h3, h4, h5⟩ | ⟨h1, N, h2, h3, h4⟩
  · rw [h4]
    exact ⟨⟨by rw [nI_toInt (by omega)]; omega, by rw [nI_toInt (by omega)]; omega⟩, nI_m1 (by omega), Or.inr (Or.inr (Or.inr h1))⟩
  · rw [h3]
    refine ⟨⟨by rw [nI_toInt (by omega)]; omega, by rw [nI_toInt (by omega)]; omega⟩, nI_m1 (by omega), ?_⟩
    rcases h1 with h1 | h1 | h1
    · exact Or.inl h1
    · exact Or.inr (Or.inl h1)
    · exact Or.inr (Or.inr (Or.inl h1))
theorem st_lend {k : Nat} {s0 s1 s2 s3 s4 s5 s6 s7 s8 s9 s10 s11 : OS} (h : Rel k s0 s1 s2 s3 s4 s5 s6 s7 s8 s9 s10 s11) (hk : k < 512) (a1 : Int32) (a2 : Int32) : ∃ (rc : Int32 × OS × OS × OS × OS × OS) (rr : Int32 × OS), f10_lend a1 a2 s1 s2 s4 s5 s6 s10 = some rc ∧ f11_lend a1 a2 s11 = some rr ∧ rc.1 = rr.1 ∧ Rel (k + 1) s0 rc.2.1 rc.2.2.1 s3 rc.2.2.2.1 rc.2.2.2.2.1 rc.2.2.2.2.2 s7 s8 s9 s10 rr.2 := by
  obtain ⟨n, ⟨hg, ht, htr, hgr⟩, hP, hD, ⟨a, c, q1, q2, q3, q4, q5, q6, q7, q8, q9, q10, q11, q12, q13, q14, q15, q16⟩, hS, hT, hW, hA, hM, ⟨r, b1', b2, b3, b4, b5, b6, b7, b8⟩⟩ := id h
  obtain ⟨p1, p2, p3, p4, p5, p6, p7, p8, p9, p10, p11, p12, p13⟩ := id hP
  have e100 : (nI c = (100 : Int32)) ↔ c = 100 := nI_eq (a := c) (b := 100) (by omega) (by omega)
  have hroom : f2_hasRoom s2 = some (b1 (c < 100)) := by
    unfold f2_hasRoom f2_hasRoom_j14
    rw [q5]
    by_cases g1 : c < 100
    · rw [if_neg (show ¬ (100 : Int32) ≤ nI c from nI_ge (a := c) (b := 100) g1 (by omega)), b1_t g1]; rfl
    · rw [if_pos (show (100 : Int32) ≤ nI c from nI_le (a := 100) (b := c) (by omega) (by omega)), b1_f g1]; rfl
  unfold f10_lend f10_lend_j32 f11_lend f11_lend_j33
  rw [c_isAtHand p1 p2, c_hasAsker q1 q3, hroom, r_isOpen p1 p3, r_lies0 (by omega) q4, q6, p8, p11]
  simp only [Option.bind_some, if_b1]
  by_cases h1 : ((0 ≤ a1.toInt ∧ a1.toInt < n) ∧ (s11.1 16 a1.toNatClampNeg).toInt < 10) ∧ s11.1 19 a1.toNatClampNeg = 0
  · simp only [if_pos h1]
    by_cases h2 : 0 ≤ a2.toInt ∧ a2.toInt < a
    · simp only [if_pos h2]
      by_cases h3 : c < 100
      · simp only [if_pos h3]
        rw [if_neg (fun e => by have := e100.mp e; omega)]
        obtain ⟨p, hp, rfl⟩ := nI_of_in h1.1.1 (by omega)
        obtain ⟨q, hq, rfl⟩ := nI_of_in h2 (by omega)
        have hcl := nI_clamp (n := p) (by omega)
        have h10 : (s11.1 16 p).toInt < 10 := by rw [← hcl]; exact h1.1.2
        obtain ⟨s6', t1, t2, t3⟩ := l_env (s6 := s6) ht hP q1 q2 q3 q5 q6 q7 q8 q10 q13 q14 q16 hp hq
        obtain ⟨K, N, H, hC⟩ := b8.toH b1' b7 (s6'.2 3)
        obtain ⟨fc, hfc⟩ : ∃ fc : Nat → Bool, fc = fun t => decide ((s11.1 34 t).toInt ≤ (s11.1 0 2).toInt ∧ (s11.1 0 2).toInt ≤ (s11.1 35 t).toInt) := ⟨_, rfl⟩
        have hR : RuS r K (s11.1 37) (s11.1 38) (s11.1 39) := ⟨b1', fun i hi => ⟨(hC i hi).2.2.1, fun j hj hL => by
          obtain ⟨p', _, _, z⟩ := (hC i hi).2.2.2.2.2 j hj
          rcases z.1 with ⟨_, z⟩ | ⟨z, _⟩
          · exact z
          · rw [hL] at z
            rcases z with z | z | z <;> exact absurd z (by decide)⟩⟩
        have hMC : MC r K N fc H (s11.1 37) (s11.1 38) (s11.1 39) (s6'.2 3) (s10.1 0 9) s5 := ⟨b2, fun i hi => by
          obtain ⟨z1, z2, z3, z4, z5, z6⟩ := hC i hi
          refine ⟨z1, z2, by rw [b6]; exact z4, z5, by rw [hfc, b4, b5, ht], fun j hj => ?_⟩
          obtain ⟨p', _, x1, x2⟩ := z6 j hj
          exact ⟨p', x1, (cl_F x2).2.2, x2.2.1⟩⟩
        have hF : ∀ i, i < r → ∀ j, j < K i → ¬ s11.1 38 (12 * i + j) = -1 := fun i hi j hj => by
          obtain ⟨p', _, _, z⟩ := (hC i hi).2.2.2.2.2 j hj
          exact (cl_F z).2.1
        have hFb : ∀ i, i < r → ∀ j, j < K i → bw 0 999999 (s11.1 38 (12 * i + j)) := fun i hi j hj => by
          obtain ⟨p', _, _, z⟩ := (hC i hi).2.2.2.2.2 j hj
          exact (cl_F z).1
        simp only [nm_p]
        obtain ⟨m1, hm1e⟩ : ∃ m1, m1 = wI (wI s11 0 53 (nI p)) 0 54 (nI q) := ⟨_, rfl⟩
        have l1 : FrL s11 m1 := by
          subst hm1e
          exact ⟨fun r' z1 _ _ => (lw_row z1).trans (lw_row z1), fun _ _ => rfl, fun x z1 z2 => (lw_n z2).trans (lw_n z1)⟩
        have v53 : m1.1 0 53 = nI p := by subst hm1e; exact (lw_n (by decide)).trans lw_s
        have v54 : m1.1 0 54 = nI q := by subst hm1e; exact lw_s
        have hm1 : MR r K fc (s11.1 37) (s11.1 38) (s11.1 39) m1 := ⟨(l1.2.2 6 (by decide) (by decide)).trans b3, fun i hi => by rw [l1.1 36 (by decide) (by decide) (by decide)]; exact (hC i hi).2.2.2.1, fun i hi => by rw [hfc, l1.1 34 (by decide) (by decide) (by decide), l1.1 35 (by decide) (by decide) (by decide), l1.2.2 2 (by decide) (by decide)], l1.1 37 (by decide) (by decide) (by decide), l1.1 38 (by decide) (by decide) (by decide), l1.1 39 (by decide) (by decide) (by decide)⟩
        rw [← hm1e]
        obtain ⟨m2, e2, f2, x2⟩ := r_strikes hR hm1
        have hm2 := hm1.frX f2
        have l2 := l1.ex f2
        have hH : ∀ c0 : Int32, ¬ c0 = 120 → ∀ i j, i < r → j < K i → s11.1 37 (12 * i + j) = c0 → ∀ m, FrE m2 m → ∃ m', f11_holds (nI (12 * i + j)) m = some (bI (H (12 * i + j)), m') ∧ FrE m m' := fun c0 hc0 i j hi hj hL m hm => by
          obtain ⟨p', _, _, z⟩ := (hC i hi).2.2.2.2.2 j hj
          have l3 := l2.ee hm
          have h0 : m.1 0 = m1.1 0 := (hm.1 0 (by decide)).trans (f2.1 0 (by decide))
          exact z.2.2 (by rw [hL]; exact hc0) m (t3 m l3.1 l3.2.1 (by rw [h0, v53]) (by rw [h0, v54]) (l3.2.2 3 (by decide) (by decide)) (l3.2.2 5 (by decide) (by decide)) (l3.2.2 2 (by decide) (by decide))) (by rw [l3.1 40 (by decide) (by decide) (by decide)]) (by rw [l3.1 41 (by decide) (by decide) (by decide)]) (l3.1 42 (by decide) (by decide) (by decide)) (l3.1 43 (by decide) (by decide) (by decide))
        obtain ⟨qc, ec, u, s6'', hqc, fu, u9, u10, u11⟩ := c_apply hMC hR hF rfl
        obtain ⟨m3, g3, e3⟩ := r_clauseOf (c0 := 98) hR hm2 x2 (hH 98 (by decide)) (FrE.refl m2)
        subst hqc
        rw [t1, Option.bind_some, ec, Option.bind_some, e2, Option.bind_some, e3, Option.bind_some]
        obtain ⟨X, hXe⟩ : ∃ X, X = dnX (s11.1 37) (s11.1 38) (s11.1 39) fc K r (fun _ => false) := ⟨_, rfl⟩
        rw [← hXe] at u9 u10 u11 x2 ⊢
        have l3 := l2.ee g3
        unfold f5_isBarred
        by_cases c98 : dR (cdX (s11.1 37) X H 98) fc K r = -1
        · rw [if_pos c98] at u9
          dsimp only
          rw [u9, show isB (0 : Int32) = true from by decide, chk_p, Option.bind_some, if_pos rfl, if_pos c98]
          obtain ⟨m4, g4, e4⟩ := r_clauseOf (c0 := 116) hR hm2 x2 (hH 116 (by decide)) g3
          have l4 := l2.ee g4
          rw [e4, Option.bind_some]
          dsimp only
          obtain ⟨L, hL⟩ : ∃ L, L = s11.1 37 := ⟨_, rfl⟩
          obtain ⟨F, hFe⟩ : ∃ F, F = s11.1 38 := ⟨_, rfl⟩
          have hfd : ∀ c0, dR (cdX (s11.1 37) X H c0) fc K r = -1 ∨ ∃ z, z < 240 ∧ dR (cdX (s11.1 37) X H c0) fc K r = nI z ∧ bw 0 999999 (s11.1 38 z) ∧ ¬ s11.1 38 z = -1 := fun c0 => by
            rcases dR_is (cd := cdX (s11.1 37) X H c0) (fc := fc) (K := K) r with e | ⟨i', j', z1, z2, z3, z4⟩
            · exact Or.inl e
            · have := (hC i' z1).2.2.1
              exact Or.inr ⟨12 * i' + j', by omega, z3, hFb i' z1 j' z2, hF i' z1 j' z2⟩
          have fin : ∃ (rc : Int32 × OS × OS × OS × OS × OS) (rr : Int32 × OS), (Option.bind (f5_days u) fun q_92 => (if ((s10.1 0 9) + q_92) < (99999 : Int32) then ((s10.1 0 9) + q_92) else (99999 : Int32)) |> fun n_99 => Option.bind (f4_weightOf (nI p) s4) fun q_110 => Option.bind (f4_change (nI p) q_110 ((0 : Int32)) ((10 : Int32)) ((s10.1 0 9)) s1 s4) fun q_120 => Option.bind (f2_begin (nI p) (nI q) ((s10.1 0 9)) n_99 s2) fun q_134 => some (q_134.1, q_120.1, q_134.2, q_120.2, u, s6'')) = some rc ∧
              f11_lend_j125 (nI p) (nI q) m4 = some rr ∧ rc.1 = rr.1 ∧ Rel (k + 1) s0 rc.2.1 rc.2.2.1 s3 rc.2.2.2.1 rc.2.2.2.2.1 rc.2.2.2.2.2 s7 s8 s9 s10 rr.2 := by
            obtain ⟨m5, g5, e5⟩ := r_clauseOf (c0 := 100) hR hm2 x2 (hH 100 (by decide)) g4
            have l5 := l2.ee g5
            have hend : ∀ dd, bw 0 999999 dd → _ := fun dd hd => l_end (h.lnd (s6' := s6'') l5 fu) hk (p := p) (q := q) (fun n' z1 z2 => by
              have : n = n' := (nI_eq (a := n) (b := n') (by omega) (by omega)).mp (p2.symm.trans z2)
              omega) (fun a' z1 z2 => by
              have : a = a' := (nI_eq (a := a) (b := a') (by omega) (by omega)).mp (q3.symm.trans z2)
              omega) (fun e => by
              rw [q5] at e
              have := e100.mp e
              omega) hd
            unfold f11_lend_j125 f5_days f5_days_j17
            rw [e5, Option.bind_some, u10]
            dsimp only
            rcases hfd 100 with e | ⟨z, z1, z2, z3, z4⟩
            · rw [e, if_pos rfl, show vF (s11.1 38) (-1) = -1 from rfl, if_pos rfl, Option.bind_some]
              have := hend 30 ⟨by decide, by decide⟩
              simp only [nm_p] at this
              exact this
            · have ev : vF (s11.1 38) (nI z) = s11.1 38 z := by
                unfold vF
                rw [if_neg (nI_m1 (by omega)), nI_clamp (by omega)]
              rw [z2, if_neg (nI_m1 (n := z) (by omega)), ev, if_neg z4, Option.bind_some, inb_n z1 (by omega), chk_p, nm_p, nI_clamp (by omega), l5.1 38 (by decide) (by decide) (by decide)]
              have := hend _ z3
              simp only [nm_p] at this
              exact this
          have hin := inb_n (show p < 150 by omega) (by omega : 150 < 2 ^ 31)
          simp only [hin, chk_p, hcl, l4.1 15 (by decide) (by decide) (by decide), l4.1 12 (by decide) (by decide) (by decide), l4.1 38 (by decide) (by decide) (by decide), l4.2.1 21 (by decide)]
          unfold f5_thousandths f5_thousandths_j16
          rw [u11]
          rcases hfd 116 with e | ⟨z, z1, z2, z3, z4⟩
          · rw [e, if_pos (show vF (s11.1 38) (-1) = -1 from rfl), Option.bind_some, l_keeps hP hp h10, Option.bind_some, b1_f (fun e' => e'.2 (kpt_nn hP _)), if_pos rfl, if_pos rfl, ite_self]
            exact fin
          · have ev : vF (s11.1 38) (nI z) = s11.1 38 z := by
              unfold vF
              rw [if_neg (nI_m1 (by omega)), nI_clamp (by omega)]
            rw [z2, ev, if_neg z4, Option.bind_some, l_keeps hP hp h10, Option.bind_some, if_neg (nI_m1 (n := z) (by omega)), if_b1]
            have ew : f11_inCabinets (s11.1 12 p) 1 (nI p) m4 = some (kpt s11 n p) := by
              rw [r_without p1 ((l4.2.2 3 (by decide) (by decide)).trans p3) hp (fun x hx => by rw [l4.1 16 (by decide) (by decide) (by decide)]; exact (p12 x hx).2.2.2.1.1), l4.1 12 (by decide) (by decide) (by decide), l4.1 14 (by decide) (by decide) (by decide), l4.1 15 (by decide) (by decide) (by decide), l4.1 16 (by decide) (by decide) (by decide)]
              rfl
            obtain ⟨kd, kd1, kd2, kd3⟩ := bw_nat (lo := 0) (hi := 7) (p12 p hp).1 (by omega)
            have hin8 : inb (s11.1 12 p) 8 = true := by rw [kd3]; exact inb_n (by omega) (by omega)
            rw [ew, Option.bind_some, inb_n z1 (by omega), chk_p, hin8, chk_p, nI_clamp (n := z) (by omega)]
            by_cases c15 : s11.1 15 p = 0
            · rw [if_pos c15]
              by_cases cq : 0 ≤ lg_cmp (kpt s11 n p * 1000) ((s11.1 38 z).toInt64 * s11.2 21 (s11.1 12 p).toNatClampNeg)
              · rw [if_neg (fun e => e.2 cq), if_pos cq]
                exact fin
              · rw [if_pos ⟨c15, cq⟩, if_neg cq]
                exact ⟨_, _, rfl, rfl, rfl, (h.lnd (s6' := s6'') l4 fu).same⟩
            · rw [if_neg c15, if_neg (fun e => c15 e.1)]
              exact fin
        · rw [if_neg c98] at u9
          dsimp only
          rw [u9, show isB (1 : Int32) = true from by decide, chk_p, Option.bind_some, if_neg (by decide), if_neg c98]
          exact ⟨_, _, rfl, rfl, rfl, (h.lnd (s6' := s6'') l3 fu).same⟩
      · rw [if_neg h3, if_pos (e100.mpr (by omega))]
        exact ⟨_, _, rfl, rfl, rfl, h.same⟩
    · simp only [if_neg h2, ite_self]
      exact ⟨_, _, rfl, rfl, rfl, h.same⟩
  · simp only [if_neg h1, ite_self]
    exact ⟨_, _, rfl, rfl, rfl, h.same⟩
