-- the step rules
theorem nar_ch {x : Int32} (h : bw 0 255 x) : vp_nar .char x = x := by
  obtain ⟨a, _, h2, rfl⟩ := bw_nat (lo := 0) (hi := 255) h (by omega)
  have : ∀ q : Fin 256, vp_nar .char (nI q.1) = nI q.1 := by decide +kernel
  exact this ⟨a, by omega⟩
theorem c_turn {s5 s6 : OS} {base n : Nat} (hb : base + n ≤ 3200) (hn : n ≤ 160) (hT : ∀ i, i < n → bw 0 255 (s5.1 1 (base + i))) : ∃ s', f6_turnTo (nI base) (nI n) s5 s6 = some s' ∧ (s'.1 0 3 = nI n ∧ s'.1 0 4 = 0 ∧ s'.1 0 6 = 0) ∧ (∀ i, i < n → s'.1 1 i = s5.1 1 (base + i)) ∧ s'.2 = s6.2 := by
  unfold f6_turnTo
  rw [nm_p]
  refine loop_inv n (fun i (t : Int32 × OS) => i ≤ n ∧ t.1 = nI i ∧ t.2.1 0 3 = nI i ∧ (∀ x, x < i → t.2.1 1 x = s5.1 1 (base + x)) ∧ t.2.2 = s6.2) _ ?_ n 0 _ (by omega) ⟨by omega, rfl, rfl, fun x hx => by omega, rfl⟩
  rintro i ⟨y, u⟩ ⟨hi, e1, e2, e3, e4⟩
  have e1 : y = nI i := e1
  subst e1
  have e2 : u.1 0 3 = nI i := e2
  have e3 : ∀ x, x < i → u.1 1 x = s5.1 1 (base + x) := e3
  have e4 : u.2 = s6.2 := e4
  unfold f6_turnTo_l8 f6_turnTo_j63 f6_turnTo_j69
  by_cases c : i = n
  · right
    subst c
    refine ⟨wI (wI u 0 4 0) 0 6 0, ?_, ⟨e2, rfl, wI_at⟩, e3, e4⟩
    show (if nI i ≤ nI i then _ else _) = _
    rw [if_pos (show nI i ≤ nI i from nI_le (Nat.le_refl _) (by omega))]; rfl
  · left
    have hlt : i < n := by omega
    refine ⟨hlt, ?_⟩
    show ∃ t, (if nI n ≤ nI i then _ else _) = some (Sum.inl t) ∧ _
    rw [if_neg (nI_ge hlt (by omega)), if_neg (show ¬ (160 : Int32) ≤ nI i from nI_ge (a := i) (b := 160) (by omega) (by omega)), nm_p]
    show ∃ t, (if nI base + nI i < 0 then _ else if (3200 : Int32) ≤ nI base + nI i then _ else _) = some (Sum.inl t) ∧ _
    rw [nI_add, if_neg (nI_pos (n := base + i) (by omega)), if_neg (show ¬ (3200 : Int32) ≤ nI (base + i) from nI_ge (a := base + i) (b := 3200) (by omega) (by omega))]
    simp only [nI_clamp (n := base + i) (by omega), nI_clamp (n := i) (by omega), inb_n (show base + i < 3200 by omega) (by omega : 3200 < 2 ^ 31), inb_n (show i < 160 by omega) (by omega : 160 < 2 ^ 31), chk_p, nm_p, nI_1]
    rw [nar_ch (hT i hlt)]
    refine ⟨_, rfl, by omega, rfl, wI_at, fun x hx => ?_, e4⟩
    show (if x = i then s5.1 1 (base + i) else u.1 1 x) = _
    by_cases c2 : x = i
    · rw [if_pos c2, c2]
    · rw [if_neg c2]; exact e3 x (by omega)
theorem Rel.rul {n k : Nat} {s0 s1 s2 s3 s4 s5 s7 s8 s9 s10 s11 s5' s6' s8' m : OS} (h : RelN n k s0 s1 s2 s3 s4 s5 s7 s8 s9 s10 s11) (f1 : ∀ q, q ≠ 0 → (q < 34 ∨ 43 < q) → q ≠ 53 → m.1 q = s11.1 q) (f2 : ∀ i, i ≠ 1 → i ≠ 6 → (i < 43 ∨ 51 < i) → m.1 0 i = s11.1 0 i) (f3 : m.2 = s11.2) (hT : RelT s8' (m.1 0 1) (m.1 1)) (hB : RelB s5' (m.1 0 6) (m.1 34) (m.1 35) (m.1 36) (m.1 37) (m.1 38) (m.1 39) (m.1 40) (m.1 41) (m.1 42) (m.1 43)) : Rel (k + 1) s0 s1 s2 s3 s4 s5' s6' s7 s8' s9 s10 m := by
  obtain ⟨h1, h2, h3, h4, h5, h6, h7, h8, h9, h10⟩ := h.up
  have F1 : ∀ q, q ≠ 0 ∧ (q < 34 ∨ 43 < q) ∧ q ≠ 53 → m.1 q = s11.1 q := fun q hq => f1 q hq.1 hq.2.1 hq.2.2
  have F2 : ∀ i, i ≠ 1 ∧ i ≠ 6 ∧ (i < 43 ∨ 51 < i) → m.1 0 i = s11.1 0 i := fun i hi => f2 i hi.1 hi.2.1 hi.2.2
  refine ⟨n, ?_, ?_, ?_, ?_, ?_, hT, ?_, ?_, ?_, hB⟩
  · rw [F1 20 (by decide), F2 2 (by decide)]; exact h1
  · rw [f3, F2 3 (by decide), F1 12 (by decide), F1 13 (by decide), F1 14 (by decide), F1 15 (by decide), F1 16 (by decide), F1 17 (by decide), F1 18 (by decide), F1 19 (by decide)]; exact h2
  · rw [F2 24 (by decide), F1 26 (by decide), F1 27 (by decide), F1 28 (by decide), F1 29 (by decide), F1 30 (by decide)]; exact h3
  · rw [f3, F2 4 (by decide), F2 5 (by decide), F1 31 (by decide), F1 32 (by decide), F1 59 (by decide), F1 60 (by decide), F1 61 (by decide), F1 62 (by decide), F1 63 (by decide), F1 64 (by decide)]; exact h4
  · rw [F2 7 (by decide), F1 65 (by decide), F1 66 (by decide), F1 67 (by decide), F1 68 (by decide)]; exact h5
  · rw [F2 8 (by decide), F2 9 (by decide), F1 78 (by decide), F1 80 (by decide), F1 81 (by decide), F1 82 (by decide), F1 83 (by decide), F1 84 (by decide)]; exact h7
  · rw [F2 10 (by decide), F2 89 (by decide), F1 85 (by decide), F1 86 (by decide), F1 87 (by decide)]; exact h8
  · rw [F2 68 (by decide), F2 69 (by decide), F1 71 (by decide), F1 76 (by decide), F1 77 (by decide)]; exact h9
theorem st_rules {k : Nat} {s0 s1 s2 s3 s4 s5 s6 s7 s8 s9 s10 s11 : OS} (h : Rel k s0 s1 s2 s3 s4 s5 s6 s7 s8 s9 s10 s11) (hk : k < 512) (a1 : Int32) (a2 : Int32) (a3 : Int32) : ∃ (rc : Int32 × OS × OS × OS) (rr : Int32 × OS), f10_rules a1 a2 a3 s5 s6 s8 = some rc ∧ f11_rules a1 a2 a3 s11 = some rr ∧ rc.1 = rr.1 ∧ Rel (k + 1) s0 s1 s2 s3 s4 rc.2.1 rc.2.2.1 s7 rc.2.2.2 s9 s10 rr.2 := by
  obtain ⟨pn, hN⟩ := h.toN
  obtain ⟨hV, hP, hD, hL, hS, hT, hW, hA, hM, ⟨r, r1, r2, r3, r4, r5, r6, r7, r8⟩⟩ := id hN
  obtain ⟨t, t1, t2⟩ := hT.tp
  have t0 := t1.1
  have hroom : f5_hasRoom s5 = some (b1 (r < 20)) := by
    unfold f5_hasRoom f5_hasRoom_j14
    rw [r2]
    by_cases c : r < 20
    · rw [if_neg (show ¬ (20 : Int32) ≤ nI r from nI_ge (a := r) (b := 20) c (by omega)), b1_t c]; rfl
    · rw [if_pos (show (20 : Int32) ≤ nI r from nI_le (a := 20) (b := r) (by omega) (by omega)), b1_f c]; rfl
  have hbytes : f8_hasBytes a3 s8 = some (b1 (a3.toInt ≤ t)) := by
    unfold f8_hasBytes f8_hasBytes_j13
    rw [t1.2.1]
    have e : nI t < a3 ↔ (t : Int) < a3.toInt := by rw [Int32.lt_iff_toInt_lt, nI_toInt (by omega)]
    by_cases c : a3.toInt ≤ t
    · rw [if_neg (fun z => by have := e.mp z; omega), b1_t c]; rfl
    · rw [if_pos (e.mpr (by omega)), b1_f c]; rfl
  have e3 : (a3 ≤ nI t) ↔ a3.toInt ≤ t := by rw [Int32.le_iff_toInt_le, nI_toInt (by omega)]
  have e20 : (nI r = (20 : Int32)) ↔ r = 20 := nI_eq (a := r) (b := 20) (by omega) (by omega)
  unfold f10_rules f10_rules_j30 f10_rules_j53 f11_rules f11_rules_j48
  rw [c_isDay, c_isDay, r_isDay, r_isDay, hroom, hbytes, r3, t2]
  simp only [c_isWithin, r_lies, Option.bind_some, if_b1, Int32.toInt_toInt64]
  have no : ∃ (rc : Int32 × OS × OS × OS) (rr : Int32 × OS), some ((-1 : Int32), s5, s6, s8) = some rc ∧ some ((-1 : Int32), s11) = some rr ∧ rc.1 = rr.1 ∧ Rel (k + 1) s0 s1 s2 s3 s4 rc.2.1 rc.2.2.1 s7 rc.2.2.2 s9 s10 rr.2 := ⟨_, _, rfl, rfl, rfl, h.same⟩
  by_cases h1 : 0 ≤ a1.toInt ∧ a1.toInt ≤ 99999
  · by_cases h2 : 0 ≤ a2.toInt ∧ a2.toInt ≤ 99999
    · by_cases h3 : a2 < a1
      · simp only [if_pos h1, if_pos h2, if_pos h3, ite_self]; exact no
      · by_cases h4 : (1 : Int32).toInt ≤ a3.toInt ∧ a3.toInt ≤ (160 : Int32).toInt
        · have h4' : (1 : Int64).toInt ≤ a3.toInt ∧ a3.toInt ≤ (160 : Int64).toInt := h4
          by_cases h5 : r < 20
          · by_cases h6 : a3.toInt ≤ t
            · simp only [if_pos h1, if_pos h2, if_neg h3, if_pos h4, if_pos h4', if_pos h5, if_pos h6]
              rw [if_neg (fun z => by have := e20.mp z; omega), if_pos (e3.mpr h6)]
              have h4 : 1 ≤ a3.toInt ∧ a3.toInt ≤ 160 := h4
              obtain ⟨n, hn, rfl⟩ := nI_of_in (x := a3) (n := 161) (by omega) (by omega)
              have hn1 : 1 ≤ n := by have := h4.1; rw [nI_toInt (by omega)] at this; omega
              have hnt : n ≤ t := by rw [nI_toInt (by omega)] at h6; omega
              obtain ⟨T, hTd⟩ : ∃ T, T = s8.1 1 := ⟨_, rfl⟩
              have hTb : ∀ i, i < n → bw 0 255 (T i) := fun i hi => by rw [hTd]; exact (t1.2.2 i (by omega)).1
              obtain ⟨m1, hm1⟩ : ∃ m1, m1 = wI (wI (wI (wI (wI (wI s11 0 1 0) 0 43 0) 0 44 (nI n)) 0 45 0) 0 46 0) 0 47 0 := ⟨_, rfl⟩
              simp only [nm_p]
              rw [← hm1]
              have w8 : f8_wipe s8 = some (wI s8 0 1 0) := rfl
              have hq : ∀ q, q ≠ 0 → m1.1 q = s11.1 q := fun q hq => by rw [hm1, wI_of hq, wI_of hq, wI_of hq, wI_of hq, wI_of hq, wI_of hq]
              have hs2 : ∀ i, i ≠ 1 → (i < 43 ∨ 51 < i) → m1.1 0 i = s11.1 0 i := fun i h7 h8 => by
                rw [hm1]
                show (if i = 47 then _ else if i = 46 then _ else if i = 45 then _ else if i = 44 then _ else if i = 43 then _ else if i = 1 then _ else s11.1 0 i) = _
                rw [if_neg (by omega), if_neg (by omega), if_neg (by omega), if_neg (by omega), if_neg (by omega), if_neg h7]
              have hYs : Ys T n r m1 0 0 [] m1 := by
                refine ⟨FrW.refl r m1, ⟨fun i hi => ?_, ?_, by rw [hm1]; rfl⟩, ⟨by rw [hm1]; rfl, by rw [hm1]; rfl, by rw [hm1]; rfl, by rw [hm1]; exact wI_at⟩, trivial, Nat.le_refl _, by omega⟩
                · rw [hq 1 (by decide), hTd]; exact (t1.2.2 i (by omega)).2
                · rw [hs2 6 (by decide) (by decide)]; exact r3
              have hTt : ∀ m' : OS, FrW r m1 m' → RelT (wI s8 0 1 0) (m'.1 0 1) (m'.1 1) := by
                intro m' hF
                refine ⟨0, by omega, rfl, ?_, fun i hi => ?_⟩
                · rw [hF.2.2.1 1 (by decide), hm1]; rfl
                · rw [hF.1 1 (by decide) (by decide) (by decide), hq 1 (by decide)]; exact t1.2.2 i hi
              have key : ∃ o : Int32 × OS × OS, f5_add (nI n) a1 a2 s5 s6 s8 = some o ∧ ∃ R : Int32 × OS, loop (f11_rules_l83 a1 a2) ((1 : Int32), m1) = some R ∧ o.1 = R.1 ∧ Rel (k + 1) s0 s1 s2 s3 s4 o.2.1 o.2.2 s7 (wI s8 0 1 0) s9 s10 R.2 := by
                unfold f5_add
                rw [nm_p, r2, if_neg (nI_pos (n := r) (by omega)), if_neg (show ¬ (20 : Int32) ≤ nI r from nI_ge (a := r) (b := 20) h5 (by omega)), if_pos (show nI n ≤ (160 : Int32) from nI_le (a := n) (b := 160) (by omega) (by omega))]
                refine loop_inv n (fun i (u : Int32 × OS) => i ≤ n ∧ u.1 = nI i ∧ (∀ q, q ≠ 1 → u.2.1 q = s5.1 q) ∧ (∀ x, x < i → u.2.1 1 (160 * r + x) = T x) ∧ ∀ x, x < 160 * r → u.2.1 1 x = s5.1 1 x) _ ?_ n 0 _ (by omega) ⟨by omega, rfl, fun _ _ => rfl, fun x hx => by omega, fun _ _ => rfl⟩
                rintro i ⟨y, u⟩ ⟨hi, e1, e2, e4, e5⟩
                have e1 : y = nI i := e1
                subst e1
                have e2 : ∀ q, q ≠ 1 → u.1 q = s5.1 q := e2
                have e4 : ∀ x, x < i → u.1 1 (160 * r + x) = T x := e4
                have e5 : ∀ x, x < 160 * r → u.1 1 x = s5.1 1 x := e5
                have eb : nI r * (160 : Int32) = nI (160 * r) := by rw [show (160 : Int32) = nI 160 from rfl, pk_mul, Nat.mul_comm]
                unfold f5_add_l34
                by_cases c : i = n
                · right
                  subst c
                  obtain ⟨v, c1, ⟨c2, c3, c4⟩, c5, c6⟩ := c_turn (s5 := u) (s6 := s6) (base := 160 * r) (n := i) (by omega) (by omega) (fun x hx => by rw [e4 x hx]; exact hTb x hx)
                  have hRd : RdS T i 0 (wI (wI v 0 5 0) 0 11 0) := ⟨c2, c3, c4, Or.inl wI_at, fun x hx => by
                    show v.1 1 x = T x
                    rw [c5 x hx, e4 x hx]⟩
                  obtain ⟨s', R, g1, g2, g3⟩ := surv (m0 := m1) a1 a2 (show i ≤ 160 by omega) h5 hTb i 0 0 [] (wI (wI v 0 5 0) 0 11 0) m1 (by omega) (by omega) (by omega) hRd hYs (fun x hx => by omega)
                  have hsv : f6_survey v = some s' := by
                    unfold f6_survey
                    rw [nm_p]
                    exact (surv_11 (wI v 0 5 0)).trans g1
                  have hstart : ∀ q_88 : OS, f6_survey v = some q_88 → (if nI i ≤ nI i then (Option.map Sum.inr (Option.bind (f6_turnTo (nI r * 160) (nI i) u s6) fun q_81 => Option.bind (f6_survey q_81) fun q_88 => Option.bind (f6_hasFault q_88) fun q_95 => if q_95 = 0 then (chk (inb (nI r) 20) (nm (wI u 2 (nI r).toNatClampNeg (nI i)) fun s5_116 => chk (inb (nI r) 20) (nm (wI s5_116 3 (nI r).toNatClampNeg a1) fun s5_124 => chk (inb (nI r) 20) (nm (wI s5_124 4 (nI r).toNatClampNeg a2) fun s5_133 => Option.bind (f6_clauseCount q_88) fun q_144 => chk (inb (nI r) 20) (nm (wI s5_133 5 (nI r).toNatClampNeg q_144) fun s5_147 => loop (f5_add_l151 (nI r) q_88 s8) ((0 : Int32), s5_147)))))) else (Option.bind (f6_faultAnswer q_88) fun q_105 => some (q_105, u, q_88))) : Option ((Int32 × OS) ⊕ (Int32 × OS × OS))) else none) = Option.map Sum.inr (Option.bind (f6_hasFault q_88) fun q_95 => if q_95 = 0 then (loop (f5_add_l151 (nI r) q_88 s8) ((0 : Int32), wI (wI (wI (wI u 2 r (nI i)) 3 r a1) 4 r a2) 5 r (q_88.1 0 5))) else (Option.bind (f6_faultAnswer q_88) fun q_105 => some (q_105, u, q_88))) := by
                    intro q_88 hq88
                    rw [if_pos (show nI i ≤ nI i from nI_le (Nat.le_refl _) (by omega)), eb, c1, Option.bind_some, hq88, Option.bind_some]
                    simp only [nI_clamp (n := r) (by omega), inb_n h5 (by omega : 20 < 2 ^ 31), chk_p, nm_p]
                    rfl
                  have hbody : ∀ o : Int32 × OS × OS, (Option.bind (f6_hasFault s') fun q_95 => if q_95 = 0 then (loop (f5_add_l151 (nI r) s' s8) ((0 : Int32), wI (wI (wI (wI u 2 r (nI i)) 3 r a1) 4 r a2) 5 r (s'.1 0 5))) else (Option.bind (f6_faultAnswer s') fun q_105 => some (q_105, u, s'))) = some o → (fun t_34 : Int32 × OS => if nI i ≤ t_34.1 then (Option.map Sum.inr (Option.bind (f6_turnTo ((nI r * (160 : Int32))) (nI i) t_34.2 s6) fun q_81 => Option.bind (f6_survey q_81) fun q_88 => Option.bind (f6_hasFault q_88) fun q_95 => if q_95 = 0 then (chk (inb (nI r) 20) (nm (wI t_34.2 2 (nI r).toNatClampNeg (nI i)) fun s5_116 => chk (inb (nI r) 20) (nm (wI s5_116 3 (nI r).toNatClampNeg a1) fun s5_124 => chk (inb (nI r) 20) (nm (wI s5_124 4 (nI r).toNatClampNeg a2) fun s5_133 => Option.bind (f6_clauseCount q_88) fun q_144 => chk (inb (nI r) 20) (nm (wI s5_133 5 (nI r).toNatClampNeg q_144) fun s5_147 => loop (f5_add_l151 (nI r) q_88 s8) ((0 : Int32), s5_147)))))) else (Option.bind (f6_faultAnswer q_88) fun q_105 => some (q_105, t_34.2, q_88)))) else (Option.bind (f8_byteAt t_34.1 s8) fun q_56 => chk (inb (((nI r * (160 : Int32)) + t_34.1)) 3200) (nm (wI t_34.2 1 (((nI r * (160 : Int32)) + t_34.1)).toNatClampNeg (vp_nar .char q_56)) fun s5_59 => nm (t_34.1 + (1 : Int32)) fun n_60 => some (Sum.inl (n_60, s5_59))))) (nI i, u) = some (Sum.inr o) := by
                    intro o ho
                    have := hstart s' hsv
                    rw [ho] at this
                    rw [if_pos (show nI i ≤ nI i from nI_le (Nat.le_refl _) (by omega))] at this
                    show (if nI i ≤ nI i then _ else _) = _
                    rw [if_pos (show nI i ≤ nI i from nI_le (Nat.le_refl _) (by omega))]
                    exact this
                  -- what stays of the rules before
                  have keep : ∀ (u2 m2 : OS), (∀ x, x < 160 * r → u2.1 1 x = s5.1 1 x) → (∀ i, i < r → u2.1 2 i = s5.1 2 i ∧ m2.1 36 i = s11.1 36 i) → (∀ x, x < 12 * r → u2.1 6 x = s5.1 6 x) → (∀ q, 37 ≤ q → q ≤ 41 → ∀ x, x < 12 * r → m2.1 q x = s11.1 q x) → (∀ x, x < 160 * r → m2.1 42 x = s11.1 42 x ∧ m2.1 43 x = s11.1 43 x) → ClR r (u2.1 1) (u2.1 2) (u2.1 6) (m2.1 36) (m2.1 37) (m2.1 38) (m2.1 39) (m2.1 40) (m2.1 41) (m2.1 42) (m2.1 43) := by
                    intro u2 m2 k1 k2 k3 k4 k5
                    exact ClR_keep r8 r7 k1 k2 k3 (fun x hx => ⟨k4 37 (by omega) (by omega) x hx, k4 38 (by omega) (by omega) x hx, k4 39 (by omega) (by omega) x hx, k4 40 (by omega) (by omega) x hx, k4 41 (by omega) (by omega) x hx⟩) k5
                  rcases g3 with ⟨kk, pl, m', z1, z2, z3, z4, z5⟩ | ⟨p', j', C', m', z1, z2, z3, z4, z5, z6, z7⟩
                  · refine ⟨(-1000 * nI kk - nI pl, u, s'), hbody _ ?_, R, g2, by rw [z4], ?_⟩
                    · unfold f6_hasFault f6_hasFault_j12 f6_faultAnswer
                      rw [if_neg z3, show chk (isB (1 : Int32)) (some (1 : Int32)) = some 1 from rfl, Option.bind_some, if_neg (show ¬ (1 : Int32) = 0 by decide), Option.bind_some, z1, z2]
                    · rw [z4]
                      show Rel (k + 1) s0 s1 s2 s3 s4 u s' s7 (wI s8 0 1 0) s9 s10 m'
                      refine Rel.rul hN (fun q q1 q2 q3 => ?_) (fun i i1 i2 i3 => ?_) ?_ (hTt m' z5) ⟨r, r1, ?_, ?_, ?_, ?_, ?_, ?_, ?_⟩
                      · rw [z5.1 q q1 (by omega) q3, hq q q1]
                      · rw [z5.2.2.1 i (by omega), hs2 i i1 i3]
                      · rw [z5.2.1, hm1]; rfl
                      · rw [e2 0 (by decide)]; exact r2
                      · rw [z5.2.2.1 6 (by decide), hs2 6 (by decide) (by decide)]; exact r3
                      · rw [e2 3 (by decide), z5.1 34 (by decide) (by decide) (by decide), hq 34 (by decide)]; exact r4
                      · rw [e2 4 (by decide), z5.1 35 (by decide) (by decide) (by decide), hq 35 (by decide)]; exact r5
                      · rw [e2 5 (by decide), z5.1 36 (by decide) (by decide) (by decide), hq 36 (by decide)]; exact r6
                      · rw [z5.1 36 (by decide) (by decide) (by decide), hq 36 (by decide)]; exact r7
                      · refine keep u m' e5 (fun i _ => ⟨by rw [e2 2 (by decide)], by rw [z5.1 36 (by decide) (by decide) (by decide), hq 36 (by decide)]⟩) (fun x _ => by rw [e2 6 (by decide)]) (fun q q1 q2 x hx => ?_) (fun x hx => ?_)
                        · rw [z5.2.2.2.2 q q1 q2 x hx, hq q (by omega)]
                        · rw [(z5.2.2.2.1 x hx).1, (z5.2.2.2.1 x hx).2, hq 42 (by decide), hq 43 (by decide)]; exact ⟨rfl, rfl⟩
                  · -- no fault
                    obtain ⟨y1, ⟨y2, y3, y4⟩, ⟨y5, y6, y7, y8⟩, y9, y10, y11⟩ := id z5
                    obtain ⟨m2, hm2⟩ : ∃ m2, m2 = wI (wI (wI (wI m' 34 r a1) 35 r a2) 36 r (nI j')) 0 6 (nI (r + 1)) := ⟨_, rfl⟩
                    have hRR : R = (nI r, m2) := by
                      have q0 : ∀ (a : OS) (q' i' : Nat) (v : Int32), q' ≠ 0 → (wI a q' i' v).1 0 = a.1 0 := fun a q' i' v hq => wI_of (fun e => hq e.symm)
                      have h138 : f11_rules_j138 a1 a2 m' = some (nI (r + 1) - 1, m2) := by
                        unfold f11_rules_j138
                        rw [y6, if_pos (show (0 : Int32) ≤ 0 by decide), y3, inb_n h5 (by omega), chk_p]
                        simp only [nm_p, q0 _ 34 _ _ (by decide), q0 _ 35 _ _ (by decide), q0 _ 36 _ _ (by decide), y3, y7, inb_n h5 (by omega : 20 < 2 ^ 31), chk_p, nI_clamp (n := r) (by omega), nI_1]
                        rw [← hm2]
                        have : m2.1 0 6 = nI (r + 1) := by rw [hm2]; exact wI_at
                        rw [this]
                      rw [h138] at z7
                      rw [← Option.some.inj z7, ← nI_1, add_sub1]
                    -- the class writes it down
                    obtain ⟨u1, hu1⟩ : ∃ u1, u1 = wI (wI (wI (wI u 2 r (nI i)) 3 r a1) 4 r a2) 5 r (nI j') := ⟨_, rfl⟩
                    have hl151 : ∃ o : Int32 × OS × OS, loop (f5_add_l151 (nI r) s' s8) ((0 : Int32), u1) = some o ∧ o.1 = nI r ∧ (∀ q, q ≠ 0 → q ≠ 6 → o.2.1.1 q = u1.1 q) ∧ o.2.1.1 0 8 = nI (r + 1) ∧ (∀ x, x < 12 * r → o.2.1.1 6 x = u1.1 6 x) ∧ ∀ x, x < 12 → o.2.1.1 6 (12 * r + x) = s'.1 2 x := by
                      refine loop_inv 12 (fun x (w : Int32 × OS) => x ≤ 12 ∧ w.1 = nI x ∧ (∀ q, q ≠ 6 → w.2.1 q = u1.1 q) ∧ (∀ z, z < 12 * r → w.2.1 6 z = u1.1 6 z) ∧ ∀ z, z < x → w.2.1 6 (12 * r + z) = s'.1 2 z) _ ?_ 12 0 _ (by omega) ⟨by omega, rfl, fun _ _ => rfl, fun _ _ => rfl, fun z hz => by omega⟩
                      rintro x ⟨y, w⟩ ⟨hx, d1, d2, d3, d4⟩
                      have d1 : y = nI x := d1
                      subst d1
                      have d2 : ∀ q, q ≠ 6 → w.1 q = u1.1 q := d2
                      have d3 : ∀ z, z < 12 * r → w.1 6 z = u1.1 6 z := d3
                      have d4 : ∀ z, z < x → w.1 6 (12 * r + z) = s'.1 2 z := d4
                      have e08 : w.1 0 8 = nI r := by rw [d2 0 (by decide), hu1]; show u.1 0 8 = nI r; rw [e2 0 (by decide)]; exact r2
                      unfold f5_add_l151
                      by_cases c12 : x = 12
                      · right
                        subst c12
                        refine ⟨(nI r, wI w 0 8 (nI (r + 1)), s'), ?_, rfl, fun q q1 q2 => (wI_of q1).trans (d2 q q2), wI_at, d3, d4⟩
                        show (if (12 : Int32) ≤ nI 12 then _ else _) = _
                        rw [if_pos (show (12 : Int32) ≤ nI 12 by decide), nm_p]
                        show Option.map Sum.inr (some (nI r, wI w 0 8 (w.1 0 8 + 1), s')) = _
                        rw [e08, nI_1]; rfl
                      · left
                        have hlt : x < 12 := by omega
                        refine ⟨hlt, ?_⟩
                        have hso : f6_startOf (nI x) s' = some (s'.1 2 x) := by
                          unfold f6_startOf f6_startOf_j19 f6_startOf_j20
                          rw [if_neg (nI_pos (n := x) (by omega)), if_neg (show ¬ (12 : Int32) ≤ nI x from nI_ge (a := x) (b := 12) hlt (by omega)), inb_n hlt (by omega), chk_p, nm_p, nI_clamp (by omega)]
                        show ∃ t, (if (12 : Int32) ≤ nI x then _ else Option.bind (f6_startOf (nI x) s') fun q_176 => chk (inb (nI r * 12 + nI x) 240) (nm (wI w 6 (nI r * 12 + nI x).toNatClampNeg q_176) fun s5_179 => nm (nI x + 1) fun n_180 => some (Sum.inl (n_180, s5_179)))) = some (Sum.inl t) ∧ _
                        rw [if_neg (show ¬ (12 : Int32) ≤ nI x from nI_ge (a := x) (b := 12) hlt (by omega)), hso, Option.bind_some, show nI r * (12 : Int32) = nI (12 * r) by rw [show (12 : Int32) = nI 12 from rfl, pk_mul, Nat.mul_comm], nI_add, inb_n (show 12 * r + x < 240 by omega) (by omega), chk_p, nm_p, nm_p, nI_1, nI_clamp (by omega)]
                        refine ⟨_, rfl, by omega, rfl, fun q q1 => (wI_of q1).trans (d2 q q1), fun z hz => ?_, fun z hz => ?_⟩
                        · show (if z = 12 * r + x then _ else w.1 6 z) = _
                          rw [if_neg (by omega)]; exact d3 z hz
                        · show (if 12 * r + z = 12 * r + x then s'.1 2 x else w.1 6 (12 * r + z)) = _
                          by_cases c3 : z = x
                          · rw [if_pos (by omega), c3]
                          · rw [if_neg (by omega)]; exact d4 z (by omega)
                    obtain ⟨⟨o1, o2, o3⟩, w1, w2, w3, w4, w5, w6⟩ := hl151
                    have w2 : o1 = nI r := w2
                    have w3 : ∀ q, q ≠ 0 → q ≠ 6 → o2.1 q = u1.1 q := w3
                    have w4 : o2.1 0 8 = nI (r + 1) := w4
                    have w5 : ∀ x, x < 12 * r → o2.1 6 x = u1.1 6 x := w5
                    have w6 : ∀ x, x < 12 → o2.1 6 (12 * r + x) = s'.1 2 x := w6
                    refine ⟨(o1, o2, o3), hbody _ ?_, R, g2, by rw [hRR]; exact w2, ?_⟩
                    · unfold f6_hasFault f6_hasFault_j12
                      rw [if_pos z1, show chk (isB (0 : Int32)) (some (0 : Int32)) = some 0 from rfl, Option.bind_some, if_pos rfl, z2, ← hu1]
                      exact w1
                    · rw [hRR]
                      show Rel (k + 1) s0 s1 s2 s3 s4 o2 o3 s7 (wI s8 0 1 0) s9 s10 m2
                      have em : ∀ q, q ≠ 0 → q ≠ 34 → q ≠ 35 → q ≠ 36 → m2.1 q = m'.1 q := fun q q1 q2 q3 q4 => by rw [hm2, wI_of q1, wI_of q4, wI_of q3, wI_of q2]
                      have em0 : ∀ i, i ≠ 6 → m2.1 0 i = m'.1 0 i := fun i hi => by
                        rw [hm2]
                        show (if i = 6 then _ else m'.1 0 i) = _
                        rw [if_neg hi]
                      have a34 : m'.1 34 = s11.1 34 := by rw [y1.1 34 (by decide) (by decide) (by decide), hq 34 (by decide)]
                      have a35 : m'.1 35 = s11.1 35 := by rw [y1.1 35 (by decide) (by decide) (by decide), hq 35 (by decide)]
                      have a36 : m'.1 36 = s11.1 36 := by rw [y1.1 36 (by decide) (by decide) (by decide), hq 36 (by decide)]
                      have m34 : m2.1 34 = fupd (s11.1 34) r a1 := by rw [hm2, ← a34]; rfl
                      have m35 : m2.1 35 = fupd (s11.1 35) r a2 := by rw [hm2, ← a35]; rfl
                      have m36 : m2.1 36 = fupd (s11.1 36) r (nI j') := by rw [hm2, ← a36]; rfl
                      have hTm : RelT (wI s8 0 1 0) (m2.1 0 1) (m2.1 1) := by
                        rw [em0 1 (by decide), em 1 (by decide) (by decide) (by decide) (by decide)]; exact hTt m' y1
                      refine Rel.rul hN (fun q q1 q2 q3 => ?_) (fun i i1 i2 i3 => ?_) ?_ hTm ⟨r + 1, by omega, w4, ?_, ?_, ?_, ?_, fun x hx => ?_, ?_⟩
                      · rw [em q q1 (by omega) (by omega) (by omega), y1.1 q q1 (by omega) q3, hq q q1]
                      · rw [em0 i i2, y1.2.2.1 i (by omega), hs2 i i1 i3]
                      · rw [hm2]; show m'.2 = s11.2; rw [y1.2.1, hm1]; rfl
                      · rw [hm2]; exact wI_at
                      · rw [w3 3 (by decide) (by decide), m34, hu1, ← r4, ← e2 3 (by decide)]; rfl
                      · rw [w3 4 (by decide) (by decide), m35, hu1, ← r5, ← e2 4 (by decide)]; rfl
                      · rw [w3 5 (by decide) (by decide), m36, hu1, ← r6, ← e2 5 (by decide)]; rfl
                      · rw [m36]
                        by_cases cx : x = r
                        · rw [cx, fupd_s]
                          unfold bw; rw [nI_toInt (by omega)]; omega
                        · rw [fupd_n cx]; exact r7 x (by omega)
                      · have hold : ClR r (o2.1 1) (o2.1 2) (o2.1 6) (m2.1 36) (m2.1 37) (m2.1 38) (m2.1 39) (m2.1 40) (m2.1 41) (m2.1 42) (m2.1 43) := by
                          refine keep o2 m2 (fun x hx => ?_) (fun x hx => ⟨?_, ?_⟩) (fun x hx => ?_) (fun q q1 q2 x hx => ?_) (fun x hx => ?_)
                          · rw [w3 1 (by decide) (by decide), hu1]; exact e5 x hx
                          · rw [w3 2 (by decide) (by decide), hu1]
                            show (if x = r then _ else u.1 2 x) = _
                            rw [if_neg (by omega), e2 2 (by decide)]
                          · rw [m36, fupd_n (by omega)]
                          · rw [w5 x hx, hu1]; show u.1 6 x = _; rw [e2 6 (by decide)]
                          · rw [em q (by omega) (by omega) (by omega) (by omega), y1.2.2.2.2 q q1 q2 x hx, hq q (by omega)]
                          · rw [em 42 (by decide) (by decide) (by decide) (by decide), em 43 (by decide) (by decide) (by decide) (by decide), (y1.2.2.2.1 x hx).1, (y1.2.2.2.1 x hx).2, hq 42 (by decide), hq 43 (by decide)]; exact ⟨rfl, rfl⟩
                        intro x hx
                        by_cases cx : x = r
                        · subst cx
                          refine ⟨i, j', by omega, ?_, by rw [m36, fupd_s], fun y hy => ?_, fun j hj => ?_⟩
                          · rw [w3 2 (by decide) (by decide), hu1]
                            show (if x = x then nI i else _) = _
                            rw [if_pos rfl]
                          · rw [w3 1 (by decide) (by decide), hu1]
                            show bw 0 255 (u.1 1 (160 * x + y))
                            rw [e4 y hy]; exact hTb y hy
                          · obtain ⟨p, p1, p2, p3⟩ := z6 j hj
                            refine ⟨p, p1, by rw [w6 j (by omega)]; exact p2, ?_⟩
                            rw [em 37 (by decide) (by decide) (by decide) (by decide), em 38 (by decide) (by decide) (by decide) (by decide), em 39 (by decide) (by decide) (by decide) (by decide), em 40 (by decide) (by decide) (by decide) (by decide), em 41 (by decide) (by decide) (by decide) (by decide), em 42 (by decide) (by decide) (by decide) (by decide), em 43 (by decide) (by decide) (by decide) (by decide)]
                            refine ClOne_congr (T := T) (fun y hy => ?_) (fun _ _ _ => ⟨rfl, rfl⟩) (ClI_one p3 (by omega) y9)
                            rw [w3 1 (by decide) (by decide), hu1]
                            exact e4 y hy
                        · exact hold x (by omega)
                · left
                  have hlt : i < n := by omega
                  refine ⟨hlt, ?_⟩
                  show ∃ t, (if nI n ≤ nI i then _ else (Option.bind (f8_byteAt (nI i) s8) fun q_56 => chk (inb (((nI r * (160 : Int32)) + nI i)) 3200) (nm (wI u 1 (((nI r * (160 : Int32)) + nI i)).toNatClampNeg (vp_nar .char q_56)) fun s5_59 => nm (nI i + (1 : Int32)) fun n_60 => some (Sum.inl (n_60, s5_59))))) = some (Sum.inl t) ∧ _
                  rw [if_neg (nI_ge hlt (by omega)), c_byteAt t1 (by omega), Option.bind_some, eb, nI_add, inb_n (show 160 * r + i < 3200 by omega) (by omega), chk_p, nm_p, nm_p, nI_1, nI_clamp (by omega), nar_ch (t1.2.2 i (by omega)).1]
                  refine ⟨_, rfl, by omega, rfl, fun q q1 => (wI_of q1).trans (e2 q q1), fun x hx => ?_, fun x hx => ?_⟩
                  · show (if 160 * r + x = 160 * r + i then s8.1 1 i else u.1 1 (160 * r + x)) = _
                    by_cases c2 : x = i
                    · rw [if_pos (by omega), hTd, c2]
                    · rw [if_neg (by omega)]; exact e4 x (by omega)
                  · show (if x = 160 * r + i then _ else u.1 1 x) = _
                    rw [if_neg (by omega)]; exact e5 x hx
              obtain ⟨⟨o1, o2, o3⟩, k1, R, k2, k3, k4⟩ := key
              rw [k1, Option.bind_some, w8, Option.bind_some]
              exact ⟨_, R, rfl, k2, k3, k4⟩
            · simp only [if_pos h1, if_pos h2, if_neg h3, if_pos h4, if_pos h4', if_pos h5, if_neg h6]
              rw [if_neg (fun z => h6 (e3.mp z))]
              simp only [ite_self]; exact no
          · simp only [if_pos h1, if_pos h2, if_neg h3, if_pos h4, if_pos h4', if_neg h5]
            rw [if_pos (e20.mpr (by omega))]; exact no
        · have h4' : ¬ ((1 : Int64).toInt ≤ a3.toInt ∧ a3.toInt ≤ (160 : Int64).toInt) := h4
          simp only [if_pos h1, if_pos h2, if_neg h3, if_neg h4, if_neg h4', ite_self]; exact no
    · simp only [if_pos h1, if_neg h2, ite_self]; exact no
  · simp only [if_neg h1, ite_self]; exact no
