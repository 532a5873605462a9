-- steps: check
def nB (b : Nat → Int32) : Nat → Int32
  | 0 => 0
  | i + 1 => (nB b i <<< ((8 : Int32) &&& 31)) ||| b i
theorem c_byteAt {t i : Nat} {s8 : OS} {a : Nat → Int32} (h : TpR t s8 a) (hi : i < t) : f8_byteAt (nI i) s8 = some (s8.1 1 i) := by
  have h1 := h.1
  obtain ⟨j, -, hj, e⟩ := bw_nat (lo := 0) (hi := 255) (h.2.2 i (by omega)).1 (by omega)
  unfold f8_byteAt f8_byteAt_j21 f8_byteAt_j22
  rw [if_neg (nI_pos (n := i) (by omega)), h.2.1, if_neg (nI_ge hi (by omega)), inb_n (by omega : i < 400) (by omega), nI_clamp (by omega), chk_p, nm_p, e]
  have : isC (nI j) = true := by
    unfold isC
    rw [Bool.and_eq_true, decide_eq_true_eq, decide_eq_true_eq]
    exact ⟨nI_le (a := 0) (b := j) (by omega) (by omega), nI_le (a := j) (b := 65535) (by omega) (by omega)⟩
  rw [this]; rfl
theorem c_number {t q : Nat} {s8 : OS} {a : Nat → Int32} (h : TpR t s8 a) (hq : 4 * q + 4 ≤ t) : f8_number (nI q) s8 = some (nB (fun i => s8.1 1 (4 * q + i)) 4) := by
  have h1 := h.1
  unfold f8_number
  rw [show (4 : Int32) = nI 4 from rfl, pk_mul, nm_p]
  refine loop_seq (fun i => (nB (fun i => s8.1 1 (4 * q + i)) i, nI (4 * q + i))) 4 _ (fun i hi => ?_) ?_
  · unfold f8_number_l6
    simp only [show (4 : Int32) = nI 4 from rfl, pk_mul, nI_add]
    rw [if_neg (nI_ge (a := 4 * q + i) (b := 4 * q + 4) (by omega) (by omega)), c_byteAt h (by omega), Option.bind_some, nm_p, nI_1, nm_p]
    rfl
  · unfold f8_number_l6
    simp only [show (4 : Int32) = nI 4 from rfl, pk_mul, nI_add]
    rw [if_pos (show nI (4 * q + 4) ≤ nI (4 * q + 4) from nI_le (Nat.le_refl _) (by omega))]; rfl
theorem r_numberAt {t q : Nat} {s8 m : OS} (h : TpR t s8 (m.1 1)) (hq : 4 * q + 4 ≤ t) : f11_numberAt (nI q) m = some (nB (fun i => s8.1 1 (4 * q + i)) 4) := by
  have h1 := h.1
  unfold f11_numberAt
  refine loop_seq (fun i => (nB (fun i => s8.1 1 (4 * q + i)) i, nI i)) 4 _ (fun i hi => ?_) rfl
  unfold f11_numberAt_l4
  show (if (4 : Int32) ≤ nI i then _ else _) = _
  rw [if_neg (show ¬ (4 : Int32) ≤ nI i from nI_ge (a := i) (b := 4) (by omega) (by omega))]
  simp only [show (4 : Int32) = nI 4 from rfl, pk_mul, nI_add, nI_clamp (n := 4 * q + i) (by omega), inb_n (show 4 * q + i < 400 by omega) (by omega : 400 < 2 ^ 31), chk_p, nm_p, nI_1, (h.2.2 (4 * q + i) (by omega)).2]
  rfl
theorem st_check {k : Nat} {s0 s1 s2 s3 s4 s5 s6 s7 s8 s9 s10 s11 : OS} (h : Rel k s0 s1 s2 s3 s4 s5 s6 s7 s8 s9 s10 s11) (hk : k < 512) (a1 : Int32) : ∃ (rc : Int32 × OS) (rr : Int32 × OS), f10_check a1 s4 s8 = some rc ∧ f11_check a1 s11 = some rr ∧ rc.1 = rr.1 ∧ Rel (k + 1) s0 s1 s2 s3 s4 s5 s6 s7 rc.2 s9 s10 rr.2 := by
  obtain ⟨n, hV, hP, hD, hL, hS, hT, hW⟩ := id h
  obtain ⟨p1, p2, p3, p4, p5, p6, p7, p8, p9, p10, p11, p12, p13⟩ := id hP
  obtain ⟨t, t1, t2⟩ := hT.tp
  have t0 := t1.1
  unfold f10_check f10_check_j24 f11_check f11_check_j15
  rw [t2, show (12 : Int32) = nI 12 from rfl, pk_div (by omega) (by omega) (by omega)]
  simp only [c_isWithin, Option.bind_some, if_b1]
  by_cases h0 : a1 < 0
  · have h0' := Int32.lt_iff_toInt_lt.mp h0
    have z0 : (0 : Int32).toInt = 0 := rfl
    rw [if_pos h0, if_neg (fun e => by have := e.1; omega)]
    exact ⟨_, _, rfl, rfl, rfl, h.same⟩
  · have h0' : 0 ≤ a1.toInt := by
      rcases Int.lt_or_le a1.toInt 0 with e | e
      · exact absurd (Int32.lt_iff_toInt_lt.mpr e) h0
      · exact e
    rw [if_neg h0]
    by_cases h4 : a1.toInt ≤ 400
    · obtain ⟨a, ha, rfl⟩ := nI_of_in (x := a1) (n := 401) (by omega) (by omega)
      rw [if_pos ⟨h0', h4⟩]
      unfold f8_hasNumbers f8_hasNumbers_j15
      rw [t1.2.1, show (3 : Int32) = nI 3 from rfl, show (4 : Int32) = nI 4 from rfl, pk_mul, pk_mul]
      by_cases h5 : 12 * a ≤ t
      · have hdiv : a ≤ t / 12 := by omega
        rw [if_neg (nI_nlt (a := t) (b := 4 * (3 * a)) (by omega) (by omega)), if_pos (show nI a ≤ nI (t / 12) from nI_le hdiv (by omega)), show chk (isB (1 : Int32)) (some (1 : Int32)) = some 1 from rfl, Option.bind_some, if_neg (by decide), nm_p]
        obtain ⟨m, hm⟩ : ∃ m, m = wI s11 0 1 0 := ⟨_, rfl⟩
        have hF : Fr s11 m := by
          subst hm
          refine ⟨fun r hr => ?_, fun i hi => ?_, rfl⟩
          · show (if r = 0 then _ else s11.1 r) = s11.1 r
            rw [if_neg (by omega)]
          · show (if i = 1 then _ else s11.1 0 i) = s11.1 0 i
            rw [if_neg hi]
        have hm1 : m.1 1 = s11.1 1 := by subst hm; rfl
        have hm0 : m.1 0 1 = nI 0 := by subst hm; rfl
        have m3 : m.1 0 3 = nI n := by rw [hF.2.1 3 (by decide), p3]
        rw [← hm]
        unfold f10_firstNotSo
        have key : ∃ r r', loop (f10_firstNotSo_l4 (nI (3 * a)) s4 s8) ((0 : Int32), (0 : Int32)) = some r ∧ loop (f11_check_l27 (nI a) m) ((0 : Int32), (0 : Int32)) = some r' ∧ (r = r'.1 ∧ r'.2 = m) := by
          refine loop_sim n (fun i s s' => i ≤ n ∧ s.2 = nI i ∧ s'.2 = nI i ∧ ∃ c, c ≤ a ∧ s.1 = nI (3 * c) ∧ s'.1 = nI c) _ ?_ n 0 _ _ (by omega) ⟨by omega, rfl, rfl, 0, by omega, rfl, rfl⟩
          rintro i ⟨x, y⟩ ⟨x', y'⟩ ⟨hi, e1, e2, c, hc, e3, e4⟩
          have e1 : y = nI i := e1
          have e2 : y' = nI i := e2
          have e3 : x = nI (3 * c) := e3
          have e4 : x' = nI c := e4
          subst e1 e2 e3 e4
          unfold f10_firstNotSo_l4 f10_firstNotSo_j100 f10_firstNotSo_j116 f11_check_l27 f11_check_j124 f11_check_j142 f4_size
          simp only [Option.bind_some, p2, m3]
          by_cases hin : i = n
          · right
            subst hin
            rw [if_pos (show nI i ≤ nI i from nI_le (Nat.le_refl _) (by omega)), if_pos (show nI i ≤ nI i from nI_le (Nat.le_refl _) (by omega))]
            by_cases e : c = a
            · subst e
              rw [if_pos (show nI (3 * c) ≤ nI (3 * c) from nI_le (Nat.le_refl _) (by omega)), if_pos rfl]
              exact ⟨_, _, rfl, rfl, rfl, rfl⟩
            · rw [if_neg (nI_ge (a := 3 * c) (b := 3 * a) (by omega) (by omega)), if_neg (fun e2 => e ((nI_eq (a := c) (b := a) (by omega) (by omega)).mp e2)), show (3 : Int32) = nI 3 from rfl, pk_mul]
              exact ⟨_, _, rfl, rfl, rfl, rfl⟩
          · have hlt : i < n := by omega
            have hic := nI_clamp (n := i) (by omega)
            obtain ⟨g1, g2, g3, g4, g5⟩ := p12 i hlt
            have hii : 0 ≤ (nI i).toInt ∧ (nI i).toInt < n := by rw [nI_toInt (by omega)]; omega
            rw [if_neg (nI_ge hlt (by omega)), if_neg (nI_ge hlt (by omega)), c_lies p1 p2, c_placeOfP p1 p2 hlt, c_weightOfP p1 p2 hlt]
            simp only [Option.bind_some, if_b1, hic, inb_n (show i < 150 by omega) (by omega : 150 < 2 ^ 31), chk_p, nm_p, hF.1 16 (by decide), hF.1 14 (by decide), p6, p8, nI_1, show (3 : Int32) = nI 3 from rfl, show (1 : Int32) = nI 1 from rfl, show (2 : Int32) = nI 2 from rfl, pk_mul, nI_add]
            by_cases hpl : (s11.1 16 i).toInt < 10
            · have hpl' : s11.1 16 i < 10 := Int32.lt_iff_toInt_lt.mpr hpl
              rw [if_pos ⟨hii, hpl⟩, if_pos hpl']
              by_cases e : c = a
              · subst e
                right
                rw [if_neg (nI_nlt (a := 3 * c) (b := 3 * c) (by omega) (by omega)), if_pos rfl]
                exact ⟨_, _, rfl, rfl, rfl, rfl⟩
              · have t1m : TpR t s8 (m.1 1) := by rw [hm1]; exact t1
                rw [if_pos (show nI (3 * c) < nI (3 * a) from nI_lt (by omega) (by omega)), if_neg (fun e2 => e ((nI_eq (a := c) (b := a) (by omega) (by omega)).mp e2)), c_number t1 (by omega), c_number t1 (by omega), c_number t1 (by omega), r_numberAt t1m (by omega), r_numberAt t1m (by omega), r_numberAt t1m (by omega)]
                simp only [Option.bind_some]
                by_cases c1 : nB (fun i => s8.1 1 (4 * (3 * c) + i)) 4 = nI i
                · simp only [if_pos c1]
                  by_cases c2 : nB (fun i => s8.1 1 (4 * (3 * c + 1) + i)) 4 = s11.1 16 i
                  · simp only [if_pos c2]
                    by_cases c3 : nB (fun i => s8.1 1 (4 * (3 * c + 2) + i)) 4 = s11.1 14 i
                    · simp only [if_pos c3]
                      exact Or.inl ⟨_, _, rfl, rfl, hlt, hlt, rfl, rfl, c + 1, by omega, rfl, rfl⟩
                    · simp only [if_neg c3]
                      exact Or.inr ⟨_, _, rfl, rfl, rfl, rfl⟩
                  · simp only [if_neg c2]
                    exact Or.inr ⟨_, _, rfl, rfl, rfl, rfl⟩
                · simp only [if_neg c1]
                  exact Or.inr ⟨_, _, rfl, rfl, rfl, rfl⟩
            · have hpl' : ¬ s11.1 16 i < 10 := fun e => hpl (Int32.lt_iff_toInt_lt.mp e)
              rw [if_neg (fun e => hpl e.2), if_neg hpl']
              exact Or.inl ⟨_, _, rfl, rfl, hlt, hlt, rfl, rfl, c, hc, rfl, rfl⟩
        obtain ⟨r, ⟨r1, r2⟩, k1, k2, k3, k4⟩ := key
        have k3 : r = r1 := k3
        have k4 : r2 = m := k4
        subst k3 k4
        rw [k1, k2]
        unfold f8_wipe
        simp only [Option.bind_some, nm_p]
        refine ⟨_, _, rfl, rfl, rfl, h.tape hF ⟨0, by omega, rfl, hm0, ?_⟩⟩
        rw [hm1]
        exact t1.2.2
      · have hdiv : t / 12 < a := by omega
        rw [if_pos (show nI t < nI (4 * (3 * a)) from nI_lt (by omega) (by omega)), if_neg (nI_ge hdiv (by omega)), show chk (isB (0 : Int32)) (some (0 : Int32)) = some 0 from rfl, Option.bind_some, if_pos rfl]
        exact ⟨_, _, rfl, rfl, rfl, h.same⟩
    · rw [if_neg (fun e => h4 e.2), if_neg (fun e => by
        have e := Int32.le_iff_toInt_le.mp e
        rw [nI_toInt (by omega)] at e
        omega)]
      exact ⟨_, _, rfl, rfl, rfl, h.same⟩
