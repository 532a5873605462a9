-- steps: next
def sw1 (n : Nat) : Nat := Nat.sub n (Nat.land (Nat.shiftRight n 1) 1431655765)
def sw2 (n : Nat) : Nat := Nat.add (Nat.land n 858993459) (Nat.land (Nat.shiftRight n 2) 858993459)
def sw3 (n : Nat) : Nat := Nat.land (Nat.add n (Nat.shiftRight n 4)) 252645135
def sw4 (n : Nat) : Nat := Nat.add n (Nat.shiftRight n 8)
def sw5 (n : Nat) : Nat := Nat.add n (Nat.shiftRight n 16)
def swN (n : Nat) : Nat := Nat.land (sw5 (sw4 (sw3 (sw2 (sw1 n))))) 63
/-- how many ones the first f halves of n have -/
def onesN : Nat → Nat → Nat
  | 0, _ => 0
  | f + 1, n => Nat.add (Nat.mod n 2) (onesN f (Nat.div n 2))
theorem ones_all : (List.range 65536).all (fun n => Nat.beq (swN n) (onesN 16 n)) = true := by decide +kernel
theorem ones_sw {n : Nat} (h : n < 65536) : swN n = onesN 16 n := Nat.eq_of_beq_eq_true (List.all_eq_true.mp ones_all n (List.mem_range.mpr h))
theorem ones_step : ∀ f n : Nat, 0 < n → n < 2 ^ f → onesN f (n &&& (n - 1)) + 1 = onesN f n
  | 0, n, h0, h => by simp at h; omega
  | f + 1, n, h0, h => by
    have e1 : (n &&& (n - 1)) / 2 = n / 2 &&& (n - 1) / 2 := Nat.and_div_two
    have e2 : (n &&& (n - 1)) % 2 = 0 := by
      have := Nat.and_mod_two_pow (a := n) (b := n - 1) (n := 1)
      rw [show (2 : Nat) ^ 1 = 2 from rfl] at this
      rw [this]
      rcases Nat.mod_two_eq_zero_or_one n with e | e
      · rw [e, Nat.zero_and]
      · rw [show (n - 1) % 2 = 0 by omega, Nat.and_zero]
    show (n &&& (n - 1)) % 2 + onesN f ((n &&& (n - 1)) / 2) + 1 = n % 2 + onesN f (n / 2)
    rw [e1, e2]
    rcases Nat.mod_two_eq_zero_or_one n with e | e
    · rw [e, show (n - 1) / 2 = n / 2 - 1 by omega]
      have := ones_step f (n / 2) (by omega) (by rw [Nat.pow_succ] at h; omega)
      omega
    · rw [e, show (n - 1) / 2 = n / 2 by omega, Nat.and_self]
      omega
theorem ones_0 : ∀ f : Nat, onesN f 0 = 0
  | 0 => rfl
  | f + 1 => by
    show 0 % 2 + onesN f (0 / 2) = 0
    rw [show 0 / 2 = 0 from rfl, ones_0 f]
theorem ones_le : ∀ f n : Nat, onesN f n ≤ f
  | 0, _ => Nat.le_refl _
  | f + 1, n => by
    show n % 2 + onesN f (n / 2) ≤ f + 1
    have := ones_le f (n / 2)
    omega
theorem nI_and {a b : Nat} (ha : a < 2 ^ 32) (hb : b < 2 ^ 32) : nI a &&& nI b = nI (a &&& b) := by
  apply Int32.toBitVec_inj.mp
  apply BitVec.eq_of_toNat_eq
  show ((nI a).toBitVec &&& (nI b).toBitVec).toNat = _
  have hc : a &&& b < 2 ^ 32 := Nat.lt_of_le_of_lt Nat.and_le_left ha
  rw [BitVec.toNat_and, pk_tn ha, pk_tn hb, pk_tn hc]
theorem r_sizeOf {n : Nat} (h : n < 65536) : f11_sizeOf (nI n) = some (nI (onesN 16 n)) := by
  unfold f11_sizeOf
  have key : ∀ n c : Nat, n < 65536 → loop f11_sizeOf_l4 (nI c, nI n) = some (nI (c + onesN 16 n)) := by
    intro n
    induction n using Nat.strongRecOn with
    | ind n ih =>
      intro c hn
      by_cases e : n = 0
      · subst e
        rw [ones_0]
        refine loop_inr ?_
        unfold f11_sizeOf_l4
        exact if_pos rfl
      · have h1 : n &&& (n - 1) ≤ n - 1 := Nat.and_le_right
        rw [← ones_step 16 n (by omega) (by omega)]
        rw [loop_inl (s' := (nI (c + 1), nI (n &&& (n - 1)))) ?_, ih (n &&& (n - 1)) (by omega) (c + 1) (by omega)]
        · congr 2
          omega
        · unfold f11_sizeOf_l4
          rw [if_neg (show ¬ nI n = 0 from fun e2 => e ((nI_eq (a := n) (b := 0) (by omega) (by omega)).mp e2))]
          show some (Sum.inl (nI c + 1, nI n &&& (nI n - nI 1))) = _
          rw [nI_1, pk_sub (by omega), nI_and (by omega) (by omega)]
  have := key n 0 h
  rw [Nat.zero_add] at this
  exact this
theorem shr_le (n k : Nat) : n >>> k ≤ n := by rw [Nat.shiftRight_eq_div_pow]; exact Nat.div_le_self _ _
theorem ushr_n {n : Nat} (hn : n < 2 ^ 32) {s : Int32} (k : Nat) (hs : ((s.toUInt32 &&& Int32.toUInt32 31).toBitVec % 32).toNat = k) : ((nI n).toUInt32 >>> (s.toUInt32 &&& Int32.toUInt32 31)).toInt32 = nI (n >>> k) := by
  rw [pk_ushrN hn s k hs, Nat.shiftRight_eq_div_pow]
theorem c_bitCount {n : Nat} (h : n < 65536) : fJ6_bitCount_0f7a4 (nI n) = some (nI (onesN 16 n)) := by
  unfold fJ6_bitCount_0f7a4
  simp only [nm_p]
  have b1 : sw1 n ≤ n := Nat.sub_le _ _
  have b2 : sw2 (sw1 n) ≤ 2 * n := by
    have h1 : Nat.land (sw1 n) 858993459 ≤ sw1 n := Nat.and_le_left
    have h2 : Nat.land (Nat.shiftRight (sw1 n) 2) 858993459 ≤ Nat.shiftRight (sw1 n) 2 := Nat.and_le_left
    have h3 : Nat.shiftRight (sw1 n) 2 ≤ sw1 n := shr_le _ _
    show Nat.land (sw1 n) 858993459 + Nat.land (Nat.shiftRight (sw1 n) 2) 858993459 ≤ _
    omega
  have b3 : sw3 (sw2 (sw1 n)) ≤ 4 * n := by
    have h1 : sw3 (sw2 (sw1 n)) ≤ sw2 (sw1 n) + Nat.shiftRight (sw2 (sw1 n)) 4 := Nat.and_le_left
    have h3 : Nat.shiftRight (sw2 (sw1 n)) 4 ≤ sw2 (sw1 n) := shr_le _ _
    omega
  have b4 : sw4 (sw3 (sw2 (sw1 n))) ≤ 8 * n := by
    have h3 : Nat.shiftRight (sw3 (sw2 (sw1 n))) 8 ≤ sw3 (sw2 (sw1 n)) := shr_le _ _
    show sw3 (sw2 (sw1 n)) + Nat.shiftRight (sw3 (sw2 (sw1 n))) 8 ≤ _
    omega
  have b5 : sw5 (sw4 (sw3 (sw2 (sw1 n)))) ≤ 16 * n := by
    have h3 : Nat.shiftRight (sw4 (sw3 (sw2 (sw1 n)))) 16 ≤ sw4 (sw3 (sw2 (sw1 n))) := shr_le _ _
    show sw4 (sw3 (sw2 (sw1 n))) + Nat.shiftRight (sw4 (sw3 (sw2 (sw1 n)))) 16 ≤ _
    omega
  have e1 : nI n - (((nI n).toUInt32 >>> (((1 : Int32)).toUInt32 &&& Int32.toUInt32 31)).toInt32 &&& (1431655765 : Int32)) = nI (sw1 n) := by
    rw [ushr_n (by omega) 1 (by decide), show (1431655765 : Int32) = nI 1431655765 from rfl, nI_and (by have := shr_le n 1; omega) (by omega), pk_sub (Nat.le_trans Nat.and_le_left (shr_le n 1))]; rfl
  have e2 : ∀ a, a < 2 ^ 31 → (nI a &&& (858993459 : Int32)) + (((nI a).toUInt32 >>> (((2 : Int32)).toUInt32 &&& Int32.toUInt32 31)).toInt32 &&& (858993459 : Int32)) = nI (sw2 a) := by
    intro a ha
    rw [ushr_n (by omega) 2 (by decide), show (858993459 : Int32) = nI 858993459 from rfl, nI_and (by omega) (by omega), nI_and (by have := shr_le a 2; omega) (by omega), nI_add]; rfl
  have e3 : ∀ a, a < 2 ^ 30 → (nI a + ((nI a).toUInt32 >>> (((4 : Int32)).toUInt32 &&& Int32.toUInt32 31)).toInt32) &&& (252645135 : Int32) = nI (sw3 a) := by
    intro a ha
    rw [ushr_n (by omega) 4 (by decide), nI_add, show (252645135 : Int32) = nI 252645135 from rfl, nI_and (by have := shr_le a 4; omega) (by omega)]; rfl
  have e4 : ∀ a, a < 2 ^ 31 → nI a + ((nI a).toUInt32 >>> (((8 : Int32)).toUInt32 &&& Int32.toUInt32 31)).toInt32 = nI (sw4 a) := by
    intro a ha
    rw [ushr_n (by omega) 8 (by decide), nI_add]; rfl
  have e5 : ∀ a, a < 2 ^ 31 → nI a + ((nI a).toUInt32 >>> (((16 : Int32)).toUInt32 &&& Int32.toUInt32 31)).toInt32 = nI (sw5 a) := by
    intro a ha
    rw [ushr_n (by omega) 16 (by decide), nI_add]; rfl
  rw [e1, e2 _ (by omega), e3 _ (by omega), e4 _ (by omega), e5 _ (by omega), show (63 : Int32) = nI 63 from rfl, nI_and (by omega) (by omega)]
  show some (nI (swN n)) = _
  rw [ones_sw h]
theorem c_isSooner {s4 : OS} {n p q : Nat} (hn : n ≤ 150) (h : s4.1 0 10 = nI n) (hp : p < n) (hq : q < n) (b1' : bw 0 65535 (s4.1 4 p)) (b2' : bw 0 65535 (s4.1 4 q)) : ∃ x y : Nat, x ≤ 16 ∧ y ≤ 16 ∧ f11_sizeOf (s4.1 4 p) = some (nI x) ∧ f11_sizeOf (s4.1 4 q) = some (nI y) ∧ f10_isSooner (nI p) (nI q) s4 = some (b1 (x < y ∨ (x = y ∧ s4.1 3 p < s4.1 3 q))) := by
  obtain ⟨a, -, ha, ea⟩ := bw_nat (lo := 0) (hi := 65535) b1' (by omega)
  obtain ⟨b, -, hb, eb⟩ := bw_nat (lo := 0) (hi := 65535) b2' (by omega)
  have hx := ones_le 16 a
  have hy := ones_le 16 b
  refine ⟨onesN 16 a, onesN 16 b, hx, hy, by rw [ea]; exact r_sizeOf (by omega), by rw [eb]; exact r_sizeOf (by omega), ?_⟩
  unfold f10_isSooner f10_isSooner_j42 f10_isSooner_j67
  rw [c_metOfP hn h hp, c_metOfP hn h hq, c_weightOfP hn h hp, c_weightOfP hn h hq]
  simp only [Option.bind_some, ea, eb, c_bitCount (show a < 65536 by omega), c_bitCount (show b < 65536 by omega)]
  by_cases e : onesN 16 a = onesN 16 b
  · rw [if_pos (congrArg nI e)]
    by_cases c : s4.1 3 q ≤ s4.1 3 p
    · rw [if_pos c, b1_f (fun e2 => e2.elim (fun e3 => by omega) (fun e3 => by
        have := Int32.lt_iff_toInt_lt.mp e3.2
        have := Int32.le_iff_toInt_le.mp c
        omega))]; rfl
    · rw [if_neg c, b1_t (Or.inr ⟨e, Int32.lt_iff_toInt_lt.mpr (by
        rcases Int.lt_or_le (s4.1 3 p).toInt (s4.1 3 q).toInt with e | e
        · exact e
        · exact absurd (Int32.le_iff_toInt_le.mpr e) c)⟩)]; rfl
  · rw [if_neg (fun e2 => e ((nI_eq (by omega) (by omega)).mp e2))]
    by_cases c : onesN 16 b ≤ onesN 16 a
    · rw [if_pos (nI_le c (by omega)), b1_f (by omega)]; rfl
    · rw [if_neg (nI_ge (by omega) (by omega)), b1_t (Or.inl (by omega))]; rfl
theorem st_next {k : Nat} {s0 s1 s2 s3 s4 s5 s6 s7 s8 s9 s10 s11 : OS} (h : Rel k s0 s1 s2 s3 s4 s5 s6 s7 s8 s9 s10 s11) (hk : k < 512) (a1 : Int32) (a2 : Int32) (a3 : Int32) : ∃ (rc : Int32) (rr : Int32), f10_next a1 a2 a3 s4 = some rc ∧ f11_next a1 a2 a3 s11 = some rr ∧ rc = rr ∧ Rel (k + 1) s0 s1 s2 s3 s4 s5 s6 s7 s8 s9 s10 s11 := by
  obtain ⟨n, hV, hP, hD⟩ := id h
  obtain ⟨p1, p2, p3, p4, p5, p6, p7, p8, p9, p10, p11, p12, p13⟩ := id hP
  unfold f10_next f10_next_j24 f11_next f11_next_j26
  rw [c_isKind, r_isKind, c_isBits, r_isBits]
  simp only [Option.bind_some, c_isWithin, r_lies, if_b1, Int32.toInt_toInt64]
  by_cases h1 : 0 ≤ a1.toInt ∧ a1.toInt ≤ 7
  · simp only [if_pos h1]
    by_cases h2 : 0 ≤ a2.toInt ∧ a2.toInt ≤ 65535
    · simp only [if_pos h2]
      by_cases h3 : (1 : Int32).toInt ≤ a3.toInt ∧ a3.toInt ≤ (1000000000 : Int32).toInt
      · rw [if_pos h3, if_pos (show (1 : Int64).toInt ≤ a3.toInt ∧ a3.toInt ≤ (1000000000 : Int64).toInt from h3)]
        have key : ∃ r r', loop (f10_next_l32 a1 a2 a3 s4) ((-1 : Int32), (0 : Int32)) = some r ∧ loop (f11_next_l34 a1 a2 a3 s11) ((-1 : Int32), (0 : Int32)) = some r' ∧ r = r' := by
          refine loop_sim n (fun i s s' => s = s' ∧ i ≤ n ∧ s.2 = nI i ∧ (s.1 = -1 ∨ ∃ j, j < i ∧ s.1 = nI j)) _ ?_ n 0 _ _ (by omega) ⟨rfl, by omega, rfl, Or.inl rfl⟩
          rintro i ⟨x, y⟩ s' ⟨rfl, hi, e, hx⟩
          have e : y = nI i := e
          subst e
          unfold f10_next_l32 f10_next_j100 f10_next_j101 f10_next_j125 f10_next_j129 f11_next_l34 f11_next_j148 f11_next_j152 f4_size
          simp only [Option.bind_some, p2, p3]
          by_cases hin : i = n
          · right
            subst hin
            rw [if_pos (show nI i ≤ nI i from nI_le (Nat.le_refl _) (by omega)), if_pos (show nI i ≤ nI i from nI_le (Nat.le_refl _) (by omega))]
            exact ⟨_, _, rfl, rfl, rfl⟩
          · left
            have hlt : i < n := by omega
            have hic := nI_clamp (n := i) (by omega)
            have hx' : x = -1 ∨ ∃ j, j < i + 1 ∧ x = nI j := hx.imp id (fun ⟨j, h1, h2⟩ => ⟨j, by omega, h2⟩)
            have hy' : nI i = -1 ∨ ∃ j, j < i + 1 ∧ nI i = nI j := Or.inr ⟨i, by omega, rfl⟩
            obtain ⟨g1, g2, g3, g4, g5⟩ := p12 i hlt
            have hii : 0 ≤ (nI i).toInt ∧ (nI i).toInt < n := by rw [nI_toInt (by omega)]; omega
            rw [if_neg (nI_ge hlt (by omega)), if_neg (nI_ge hlt (by omega)), c_isAtHand p1 p2, r_isOpen p1 p3, c_kindOfP p1 p2 hlt, c_metOfP p1 p2 hlt, c_weightOfP p1 p2 hlt]
            simp only [Option.bind_some, if_b1, hic, inb_n (show i < 150 by omega) (by omega : 150 < 2 ^ 31), chk_p, nm_p, p4, p6, p7, p8, p11, nI_1, if_pos, if_neg (show ¬ (1 : Int32) = 0 by decide)]
            by_cases c1 : s11.1 12 i = a1
            · simp only [if_pos c1]
              by_cases c2 : ((0 ≤ (nI i).toInt ∧ (nI i).toInt < n) ∧ (s11.1 16 i).toInt < 10) ∧ s11.1 19 i = 0
              · simp only [if_pos c2]
                by_cases c3 : s11.1 15 i &&& a2 = 0
                · simp only [if_pos c3]
                  by_cases c4 : a3 ≤ s11.1 14 i
                  · have c4' : ¬ s11.1 14 i < a3 := by
                      intro e; have := Int32.lt_iff_toInt_lt.mp e; have := Int32.le_iff_toInt_le.mp c4; omega
                    simp only [if_pos c4, if_neg c4']
                    by_cases c5 : x = -1
                    · simp only [if_pos c5]
                      exact ⟨_, _, rfl, rfl, hlt, rfl, hlt, rfl, hy'⟩
                    · simp only [if_neg c5]
                      rcases hx with hx | ⟨j, hj, hx⟩
                      · exact absurd hx c5
                      · have hx : x = nI j := hx
                        subst hx
                        have hjc := nI_clamp (n := j) (by omega)
                        obtain ⟨gj1, gj2, gj3, gj4, gj5⟩ := p12 j (by omega)
                        obtain ⟨u, v, hu, hv, eu, ev, es⟩ := c_isSooner (s4 := s4) p1 p2 hlt (show j < n by omega) (by rw [p7]; exact g3) (by rw [p7]; exact gj3)
                        rw [p7] at eu ev
                        rw [p6] at es
                        rw [es]
                        simp only [hjc, inb_n (show j < 150 by omega) (by omega : 150 < 2 ^ 31), chk_p, nm_p, eu, ev, Option.bind_some, if_b1]
                        by_cases d1 : u < v
                        · rw [if_pos (Or.inl d1)]
                          have t1 : (nI u - nI v).toInt = (u : Int) - v := pk_sub_toInt (by omega) (by omega)
                          have z0 : (0 : Int32).toInt = 0 := rfl
                          rw [if_neg (fun e => by have := Int32.lt_iff_toInt_lt.mp e; omega), if_neg (fun e => by rw [e] at t1; omega)]
                          exact ⟨_, _, rfl, rfl, hlt, rfl, hlt, rfl, hy'⟩
                        · by_cases d2 : u = v
                          · subst d2
                            rw [show nI u - nI u = 0 by rw [pk_sub (Nat.le_refl _), Nat.sub_self]; rfl, if_neg (show ¬ (0 : Int32) < 0 by decide), if_pos (show (0 : Int32) = 0 from rfl)]
                            by_cases d3 : s11.1 14 i < s11.1 14 j
                            · rw [if_pos (Or.inr ⟨rfl, d3⟩), if_pos d3]
                              exact ⟨_, _, rfl, rfl, hlt, rfl, hlt, rfl, hy'⟩
                            · rw [if_neg (fun e => e.elim (fun e => by omega) (fun e => d3 e.2)), if_neg d3]
                              exact ⟨_, _, rfl, rfl, hlt, rfl, hlt, rfl, hx'⟩
                          · rw [if_neg (fun e => e.elim (fun e => by omega) (fun e => d2 e.1))]
                            have t1 : (nI u - nI v).toInt = (u : Int) - v := pk_sub_toInt (by omega) (by omega)
                            have z0 : (0 : Int32).toInt = 0 := rfl
                            rw [if_pos (show 0 < nI u - nI v from Int32.lt_iff_toInt_lt.mpr (by omega))]
                            exact ⟨_, _, rfl, rfl, hlt, rfl, hlt, rfl, hx'⟩
                  · have c4' : s11.1 14 i < a3 := by
                      rcases Int.lt_or_le (s11.1 14 i).toInt a3.toInt with e | e
                      · exact Int32.lt_iff_toInt_lt.mpr e
                      · exact absurd (Int32.le_iff_toInt_le.mpr e) c4
                    simp only [if_neg c4, if_pos c4']
                    exact ⟨_, _, rfl, rfl, hlt, rfl, hlt, rfl, hx'⟩
                · simp only [if_neg c3]
                  exact ⟨_, _, rfl, rfl, hlt, rfl, hlt, rfl, hx'⟩
              · simp only [if_neg c2]
                exact ⟨_, _, rfl, rfl, hlt, rfl, hlt, rfl, hx'⟩
            · simp only [if_neg c1, ite_self]
              exact ⟨_, _, rfl, rfl, hlt, rfl, hlt, rfl, hx'⟩
        obtain ⟨r, r', k1, k2, rfl⟩ := key
        exact ⟨_, _, k1, k2, rfl, h.same⟩
      · rw [if_neg h3, if_neg (show ¬ ((1 : Int64).toInt ≤ a3.toInt ∧ a3.toInt ≤ (1000000000 : Int64).toInt) from h3)]
        exact ⟨_, _, rfl, rfl, rfl, h.same⟩
    · simp only [if_neg h2]
      exact ⟨_, _, rfl, rfl, rfl, h.same⟩
  · simp only [if_neg h1]
    exact ⟨_, _, rfl, rfl, rfl, h.same⟩
