-- steps: sum
def sumN (g : Nat → Int64) : Nat → Int64
  | 0 => 0
  | i + 1 => sumN g i + g i
theorem sumN_congr {f g : Nat → Int64} : ∀ n, (∀ i, i < n → f i = g i) → sumN f n = sumN g n
  | 0, _ => rfl
  | n + 1, h => by
    show sumN f n + f n = sumN g n + g n
    rw [sumN_congr n (fun i hi => h i (by omega)), h n (by omega)]
theorem sumN_0 : ∀ n, sumN (fun _ => 0) n = 0
  | 0 => rfl
  | n + 1 => by
    show sumN (fun _ => 0) n + 0 = 0
    rw [sumN_0 n]; rfl
theorem sumN_add {f g : Nat → Int64} : ∀ n, sumN (fun i => f i + g i) n = sumN f n + sumN g n
  | 0 => rfl
  | n + 1 => by
    show sumN (fun i => f i + g i) n + (f n + g n) = (sumN f n + f n) + (sumN g n + g n)
    rw [sumN_add n, Int64.add_assoc, Int64.add_assoc, ← Int64.add_assoc (sumN g n), Int64.add_comm (sumN g n) (f n), Int64.add_assoc]
theorem sumN_swap {g : Nat → Nat → Int64} (n : Nat) : ∀ m, sumN (fun j => sumN (fun p => g j p) n) m = sumN (fun p => sumN (fun j => g j p) m) n
  | 0 => by
    show 0 = sumN (fun _ => 0) n
    rw [sumN_0]
  | m + 1 => by
    show sumN (fun j => sumN (fun p => g j p) n) m + sumN (fun p => g m p) n = sumN (fun p => sumN (fun j => g j p) m + g m p) n
    rw [sumN_swap n m, sumN_add]
theorem sumN_pick {kk : Nat} {v : Int64} : ∀ m, sumN (fun j => if j = kk then v else 0) m = if kk < m then v else 0
  | 0 => by rw [if_neg (by omega)]; rfl
  | m + 1 => by
    show sumN (fun j => if j = kk then v else 0) m + (if m = kk then v else 0) = _
    rw [sumN_pick m]
    by_cases e : m = kk
    · subst e; rw [if_neg (by omega), if_pos rfl, if_pos (by omega), i64_zero_add]
    · rw [if_neg e, Int64.add_zero]
      by_cases e2 : kk < m
      · rw [if_pos e2, if_pos (by omega)]
      · rw [if_neg e2, if_neg (by omega)]
theorem c_charged {acc : Nat} (ha : acc < 4) (a : Int32) (s4 : OS) : f4_charged (nI acc) a s4 = some (sumN (fun j => if a = -1 ∨ a = nI j then s4.2 9 (acc * 8 + j) else 0) 8) := by
  unfold f4_charged
  refine loop_seq (fun j => (sumN (fun j => if a = -1 ∨ a = nI j then s4.2 9 (acc * 8 + j) else 0) j, nI j)) 8 _ (fun j hj => ?_) ?_
  · unfold f4_charged_l5 f4_charged_j32 f4_charged_j57
    have hx : nI acc * (8 : Int32) + nI j = nI (acc * 8 + j) := by rw [show (8 : Int32) = nI 8 from rfl, pk_mul, nI_add]
    have hc := nI_clamp (n := acc * 8 + j) (by omega)
    simp only [hx, nm_p, hc, nI_1]
    rw [if_neg (show ¬ (8 : Int32) ≤ nI j from nI_ge (a := j) (b := 8) hj (by omega)), if_neg (nI_pos (n := acc * 8 + j) (by omega)), if_neg (show ¬ (32 : Int32) ≤ nI (acc * 8 + j) from nI_ge (a := acc * 8 + j) (b := 32) (by omega) (by omega)), inb_n (show acc * 8 + j < 32 by omega) (by omega), chk_p]
    by_cases e1 : a = -1
    · rw [if_pos e1]
      show _ = some (Sum.inl (sumN _ j + (if a = -1 ∨ a = nI j then s4.2 9 (acc * 8 + j) else 0), _))
      rw [if_pos (Or.inl e1)]
    · rw [if_neg e1]
      by_cases e2 : a = nI j
      · rw [if_pos e2]
        show _ = some (Sum.inl (sumN _ j + (if a = -1 ∨ a = nI j then s4.2 9 (acc * 8 + j) else 0), _))
        rw [if_pos (Or.inr e2)]
      · rw [if_neg e2]
        show _ = some (Sum.inl (sumN _ j + (if a = -1 ∨ a = nI j then s4.2 9 (acc * 8 + j) else 0), _))
        rw [if_neg (fun e => e.elim e1 e2), Int64.add_zero]
  · rfl
/-- what a piece adds -/
def wSum (a12 a14 a15 a16 : Nat → Int32) (lo hi : Nat) (fl : Bool) (P : Nat → Prop) [DecidablePred P] (p : Nat) : Int64 := if P p ∧ (((lo : Int) ≤ (a16 p).toInt ∧ (a16 p).toInt ≤ hi) ∧ (fl = true → a15 p = 0)) then (a14 p).toInt64 else 0
theorem wSum_t {a12 a14 a15 a16 : Nat → Int32} {lo hi : Nat} {fl : Bool} {P : Nat → Prop} [DecidablePred P] {p : Nat} (h1 : P p) (h2 : (lo : Int) ≤ (a16 p).toInt ∧ (a16 p).toInt ≤ hi) (h3 : fl = true → a15 p = 0) : wSum a12 a14 a15 a16 lo hi fl P p = (a14 p).toInt64 := if_pos ⟨h1, h2, h3⟩
theorem wSum_f1 {a12 a14 a15 a16 : Nat → Int32} {lo hi : Nat} {fl : Bool} {P : Nat → Prop} [DecidablePred P] {p : Nat} (h1 : ¬ P p) : wSum a12 a14 a15 a16 lo hi fl P p = 0 := if_neg (fun e => h1 e.1)
theorem wSum_f2 {a12 a14 a15 a16 : Nat → Int32} {lo hi : Nat} {fl : Bool} {P : Nat → Prop} [DecidablePred P] {p : Nat} (h2 : ¬ ((lo : Int) ≤ (a16 p).toInt ∧ (a16 p).toInt ≤ hi)) : wSum a12 a14 a15 a16 lo hi fl P p = 0 := if_neg (fun e => h2 e.2.1)
theorem wSum_f3 {a12 a14 a15 a16 : Nat → Int32} {lo hi : Nat} {fl : Bool} {P : Nat → Prop} [DecidablePred P] {p : Nat} (h3 : ¬ (fl = true → a15 p = 0)) : wSum a12 a14 a15 a16 lo hi fl P p = 0 := if_neg (fun e => h3 e.2.2)
theorem fls {A : Prop} : false = true → A := fun e => by cases e
theorem c_weightIn {s4 : OS} {n lo hi : Nat} (hn : n ≤ 150) (h : s4.1 0 10 = nI n) (hlo : lo < 100) (hhi : hi < 100) (a : Int32) (fl : Bool) {fv : Int32} (hf0 : fl = false → fv = 0) (hf1 : fl = true → fv = 1) : f4_weightIn a (nI lo) (nI hi) fv s4 = some (sumN (wSum (s4.1 1) (s4.1 3) (s4.1 4) (s4.1 5) lo hi fl (fun p => a = -1 ∨ s4.1 1 p = a)) n) := by
  unfold f4_weightIn
  refine loop_seq (fun j => (sumN (wSum (s4.1 1) (s4.1 3) (s4.1 4) (s4.1 5) lo hi fl (fun p => a = -1 ∨ s4.1 1 p = a)) j, nI j)) n _ (fun j hj => ?_) ?_
  · obtain ⟨S, hS⟩ : ∃ S, S = sumN (wSum (s4.1 1) (s4.1 3) (s4.1 4) (s4.1 5) lo hi fl (fun p => a = -1 ∨ s4.1 1 p = a)) j := ⟨_, rfl⟩
    obtain ⟨X, hX⟩ : ∃ X, X = wSum (s4.1 1) (s4.1 3) (s4.1 4) (s4.1 5) lo hi fl (fun p => a = -1 ∨ s4.1 1 p = a) j := ⟨_, rfl⟩
    have eS : sumN (wSum (s4.1 1) (s4.1 3) (s4.1 4) (s4.1 5) lo hi fl (fun p => a = -1 ∨ s4.1 1 p = a)) (j + 1) = S + X := by rw [hS, hX]; rfl
    simp only [eS, ← hS]
    unfold f4_weightIn_l6 f4_weightIn_j30 f4_weightIn_j58 f4_weightIn_j62 f4_weightIn_j63 f4_weightIn_j82
    simp only [h, c_kindOfP hn h hj, c_placeOfP hn h hj, c_metOfP hn h hj, c_weightOfP hn h hj, Option.bind_some, c_isWithin, if_b1, nm_p, nI_1, nI_toInt (n := lo) (by omega), nI_toInt (n := hi) (by omega)]
    rw [if_neg (nI_ge hj (by omega))]
    by_cases e2 : (lo : Int) ≤ (s4.1 5 j).toInt ∧ (s4.1 5 j).toInt ≤ hi
    · simp only [if_pos e2]
      cases fl
      · have := hf0 rfl
        subst this
        simp only [if_pos]
        by_cases e1 : a = -1
        · rw [if_pos e1, hX, wSum_t (Or.inl e1) e2 fls]; rfl
        · rw [if_neg e1]
          by_cases e3 : s4.1 1 j = a
          · rw [if_pos e3, hX, wSum_t (Or.inr e3) e2 fls]; rfl
          · rw [if_neg e3, hX, wSum_f1 (fun e => e.elim e1 e3), Int64.add_zero]
      · have := hf1 rfl
        subst this
        simp only [if_neg (show ¬ (1 : Int32) = 0 by decide)]
        by_cases e4 : s4.1 4 j = 0
        · simp only [if_pos e4]
          by_cases e1 : a = -1
          · rw [if_pos e1, hX, wSum_t (Or.inl e1) e2 (fun _ => e4)]
          · rw [if_neg e1]
            by_cases e3 : s4.1 1 j = a
            · rw [if_pos e3, hX, wSum_t (Or.inr e3) e2 (fun _ => e4)]
            · rw [if_neg e3, hX, wSum_f1 (fun e => e.elim e1 e3), Int64.add_zero]; rfl
        · simp only [if_neg e4, ite_self]
          rw [hX, wSum_f3 (fun e => e4 (e rfl)), Int64.add_zero]
          simp only [if_pos, ite_self]
    · simp only [if_neg e2, if_pos, ite_self]
      rw [hX, wSum_f2 e2, Int64.add_zero]
  · unfold f4_weightIn_l6
    rw [h, if_pos (show nI n ≤ nI n from nI_le (Nat.le_refl _) (by omega))]; rfl
theorem r_inCabinets {m : OS} {n : Nat} (hn : n ≤ 150) (h : m.1 0 3 = nI n) (hr : ∀ p, p < n → 0 ≤ (m.1 16 p).toInt) (a : Int32) (fl : Bool) {fv : Int32} (hf0 : fl = false → fv = 0) (hf1 : fl = true → fv = 1) : f11_inCabinets a fv (-1) m = some (sumN (wSum (m.1 12) (m.1 14) (m.1 15) (m.1 16) 0 9 fl (fun p => m.1 12 p = a)) n) := by
  unfold f11_inCabinets
  refine loop_seq (fun j => (sumN (wSum (m.1 12) (m.1 14) (m.1 15) (m.1 16) 0 9 fl (fun p => m.1 12 p = a)) j, nI j)) n _ (fun j hj => ?_) ?_
  · obtain ⟨S, hS⟩ : ∃ S, S = sumN (wSum (m.1 12) (m.1 14) (m.1 15) (m.1 16) 0 9 fl (fun p => m.1 12 p = a)) j := ⟨_, rfl⟩
    obtain ⟨X, hX⟩ : ∃ X, X = wSum (m.1 12) (m.1 14) (m.1 15) (m.1 16) 0 9 fl (fun p => m.1 12 p = a) j := ⟨_, rfl⟩
    have eS : sumN (wSum (m.1 12) (m.1 14) (m.1 15) (m.1 16) 0 9 fl (fun p => m.1 12 p = a)) (j + 1) = S + X := by rw [hS, hX]; rfl
    simp only [eS, ← hS]
    unfold f11_inCabinets_l6 f11_inCabinets_j60 f11_inCabinets_j71 f11_inCabinets_j72
    have hjc := nI_clamp (n := j) (by omega)
    have hj0 := hr j hj
    simp only [h, hjc, inb_n (show j < 150 by omega) (by omega : 150 < 2 ^ 31), chk_p, nm_p, nI_1]
    rw [if_neg (nI_ge hj (by omega))]
    by_cases e1 : m.1 12 j = a
    · rw [if_pos e1]
      by_cases e2 : (10 : Int32) ≤ m.1 16 j
      · have e2' : 10 ≤ (m.1 16 j).toInt := Int32.le_iff_toInt_le.mp e2
        rw [if_pos e2, hX, wSum_f2 (fun e => by have := e.2; omega)]
      · have e2' : ¬ 10 ≤ (m.1 16 j).toInt := fun e => e2 (Int32.le_iff_toInt_le.mpr e)
        have e2'' : ((0 : Nat) : Int) ≤ (m.1 16 j).toInt ∧ (m.1 16 j).toInt ≤ ((9 : Nat) : Int) := ⟨by omega, by omega⟩
        rw [if_neg e2, if_neg (show ¬ nI j = -1 from fun e => by have e := congrArg Int32.toInt e; rw [nI_toInt (by omega)] at e; have e : (j : Int) = -1 := e; omega)]
        cases fl
        · have := hf0 rfl
          subst this
          rw [if_pos rfl, hX, wSum_t e1 e2'' fls]
        · have := hf1 rfl
          subst this
          rw [if_neg (by decide)]
          by_cases e4 : m.1 15 j = 0
          · rw [if_pos e4, hX, wSum_t e1 e2'' (fun _ => e4)]
          · rw [if_neg e4, hX, wSum_f3 (fun e => e4 (e rfl))]
    · rw [if_neg e1, hX, wSum_f1 e1]
  · unfold f11_inCabinets_l6
    rw [h, if_pos (show nI n ≤ nI n from nI_le (Nat.le_refl _) (by omega))]; rfl
theorem r_weightsAt {m : OS} {n q : Nat} (hn : n ≤ 150) (h : m.1 0 3 = nI n) (hq : q < 100) (a : Int32) : f11_weightsAt a (nI q) m = some (sumN (wSum (m.1 12) (m.1 14) (m.1 15) (m.1 16) q q false (fun p => m.1 12 p = a)) n) := by
  unfold f11_weightsAt
  refine loop_seq (fun j => (sumN (wSum (m.1 12) (m.1 14) (m.1 15) (m.1 16) q q false (fun p => m.1 12 p = a)) j, nI j)) n _ (fun j hj => ?_) ?_
  · obtain ⟨S, hS⟩ : ∃ S, S = sumN (wSum (m.1 12) (m.1 14) (m.1 15) (m.1 16) q q false (fun p => m.1 12 p = a)) j := ⟨_, rfl⟩
    obtain ⟨X, hX⟩ : ∃ X, X = wSum (m.1 12) (m.1 14) (m.1 15) (m.1 16) q q false (fun p => m.1 12 p = a) j := ⟨_, rfl⟩
    have eS : sumN (wSum (m.1 12) (m.1 14) (m.1 15) (m.1 16) q q false (fun p => m.1 12 p = a)) (j + 1) = S + X := by rw [hS, hX]; rfl
    simp only [eS, ← hS]
    unfold f11_weightsAt_l5 f11_weightsAt_j48 f11_weightsAt_j49
    have hjc := nI_clamp (n := j) (by omega)
    simp only [h, hjc, inb_n (show j < 150 by omega) (by omega : 150 < 2 ^ 31), chk_p, nm_p, nI_1]
    rw [if_neg (nI_ge hj (by omega))]
    by_cases e1 : m.1 12 j = a
    · rw [if_pos e1]
      by_cases e2 : m.1 16 j = nI q
      · rw [if_pos e2, hX, wSum_t e1 (by rw [e2, nI_toInt (by omega)]; omega) fls]
      · rw [if_neg e2, hX, wSum_f2 (fun e => e2 (Int32.toInt_inj.mp (by rw [nI_toInt (by omega)]; have := e; omega)))]
    · rw [if_neg e1, hX, wSum_f1 e1]
  · unfold f11_weightsAt_l5
    rw [h, if_pos (show nI n ≤ nI n from nI_le (Nat.le_refl _) (by omega))]; rfl
theorem wSum_all {n lo hi : Nat} {fl : Bool} {a12 a14 a15 a16 : Nat → Int32} (hk : ∀ p, p < n → bw 0 7 (a12 p)) : sumN (wSum a12 a14 a15 a16 lo hi fl (fun p => (-1 : Int32) = -1 ∨ a12 p = -1)) n = sumN (fun j => sumN (wSum a12 a14 a15 a16 lo hi fl (fun p => a12 p = nI j)) n) 8 := by
  rw [sumN_swap]
  refine sumN_congr n (fun p hp => ?_)
  obtain ⟨kk, -, hkk, ek⟩ := bw_nat (lo := 0) (hi := 7) (hk p hp) (by omega)
  have e : sumN (fun j => wSum a12 a14 a15 a16 lo hi fl (fun p => a12 p = nI j) p) 8 = sumN (fun j => if j = kk then wSum a12 a14 a15 a16 lo hi fl (fun _ => True) p else 0) 8 := by
    refine sumN_congr 8 (fun j hj => ?_)
    by_cases c : j = kk
    · subst c; rw [if_pos rfl]
      unfold wSum
      simp only [ek, true_and]
    · rw [if_neg c]
      unfold wSum
      rw [if_neg (fun e => c (((nI_eq (a := kk) (b := j) (by omega) (by omega)).mp (ek.symm.trans e.1)).symm))]
  rw [e, sumN_pick, if_pos (by omega)]
  unfold wSum
  simp only [true_or, true_and]
theorem wSum_one {n lo hi j : Nat} (hj : j < 100) {fl : Bool} {a12 a14 a15 a16 : Nat → Int32} : sumN (wSum a12 a14 a15 a16 lo hi fl (fun p => nI j = -1 ∨ a12 p = nI j)) n = sumN (wSum a12 a14 a15 a16 lo hi fl (fun p => a12 p = nI j)) n := by
  have e : ¬ nI j = -1 := fun e => by have e := congrArg Int32.toInt e; rw [nI_toInt (by omega)] at e; have e : (j : Int) = -1 := e; omega
  refine sumN_congr n (fun p _ => ?_)
  unfold wSum
  simp only [e, false_or]
theorem sum_close {s11 : OS} {a1 a2 : Int32} (C : Int32 → Int64) (T : Nat → Int64) (hm : ∀ j, j < 8 → f11_sumOf (nI j) a2 s11 = some (T j)) (hc : ∀ j, j < 8 → C (nI j) = T j) (hc1 : C (-1) = sumN T 8) (ha : a1 = -1 ∨ ∃ j, j < 8 ∧ a1 = nI j) : (if a1 = -1 then loop (f11_sum_l47 a2 s11) ((0 : Int64), (0 : Int32)) else Option.bind (f11_sumOf a1 a2 s11) fun q => some q) = some (C a1) := by
  rcases ha with rfl | ⟨j, hj, rfl⟩
  · rw [if_pos rfl, hc1]
    refine loop_seq (fun j => (sumN T j, nI j)) 8 _ (fun j hj => ?_) rfl
    unfold f11_sum_l47
    show (if (8 : Int32) ≤ nI j then _ else _) = _
    rw [if_neg (show ¬ (8 : Int32) ≤ nI j from nI_ge (a := j) (b := 8) hj (by omega)), hm j hj]
    simp only [Option.bind_some, nm_p, nI_1]
    rfl
  · rw [if_neg (show ¬ nI j = -1 from fun e => by have e := congrArg Int32.toInt e; rw [nI_toInt (by omega)] at e; have e : (j : Int) = -1 := e; omega), hm j hj, hc j hj]; rfl
theorem ch_close {s4 : OS} {acc : Nat} {b : Nat → Int64} (hb : ∀ j, j < 8 → s4.2 9 (acc * 8 + j) = b j) : (∀ j, j < 8 → sumN (fun i => if nI j = -1 ∨ nI j = nI i then s4.2 9 (acc * 8 + i) else 0) 8 = b j) ∧ sumN (fun i => if (-1 : Int32) = -1 ∨ (-1 : Int32) = nI i then s4.2 9 (acc * 8 + i) else 0) 8 = sumN b 8 := by
  refine ⟨fun j hj => ?_, sumN_congr 8 (fun i hi => by rw [if_pos (Or.inl rfl), hb i hi])⟩
  have e : ¬ nI j = -1 := fun e => by have e := congrArg Int32.toInt e; rw [nI_toInt (by omega)] at e; have e : (j : Int) = -1 := e; omega
  rw [sumN_congr (g := fun i => if i = j then b j else 0) 8 (fun i hi => ?_), sumN_pick, if_pos hj]
  by_cases c : i = j
  · subst c; rw [if_pos (Or.inr rfl), if_pos rfl, hb i hi]
  · rw [if_neg c, if_neg (fun e2 => e2.elim e (fun e3 => c ((nI_eq (a := j) (b := i) (by omega) (by omega)).mp e3).symm))]
theorem st_sum {k : Nat} {s0 s1 s2 s3 s4 s5 s6 s7 s8 s9 s10 s11 : OS} (h : Rel k s0 s1 s2 s3 s4 s5 s6 s7 s8 s9 s10 s11) (hk : k < 512) (a1 : Int32) (a2 : Int32) : ∃ (rc : Int64) (rr : Int64), f10_sum a1 a2 s4 = some rc ∧ f11_sum a1 a2 s11 = some rr ∧ rc = rr ∧ Rel (k + 1) s0 s1 s2 s3 s4 s5 s6 s7 s8 s9 s10 s11 := by
  obtain ⟨n, hV, hP, hD⟩ := id h
  obtain ⟨p1, p2, p3, p4, p5, p6, p7, p8, p9, p10, p11, p12, p13⟩ := id hP
  have hkd : ∀ p, p < n → bw 0 7 (s11.1 12 p) := fun p hp => (p12 p hp).1
  have hpl : ∀ p, p < n → 0 ≤ (s11.1 16 p).toInt := fun p hp => (p12 p hp).2.2.2.1.1
  unfold f10_sum f11_sum f11_sum_j26
  simp only [c_isWithin, r_lies, Option.bind_some, if_b1, Int32.toInt_toInt64]
  by_cases h1 : (-1 : Int32).toInt ≤ a1.toInt ∧ a1.toInt ≤ (7 : Int32).toInt
  · rw [if_pos h1, if_pos (show (-1 : Int64).toInt ≤ a1.toInt ∧ a1.toInt ≤ (7 : Int64).toInt from h1)]
    have ha : a1 = -1 ∨ ∃ j, j < 8 ∧ a1 = nI j := by
      have h1 : -1 ≤ a1.toInt ∧ a1.toInt ≤ 7 := h1
      by_cases e : a1.toInt = -1
      · exact Or.inl (Int32.toInt_inj.mp e)
      · obtain ⟨q, hq, e⟩ := nI_of_in (x := a1) (n := 8) (by omega) (by omega)
        exact Or.inr ⟨q, hq, e⟩
    have W : ∀ (lo hi : Nat) (fl : Bool) (fv : Int32), (fl = false → fv = 0) → (fl = true → fv = 1) → lo < 100 → hi < 100 → (∀ j, j < 8 → f11_sumOf (nI j) a2 s11 = some (sumN (wSum (s11.1 12) (s11.1 14) (s11.1 15) (s11.1 16) lo hi fl (fun p => s11.1 12 p = nI j)) n)) → ∃ v, f4_weightIn a1 (nI lo) (nI hi) fv s4 = some v ∧ (if a1 = -1 then loop (f11_sum_l47 a2 s11) ((0 : Int64), (0 : Int32)) else Option.bind (f11_sumOf a1 a2 s11) fun q => some q) = some v := by
      intro lo hi fl fv hf0 hf1 hlo hhi hm
      refine ⟨_, c_weightIn p1 p2 hlo hhi a1 fl hf0 hf1, ?_⟩
      rw [p4, p6, p7, p8]
      exact sum_close (fun a => sumN (wSum (s11.1 12) (s11.1 14) (s11.1 15) (s11.1 16) lo hi fl (fun p => a = -1 ∨ s11.1 12 p = a)) n) _ hm (fun j hj => wSum_one (by omega)) (wSum_all hkd) ha
    have Ch : ∀ (acc : Nat) (b : Nat → Int64), acc < 4 → (∀ j, j < 8 → s4.2 9 (acc * 8 + j) = b j) → (∀ j, j < 8 → f11_sumOf (nI j) a2 s11 = some (b j)) → ∃ v, f4_charged (nI acc) a1 s4 = some v ∧ (if a1 = -1 then loop (f11_sum_l47 a2 s11) ((0 : Int64), (0 : Int32)) else Option.bind (f11_sumOf a1 a2 s11) fun q => some q) = some v := by
      intro acc b hacc hb hm
      exact ⟨_, c_charged hacc a1 s4, sum_close (fun a => sumN (fun i => if a = -1 ∨ a = nI i then s4.2 9 (acc * 8 + i) else 0) 8) _ hm (ch_close hb).1 (ch_close hb).2 ha⟩
    by_cases h2 : 0 ≤ a2.toInt ∧ a2.toInt ≤ 7
    · rw [if_pos (show (0 : Int64).toInt ≤ a2.toInt ∧ a2.toInt ≤ (7 : Int64).toInt from h2)]
      obtain ⟨q, hq, rfl⟩ := nI_of_in (x := a2) (n := 8) (by omega) (by omega)
      have hin : ∀ j, j < 8 → inb (nI j) 8 = true := fun j hj => inb_n hj (by omega)
      have hcl : ∀ j, j < 8 → (nI j).toNatClampNeg = j := fun j hj => nI_clamp (by omega)
      match q, hq with
      | 0, _ =>
        obtain ⟨v, v1, v2⟩ := Ch 0 (s11.2 21) (by omega) (fun j hj => by rw [Nat.zero_mul, Nat.zero_add]; exact (p13 j hj).1) (fun j hj => by
          unfold f11_sumOf; rw [if_pos (by decide), hin j hj, hcl j hj]; rfl)
        rw [v2, if_pos (by decide), show (0 : Int32) = nI 0 from rfl, v1]; exact ⟨_, _, rfl, rfl, rfl, h.same⟩
      | 1, _ =>
        obtain ⟨v, v1, v2⟩ := W 0 9 false 0 (fun _ => rfl) fls (by omega) (by omega) (fun j hj => by
          unfold f11_sumOf; rw [if_neg (by decide), if_pos (by decide)]
          rw [r_inCabinets p1 p3 hpl (nI j) false (fv := 0) (fun _ => rfl) fls]; rfl)
        rw [v2, if_neg (by decide), if_pos (by decide), show (9 : Int32) = nI 9 from rfl]
        have v1 : f4_weightIn a1 0 (nI 9) 0 s4 = some v := v1
        rw [v1]; exact ⟨_, _, rfl, rfl, rfl, h.same⟩
      | 2, _ =>
        obtain ⟨v, v1, v2⟩ := W 10 10 false 0 (fun _ => rfl) fls (by omega) (by omega) (fun j hj => by
          unfold f11_sumOf; rw [if_neg (by decide), if_neg (by decide), if_pos (by decide), show (10 : Int32) = nI 10 from rfl, r_weightsAt p1 p3 (by omega)]; rfl)
        rw [v2, if_neg (by decide), if_neg (by decide), if_pos (by decide), show (10 : Int32) = nI 10 from rfl, v1]; exact ⟨_, _, rfl, rfl, rfl, h.same⟩
      | 3, _ =>
        obtain ⟨v, v1, v2⟩ := W 11 11 false 0 (fun _ => rfl) fls (by omega) (by omega) (fun j hj => by
          unfold f11_sumOf; rw [if_neg (by decide), if_neg (by decide), if_neg (by decide), if_pos (by decide), show (11 : Int32) = nI 11 from rfl, r_weightsAt p1 p3 (by omega)]; rfl)
        rw [v2, if_neg (by decide), if_neg (by decide), if_neg (by decide), if_pos (by decide), show (11 : Int32) = nI 11 from rfl, v1]; exact ⟨_, _, rfl, rfl, rfl, h.same⟩
      | 4, _ =>
        obtain ⟨v, v1, v2⟩ := Ch 1 (s11.2 22) (by omega) (fun j hj => (p13 j hj).2.1) (fun j hj => by
          unfold f11_sumOf; rw [if_neg (by decide), if_neg (by decide), if_neg (by decide), if_neg (by decide), if_pos (by decide), hin j hj, hcl j hj]; rfl)
        rw [v2, if_neg (by decide), if_neg (by decide), if_neg (by decide), if_neg (by decide), if_pos (by decide), show (1 : Int32) = nI 1 from rfl, v1]; exact ⟨_, _, rfl, rfl, rfl, h.same⟩
      | 5, _ =>
        obtain ⟨v, v1, v2⟩ := Ch 2 (s11.2 23) (by omega) (fun j hj => (p13 j hj).2.2.1) (fun j hj => by
          unfold f11_sumOf; rw [if_neg (by decide), if_neg (by decide), if_neg (by decide), if_neg (by decide), if_neg (by decide), if_pos (by decide), hin j hj, hcl j hj]; rfl)
        rw [v2, if_neg (by decide), if_neg (by decide), if_neg (by decide), if_neg (by decide), if_neg (by decide), if_pos (by decide), show (2 : Int32) = nI 2 from rfl, v1]; exact ⟨_, _, rfl, rfl, rfl, h.same⟩
      | 6, _ =>
        obtain ⟨v, v1, v2⟩ := Ch 3 (s11.2 24) (by omega) (fun j hj => (p13 j hj).2.2.2) (fun j hj => by
          unfold f11_sumOf; rw [if_neg (by decide), if_neg (by decide), if_neg (by decide), if_neg (by decide), if_neg (by decide), if_neg (by decide), if_pos (by decide), hin j hj, hcl j hj]; rfl)
        rw [v2, if_neg (by decide), if_neg (by decide), if_neg (by decide), if_neg (by decide), if_neg (by decide), if_neg (by decide), if_pos (by decide), show (3 : Int32) = nI 3 from rfl, v1]; exact ⟨_, _, rfl, rfl, rfl, h.same⟩
      | 7, _ =>
        obtain ⟨v, v1, v2⟩ := W 0 9 true 1 (fun e => by cases e) (fun _ => rfl) (by omega) (by omega) (fun j hj => by
          unfold f11_sumOf; rw [if_neg (by decide), if_neg (by decide), if_neg (by decide), if_neg (by decide), if_neg (by decide), if_neg (by decide), if_neg (by decide)]
          rw [r_inCabinets p1 p3 hpl (nI j) true (fv := 1) (fun e => by cases e) (fun _ => rfl)]; rfl)
        rw [v2, if_neg (by decide), if_neg (by decide), if_neg (by decide), if_neg (by decide), if_neg (by decide), if_neg (by decide), if_neg (by decide), if_pos (by decide), show (9 : Int32) = nI 9 from rfl]
        have v1 : f4_weightIn a1 0 (nI 9) 1 s4 = some v := v1
        rw [v1]; exact ⟨_, _, rfl, rfl, rfl, h.same⟩
    · rw [if_neg (show ¬ ((0 : Int64).toInt ≤ a2.toInt ∧ a2.toInt ≤ (7 : Int64).toInt) from h2)]
      have hne : ∀ q : Int32, 0 ≤ q.toInt ∧ q.toInt ≤ 7 → ¬ a2 = q := fun q hq e => h2 (by rw [e]; exact hq)
      rw [if_neg (hne 0 ⟨by decide, by decide⟩), if_neg (hne 1 ⟨by decide, by decide⟩), if_neg (hne 2 ⟨by decide, by decide⟩), if_neg (hne 3 ⟨by decide, by decide⟩), if_neg (hne 4 ⟨by decide, by decide⟩), if_neg (hne 5 ⟨by decide, by decide⟩), if_neg (hne 6 ⟨by decide, by decide⟩), if_neg (hne 7 ⟨by decide, by decide⟩)]
      exact ⟨_, _, rfl, rfl, rfl, h.same⟩
  · rw [if_neg h1, if_neg (show ¬ ((-1 : Int64).toInt ≤ a1.toInt ∧ a1.toInt ≤ (7 : Int64).toInt) from h1)]
    exact ⟨_, _, rfl, rfl, rfl, h.same⟩
