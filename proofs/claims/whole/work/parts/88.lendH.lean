-- lend: what is kept, and what stays
theorem misS_low {bo mi bo' mi' : Nat → Int32} {x : Int32} : ∀ c, (∀ i, i < c → bo' i = bo i ∧ mi' i = mi i) → misS bo' mi' x c = misS bo mi x c
  | 0, _ => rfl
  | c + 1, h => by
    show misS bo' mi' x c + (if bo' c = x then (mi' c).toInt64 else 0) = misS bo mi x c + (if bo c = x then (mi c).toInt64 else 0)
    rw [misS_low c (fun i hi => h i (by omega)), (h c (by omega)).1, (h c (by omega)).2]
theorem misS_new {bo mi : Nat → Int32} {x v : Int32} {c : Nat} : misS (fupd bo c v) (fupd mi c 0) x (c + 1) = misS bo mi x c := by
  show misS (fupd bo c v) (fupd mi c 0) x c + (if fupd bo c v c = x then (fupd mi c 0 c).toInt64 else 0) = _
  rw [misS_low c (fun i hi => ⟨fupd_n (by omega), fupd_n (by omega)⟩), fupd_s, fupd_s]
  show _ + (if v = x then (0 : Int64) else 0) = _
  rw [ite_self, Int64.add_zero]
/-- what stays while the reference looks for a loan's clauses -/
def FrL (m m' : OS) : Prop := (∀ r, r ≠ 0 → r ≠ 57 → r ≠ 58 → m'.1 r = m.1 r) ∧ (∀ r, r ≠ 56 → m'.2 r = m.2 r) ∧ ∀ x, x ≠ 53 → x ≠ 54 → m'.1 0 x = m.1 0 x
theorem FrL.ex {a b c : OS} (h : FrL a b) (g : FrX b c) : FrL a c := ⟨fun r z1 z2 z3 => (g.1 r z3).trans (h.1 r z1 z2 z3), fun r z => (congrFun g.2 r).trans (h.2.1 r z), fun x z1 z2 => (congrFun (g.1 0 (by decide)) x).trans (h.2.2 x z1 z2)⟩
theorem FrL.ee {a b c : OS} (h : FrL a b) (g : FrE b c) : FrL a c := ⟨fun r z1 z2 z3 => (g.1 r z2).trans (h.1 r z1 z2 z3), fun r z => (g.2 r z).trans (h.2.1 r z), fun x z1 z2 => (congrFun (g.1 0 (by decide)) x).trans (h.2.2 x z1 z2)⟩
theorem Rel.lnd {k : Nat} {s0 s1 s2 s3 s4 s5 s6 s7 s8 s9 s10 s11 u s6' m : OS} (h : Rel k s0 s1 s2 s3 s4 s5 s6 s7 s8 s9 s10 s11) (f : FrL s11 m) (g : FrB s5 u) : Rel k s0 s1 s2 s3 s4 u s6' s7 s8 s9 s10 m := by
  obtain ⟨n, h1, h2, h3, h4, h5, h6, h7, h8, h9, r, b1, b2, b3, b4, b5, b6, b7, b8⟩ := h
  have F1 : ∀ q, q ≠ 0 ∧ q ≠ 57 ∧ q ≠ 58 → m.1 q = s11.1 q := fun q hq => f.1 q hq.1 hq.2.1 hq.2.2
  have F2 : ∀ q, q ≠ 53 ∧ q ≠ 54 → m.1 0 q = s11.1 0 q := fun q hq => f.2.2 q hq.1 hq.2
  have F3 := f.2.1
  have G1 : ∀ q, q ≠ 0 ∧ q ≠ 7 → u.1 q = s5.1 q := fun q hq => g.1 q hq.1 hq.2
  refine ⟨n, ?_, ?_, ?_, ?_, ?_, ?_, ?_, ?_, ?_, r, b1, ?_, ?_, ?_, ?_, ?_, ?_, ?_⟩
  · rw [F1 20 (by decide), F2 2 (by decide)]; exact h1
  · rw [F3 21 (by decide), F3 22 (by decide), F3 23 (by decide), F3 24 (by decide), F2 3 (by decide), F1 12 (by decide), F1 13 (by decide), F1 14 (by decide), F1 15 (by decide), F1 16 (by decide), F1 17 (by decide), F1 18 (by decide), F1 19 (by decide)]; exact h2
  · rw [F2 24 (by decide), F1 26 (by decide), F1 27 (by decide), F1 28 (by decide), F1 29 (by decide), F1 30 (by decide)]; exact h3
  · rw [F3 33 (by decide), F2 4 (by decide), F2 5 (by decide), F1 31 (by decide), F1 32 (by decide), F1 59 (by decide), F1 60 (by decide), F1 61 (by decide), F1 62 (by decide), F1 63 (by decide), F1 64 (by decide)]; exact h4
  · rw [F2 7 (by decide), F1 65 (by decide), F1 66 (by decide), F1 67 (by decide), F1 68 (by decide)]; exact h5
  · rw [F2 1 (by decide), F1 1 (by decide)]; exact h6
  · rw [F2 8 (by decide), F2 9 (by decide), F1 78 (by decide), F1 80 (by decide), F1 81 (by decide), F1 82 (by decide), F1 83 (by decide), F1 84 (by decide)]; exact h7
  · rw [F2 10 (by decide), F2 89 (by decide), F1 85 (by decide), F1 86 (by decide), F1 87 (by decide)]; exact h8
  · rw [F2 68 (by decide), F2 69 (by decide), F1 71 (by decide), F1 76 (by decide), F1 77 (by decide)]; exact h9
  · rw [g.2.2 8 (by decide) (by decide) (by decide)]; exact b2
  · rw [F2 6 (by decide)]; exact b3
  · rw [G1 3 (by decide), F1 34 (by decide)]; exact b4
  · rw [G1 4 (by decide), F1 35 (by decide)]; exact b5
  · rw [G1 5 (by decide), F1 36 (by decide)]; exact b6
  · rw [F1 36 (by decide)]; exact b7
  · rw [G1 1 (by decide), G1 2 (by decide), G1 6 (by decide), F1 36 (by decide), F1 37 (by decide), F1 38 (by decide), F1 39 (by decide), F1 40 (by decide), F1 41 (by decide), F1 42 (by decide), F1 43 (by decide)]; exact b8
/-- what is kept of the piece's kind without the piece -/
noncomputable def kpt (m : OS) (n p : Nat) : Int64 := sumN (fun x => if x = p then 0 else wSum (m.1 12) (m.1 14) (m.1 15) (m.1 16) 0 9 true (fun y => m.1 12 y = m.1 12 p) x) n
theorem l_keeps {n p : Nat} {s4 s11 : OS} (hP : RelP n s4 (s11.1 0 3) (s11.1 12) (s11.1 13) (s11.1 14) (s11.1 15) (s11.1 16) (s11.1 17) (s11.1 18) (s11.1 19) (s11.2 21) (s11.2 22) (s11.2 23) (s11.2 24)) (hp : p < n) (h10 : (s11.1 16 p).toInt < 10) (th : Int32) :
    f10_keepsTooLittle (nI p) th s4 = some (b1 (s11.1 15 p = 0 ∧ ¬ 0 ≤ lg_cmp (kpt s11 n p * 1000) (th.toInt64 * s11.2 21 (s11.1 12 p).toNatClampNeg))) := by
  obtain ⟨p1, p2, p3, p4, p5, p6, p7, p8, p9, p10, p11, p12, p13⟩ := id hP
  obtain ⟨g1, g2, g3, g4, g5⟩ := p12 p hp
  obtain ⟨kd, kd1, kd2, kd3⟩ := bw_nat (lo := 0) (hi := 7) g1 (by omega)
  unfold f10_keepsTooLittle f10_keepsTooLittle_j73
  rw [c_metOfP p1 p2 hp, Option.bind_some, p7]
  by_cases c : s11.1 15 p = 0
  · have e3 : f4_weightIn (nI kd) 0 9 1 s4 = some (sumN (wSum (s11.1 12) (s11.1 14) (s11.1 15) (s11.1 16) 0 9 true (fun p => s11.1 12 p = nI kd)) n) := by
      refine (c_weightIn (lo := 0) (hi := 9) p1 p2 (by omega) (by omega) (nI kd) true (fv := 1) (fun e => by cases e) (fun _ => rfl)).trans ?_
      rw [p4, p6, p7, p8, wSum_one (by omega)]
    have e4 : f4_charged 0 (nI kd) s4 = some (s11.2 21 kd) := by
      refine (c_charged (acc := 0) (by omega) (nI kd) s4).trans ?_
      rw [(ch_close (acc := 0) (b := s11.2 21) (fun j hj => by rw [Nat.zero_mul, Nat.zero_add]; exact (p13 j hj).1)).1 kd (by omega)]
    rw [if_pos c, c_kindOfP p1 p2 hp, Option.bind_some, p4, kd3, e3, Option.bind_some, c_weightOfP p1 p2 hp, Option.bind_some, nm_p, e4, Option.bind_some, p6, nI_clamp (by omega)]
    have ek : sumN (wSum (s11.1 12) (s11.1 14) (s11.1 15) (s11.1 16) 0 9 true (fun p => s11.1 12 p = nI kd)) n - (s11.1 14 p).toInt64 = kpt s11 n p := by
      unfold kpt
      rw [← sumN_but hp, wSum_t (by rfl) ⟨g4.1, by show _ ≤ (9 : Int); omega⟩ (fun _ => c), kd3]
    rw [ek]
    by_cases c2 : 0 ≤ lg_cmp (kpt s11 n p * 1000) (th.toInt64 * s11.2 21 kd)
    · rw [if_pos c2, b1_f (fun e => e.2 c2)]; rfl
    · rw [if_neg c2, b1_t ⟨c, c2⟩]; rfl
  · rw [if_neg c, b1_f (fun e => c e.1)]
theorem kpt_nn {n p : Nat} {s4 s11 : OS} (hP : RelP n s4 (s11.1 0 3) (s11.1 12) (s11.1 13) (s11.1 14) (s11.1 15) (s11.1 16) (s11.1 17) (s11.1 18) (s11.1 19) (s11.2 21) (s11.2 22) (s11.2 23) (s11.2 24)) (y : Int64) : 0 ≤ lg_cmp (kpt s11 n p * 1000) ((0 : Int32).toInt64 * y) := by
  obtain ⟨p1, p2, p3, p4, p5, p6, p7, p8, p9, p10, p11, p12, p13⟩ := id hP
  obtain ⟨h1, h2⟩ := sumN_nn (g := fun x => if x = p then 0 else wSum (s11.1 12) (s11.1 14) (s11.1 15) (s11.1 16) 0 9 true (fun y => s11.1 12 y = s11.1 12 p) x) p1 (fun x hx => by
    have z0 : (0 : Int64).toInt = 0 := rfl
    by_cases c : x = p
    · rw [if_pos c]; exact ⟨by omega, by omega⟩
    · rw [if_neg c]
      unfold wSum
      split
      · rw [Int32.toInt_toInt64]; exact (p12 x hx).2.1
      · exact ⟨by omega, by omega⟩) n (Nat.le_refl _)
  have h1 : 0 ≤ (kpt s11 n p).toInt := h1
  have h2 : (kpt s11 n p).toInt ≤ n * 1000000000 := h2
  have z1 : (1000 : Int64).toInt = 1000 := rfl
  rw [lg_ge0, show (0 : Int32).toInt64 = 0 from rfl, Int64.zero_mul, mulL_toInt (by rw [z1]; omega) (by rw [z1]; omega), z1]
  show (0 : Int) ≤ _
  omega
