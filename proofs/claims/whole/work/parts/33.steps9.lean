-- steps: drifts, feed
theorem st_drifts {k : Nat} {s0 s1 s2 s3 s4 s5 s6 s7 s8 s9 s10 s11 : OS} (h : Rel k s0 s1 s2 s3 s4 s5 s6 s7 s8 s9 s10 s11) (hk : k < 512) (a1 : Int32) (a2 : Int32) (a3 : Int32) : ∃ (rc : Int32) (rr : Int32), f10_drifts a1 a2 a3 s7 = some rc ∧ f11_drifts a1 a2 a3 s11 = some rr ∧ rc = rr ∧ Rel (k + 1) s0 s1 s2 s3 s4 s5 s6 s7 s8 s9 s10 s11 := by
  obtain ⟨n, hV, hP, hD, hL, ⟨w, w1, w2, w3, w4, w5, w6⟩, hT⟩ := id h
  unfold f10_drifts f10_drifts_j16 f11_drifts f11_drifts_j31
  rw [c_isDay, r_isDay]
  simp only [Option.bind_some, c_isWithin, r_lies, if_b1, Int32.toInt_toInt64]
  by_cases h1 : (0 : Int32).toInt ≤ a1.toInt ∧ a1.toInt ≤ (3 : Int32).toInt
  · rw [if_pos h1, if_pos (show (0 : Int64).toInt ≤ a1.toInt ∧ a1.toInt ≤ (3 : Int64).toInt from h1)]
    by_cases h2 : 0 ≤ a2.toInt ∧ a2.toInt ≤ 99999
    · simp only [if_pos h2]
      unfold f7_tell
      have key : ∃ r r', loop (f7_tell_l13 a1 a2 a3 s7) ((-1000 : Int32), (1000 : Int32), (0 : Int32)) = some r ∧ loop (f11_drifts_l48 a1 a2 a3 s11) ((-1000 : Int32), (1000 : Int32), (0 : Int32)) = some r' ∧ ((((0 : Int64).toInt ≤ a3.toInt ∧ a3.toInt ≤ (2 : Int64).toInt) ∧ r = r') ∨ (¬ ((0 : Int64).toInt ≤ a3.toInt ∧ a3.toInt ≤ (2 : Int64).toInt) ∧ r = -2000)) := by
        refine loop_sim w (fun i s s' => s = s' ∧ i ≤ w ∧ s.2.2 = nI i) _ ?_ w 0 _ _ (by omega) ⟨rfl, by omega, rfl⟩
        rintro i ⟨x, y, z⟩ s' ⟨rfl, hi, e⟩
        have e : z = nI i := e
        subst e
        unfold f7_tell_l13 f7_tell_j80 f11_drifts_l48 f11_drifts_j130 f11_drifts_j146 f11_drifts_j148
        simp only [w2, w3]
        by_cases hid : i = w
        · right
          subst hid
          rw [if_pos (show nI i ≤ nI i from nI_le (Nat.le_refl _) (by omega)), if_pos (show nI i ≤ nI i from nI_le (Nat.le_refl _) (by omega))]
          unfold f7_tell_j86 f7_tell_j130 f7_tell_j146 f7_tell_j162 f11_drifts_j199 f11_drifts_j172
          by_cases e0 : a3 = 0
          · subst e0
            by_cases hxy : x ≤ y
            · simp only [if_pos hxy, if_pos]
              exact ⟨_, _, rfl, rfl, Or.inl ⟨⟨by decide, by decide⟩, rfl⟩⟩
            · simp only [if_neg hxy, if_pos]
              exact ⟨_, _, rfl, rfl, Or.inl ⟨⟨by decide, by decide⟩, rfl⟩⟩
          · rw [if_neg e0]
            by_cases e1 : a3 = 1
            · subst e1
              by_cases hxy : x ≤ y
              · simp only [if_pos hxy, if_neg (show ¬ (1 : Int32) = 0 by decide), if_pos]
                exact ⟨_, _, rfl, rfl, Or.inl ⟨⟨by decide, by decide⟩, rfl⟩⟩
              · simp only [if_neg hxy, if_neg (show ¬ (1 : Int32) = 0 by decide), if_pos]
                exact ⟨_, _, rfl, rfl, Or.inl ⟨⟨by decide, by decide⟩, rfl⟩⟩
            · rw [if_neg e1]
              by_cases e2 : a3 = 2
              · subst e2
                by_cases hxy : x ≤ y
                · simp only [if_pos hxy, if_neg (show ¬ (2 : Int32) = 0 by decide), if_neg (show ¬ (2 : Int32) = 1 by decide), if_pos]
                  exact ⟨_, _, rfl, rfl, Or.inl ⟨⟨by decide, by decide⟩, rfl⟩⟩
                · simp only [if_neg hxy, if_neg (show ¬ (2 : Int32) = 0 by decide), if_neg (show ¬ (2 : Int32) = 1 by decide), if_pos]
                  exact ⟨_, _, rfl, rfl, Or.inl ⟨⟨by decide, by decide⟩, rfl⟩⟩
              · rw [if_neg e2]
                have hno : ¬ ((0 : Int64).toInt ≤ a3.toInt ∧ a3.toInt ≤ (2 : Int64).toInt) := by
                  intro hz
                  have hz : 0 ≤ a3.toInt ∧ a3.toInt ≤ 2 := hz
                  obtain ⟨q, hq, rfl⟩ := nI_of_in (x := a3) (n := 3) (by omega) (by omega)
                  match q, hq with
                  | 0, _ => exact e0 rfl
                  | 1, _ => exact e1 rfl
                  | 2, _ => exact e2 rfl
                rw [if_neg e0, if_neg e1]
                by_cases hxy : x ≤ y
                · simp only [if_pos hxy]
                  exact ⟨_, _, rfl, rfl, Or.inr ⟨hno, rfl⟩⟩
                · simp only [if_neg hxy, if_neg e0]
                  exact ⟨_, _, rfl, rfl, Or.inr ⟨hno, rfl⟩⟩
        · left
          have hlt : i < w := by omega
          have hic := nI_clamp (n := i) (by omega)
          rw [if_neg (nI_ge hlt (by omega)), if_neg (nI_ge hlt (by omega)), if_neg (show ¬ (200 : Int32) ≤ nI i from nI_ge (a := i) (b := 200) (by omega) (by omega))]
          simp only [hic, inb_n (show i < 200 by omega) (by omega : 200 < 2 ^ 31), chk_p, nm_p, w4, w5, nI_1, (w6 i).1, (w6 i).2]
          by_cases e1 : s11.1 65 i = a1
          · simp only [if_pos e1]
            by_cases e2 : s11.1 66 i ≤ a2
            · have e2' : ¬ a2 < s11.1 66 i := by rw [Int32.lt_iff_toInt_lt]; rw [Int32.le_iff_toInt_le] at e2; omega
              simp only [if_neg e2', if_pos e2]
              have q1 : (if x < s11.1 67 i - s11.1 68 i then s11.1 67 i - s11.1 68 i else x) = (if s11.1 67 i - s11.1 68 i ≤ x then x else s11.1 67 i - s11.1 68 i) := by
                by_cases c : s11.1 67 i - s11.1 68 i ≤ x
                · rw [if_pos c, if_neg (by rw [Int32.lt_iff_toInt_lt]; rw [Int32.le_iff_toInt_le] at c; omega)]
                · rw [if_neg c, if_pos (by rw [Int32.lt_iff_toInt_lt]; rw [Int32.le_iff_toInt_le] at c; omega)]
              have q2 : (if s11.1 67 i + s11.1 68 i < y then s11.1 67 i + s11.1 68 i else y) = (if y ≤ s11.1 67 i + s11.1 68 i then y else s11.1 67 i + s11.1 68 i) := by
                by_cases c : y ≤ s11.1 67 i + s11.1 68 i
                · rw [if_pos c, if_neg (by rw [Int32.lt_iff_toInt_lt]; rw [Int32.le_iff_toInt_le] at c; omega)]
                · rw [if_neg c, if_pos (by rw [Int32.lt_iff_toInt_lt]; rw [Int32.le_iff_toInt_le] at c; omega)]
              rw [q1, q2]
              by_cases c1 : s11.1 67 i - s11.1 68 i ≤ x
              · simp only [if_pos c1]
                by_cases c2 : y ≤ s11.1 67 i + s11.1 68 i
                · simp only [if_pos c2]; exact ⟨_, _, rfl, rfl, hlt, rfl, hlt, rfl⟩
                · simp only [if_neg c2]; exact ⟨_, _, rfl, rfl, hlt, rfl, hlt, rfl⟩
              · simp only [if_neg c1]
                by_cases c2 : y ≤ s11.1 67 i + s11.1 68 i
                · simp only [if_pos c2]; exact ⟨_, _, rfl, rfl, hlt, rfl, hlt, rfl⟩
                · simp only [if_neg c2]; exact ⟨_, _, rfl, rfl, hlt, rfl, hlt, rfl⟩
            · have e2' : a2 < s11.1 66 i := by rw [Int32.lt_iff_toInt_lt]; rw [Int32.le_iff_toInt_le] at e2; omega
              simp only [if_pos e2', if_neg e2]
              exact ⟨_, _, rfl, rfl, hlt, rfl, hlt, rfl⟩
          · simp only [if_neg e1]
            exact ⟨_, _, rfl, rfl, hlt, rfl, hlt, rfl⟩
      obtain ⟨r, r', k1, k2, k3⟩ := key
      rw [k1, k2]
      rcases k3 with ⟨h3, rfl⟩ | ⟨h3, rfl⟩
      · rw [if_pos h3]; exact ⟨_, _, rfl, rfl, rfl, h.same⟩
      · rw [if_neg h3]; exact ⟨_, _, rfl, rfl, rfl, h.same⟩
    · simp only [if_neg h2]
      exact ⟨_, _, rfl, rfl, rfl, h.same⟩
  · rw [if_neg h1, if_neg (show ¬ ((0 : Int64).toInt ≤ a1.toInt ∧ a1.toInt ≤ (3 : Int64).toInt) from h1)]
    exact ⟨_, _, rfl, rfl, rfl, h.same⟩
-- the tape
def TpR (t : Nat) (s8 : OS) (a1 : Nat → Int32) : Prop := t ≤ 400 ∧ s8.1 0 1 = nI t ∧ ∀ i, i < 400 → bw 0 255 (s8.1 1 i) ∧ a1 i &&& 255 = s8.1 1 i
def Fr (m m' : OS) : Prop := (∀ r, 2 ≤ r → m'.1 r = m.1 r) ∧ (∀ i, i ≠ 1 → m'.1 0 i = m.1 0 i) ∧ m'.2 = m.2
theorem Fr.refl (m : OS) : Fr m m := ⟨fun _ _ => rfl, fun _ _ => rfl, rfl⟩
theorem Fr.trans {a b c : OS} (h : Fr a b) (g : Fr b c) : Fr a c := ⟨fun r hr => (g.1 r hr).trans (h.1 r hr), fun i hi => (g.2.1 i hi).trans (h.2.1 i hi), g.2.2.trans h.2.2⟩
theorem and255_bw (x : Int32) : bw 0 255 (x &&& 255) := by
  obtain ⟨j, hj, e⟩ := pk_andE x (m := 255) 8 (by decide)
  rw [e]; unfold bw; rw [nI_toInt (by omega)]; omega
theorem byte_and (x : Int32) : x.toInt8.toInt32 &&& 255 = x &&& 255 := by
  apply Int32.toBitVec_inj.mp
  show (BitVec.signExtend 32 (BitVec.signExtend 8 x.toBitVec)) &&& 255#32 = x.toBitVec &&& 255#32
  apply BitVec.eq_of_getLsbD_eq
  intro i hi
  have e : (255#32 : BitVec 32).getLsbD i = decide (i < 8) := by
    revert i; decide
  rw [BitVec.getLsbD_and, BitVec.getLsbD_and, e]
  by_cases h8 : i < 8
  · rw [BitVec.getLsbD_signExtend, BitVec.getLsbD_signExtend]
    simp [h8, hi]
  · simp [h8]
theorem char_255 (x : Int32) : vp_nar .char ((((x &&& 255)).toUInt32 % 65536).toInt32) = x &&& 255 := by
  obtain ⟨j, hj, e⟩ := pk_andE x (m := 255) 8 (by decide)
  rw [pk_vc, e, pk_char, pk_tn (by omega), Nat.mod_eq_of_lt (by omega)]
theorem TpR.put {t : Nat} {s8 : OS} {a1 : Nat → Int32} (h : TpR t s8 a1) (ht : t < 400) {x y : Int32} (hx : bw 0 255 x) (hy : y &&& 255 = x) : TpR (t + 1) (wI (wI s8 1 t x) 0 1 (nI (t + 1))) (fupd a1 t y) := by
  obtain ⟨h1, h2, h3⟩ := h
  refine ⟨by omega, rfl, fun i hi => ?_⟩
  show bw 0 255 (fupd (s8.1 1) t x i) ∧ fupd a1 t y i &&& 255 = fupd (s8.1 1) t x i
  by_cases e : i = t
  · subst e; rw [fupd_s, fupd_s]; exact ⟨hx, hy⟩
  · rw [fupd_n e, fupd_n e]; exact h3 i hi
theorem both_put {t : Nat} {s8 m : OS} (h : TpR t s8 (m.1 1)) (hm : m.1 0 1 = nI t) (ht : t < 400) (v x : Int32) (hx : ¬ x < 0) : ∃ s8' m', f8_append_l3 v (x, s8) = some (.inl (x + -8, s8')) ∧ f11_push_l3 v (x, m) = some (.inl (x + -8, m')) ∧ TpR (t + 1) s8' (m'.1 1) ∧ m'.1 0 1 = nI (t + 1) ∧ Fr m m' := by
  refine ⟨wI (wI s8 1 t ((v >>> (x &&& 31)) &&& 255)) 0 1 (nI (t + 1)), wI (wI m 1 t (v >>> (x &&& 31)).toInt8.toInt32) 0 1 (nI (t + 1)), ?_, ?_, ?_, rfl, fun r hr => ?_, fun i hi => ?_, rfl⟩
  · unfold f8_append_l3 f8_append_j44
    simp only [if_neg hx, h.2.1, nI_clamp (n := t) (by omega), inb_n ht (by omega : 400 < 2 ^ 31), char_255, chk_p, nm_p]
    rw [if_neg (show ¬ (400 : Int32) ≤ nI t from nI_ge (a := t) (b := 400) ht (by omega))]
    have e1 : ∀ z, (wI s8 1 t z).1 0 1 = nI t := fun _ => h.2.1
    rw [e1, nI_1]
  · unfold f11_push_l3
    simp only [if_neg hx, hm, nI_clamp (n := t) (by omega), inb_n ht (by omega : 400 < 2 ^ 31), pk_vb, chk_p, nm_p]
    have e1 : ∀ z, (wI m 1 t z).1 0 1 = nI t := fun _ => hm
    rw [e1, nI_1]
  · exact h.put ht (and255_bw _) (byte_and _)
  · show (if r = 0 then _ else if r = 1 then _ else m.1 r) = m.1 r
    rw [if_neg (by omega), if_neg (by omega)]
  · show (if i = 1 then _ else m.1 0 i) = m.1 0 i
    rw [if_neg hi]
theorem both_append {t : Nat} {s8 m : OS} (h : TpR t s8 (m.1 1)) (hm : m.1 0 1 = nI t) (ht : t + 4 ≤ 400) (v : Int32) : ∃ s8' m', f8_append v s8 = some s8' ∧ f11_push v m = some m' ∧ TpR (t + 4) s8' (m'.1 1) ∧ m'.1 0 1 = nI (t + 4) ∧ Fr m m' := by
  obtain ⟨c1, m1, a1, b1, h1, g1, r1⟩ := both_put h hm (by omega) v 24 (by decide)
  obtain ⟨c2, m2, a2, b2, h2, g2, r2⟩ := both_put h1 g1 (by omega) v (24 + -8) (by decide)
  obtain ⟨c3, m3, a3, b3, h3, g3, r3⟩ := both_put h2 g2 (by omega) v (24 + -8 + -8) (by decide)
  obtain ⟨c4, m4, a4, b4, h4, g4, r4⟩ := both_put h3 g3 (by omega) v (24 + -8 + -8 + -8) (by decide)
  refine ⟨c4, m4, ?_, ?_, h4, g4, ((r1.trans r2).trans r3).trans r4⟩
  · unfold f8_append
    rw [loop_inl a1, loop_inl a2, loop_inl a3, loop_inl a4]
    exact loop_inr rfl
  · unfold f11_push
    rw [loop_inl b1, loop_inl b2, loop_inl b3, loop_inl b4]
    exact loop_inr rfl
theorem Rel.tape {k : Nat} {s0 s1 s2 s3 s4 s5 s6 s7 s8 s9 s10 s11 s8' m : OS} (h : Rel k s0 s1 s2 s3 s4 s5 s6 s7 s8 s9 s10 s11) (hF : Fr s11 m) (hT : RelT s8' (m.1 0 1) (m.1 1)) : Rel (k + 1) s0 s1 s2 s3 s4 s5 s6 s7 s8' s9 s10 m := by
  obtain ⟨n, h1, h2, h3, h4, h5, h6, h7, h8, h9, h10⟩ := h.same (s6' := s6)
  obtain ⟨f1, f2, f3⟩ := hF
  unfold Rel
  simp only [f1 20 (by decide), f1 12 (by decide), f1 13 (by decide), f1 14 (by decide), f1 15 (by decide), f1 16 (by decide), f1 17 (by decide), f1 18 (by decide), f1 19 (by decide), f1 26 (by decide), f1 27 (by decide), f1 28 (by decide), f1 29 (by decide), f1 30 (by decide), f1 31 (by decide), f1 32 (by decide), f1 59 (by decide), f1 60 (by decide), f1 61 (by decide), f1 62 (by decide), f1 63 (by decide), f1 64 (by decide), f1 65 (by decide), f1 66 (by decide), f1 67 (by decide), f1 68 (by decide), f1 78 (by decide), f1 80 (by decide), f1 81 (by decide), f1 82 (by decide), f1 83 (by decide), f1 84 (by decide), f1 85 (by decide), f1 86 (by decide), f1 87 (by decide), f1 71 (by decide), f1 76 (by decide), f1 77 (by decide), f1 34 (by decide), f1 35 (by decide), f1 36 (by decide), f1 37 (by decide), f1 38 (by decide), f1 39 (by decide), f1 40 (by decide), f1 41 (by decide), f1 42 (by decide), f1 43 (by decide), f2 2 (by decide), f2 3 (by decide), f2 24 (by decide), f2 4 (by decide), f2 5 (by decide), f2 7 (by decide), f2 8 (by decide), f2 9 (by decide), f2 10 (by decide), f2 89 (by decide), f2 68 (by decide), f2 69 (by decide), f2 6 (by decide), f3]
  exact ⟨n, h1, h2, h3, h4, h5, hT, h7, h8, h9, h10⟩
theorem RelT.tp {s8 : OS} {tM : Int32} {a1 : Nat → Int32} (h : RelT s8 tM a1) : ∃ t, TpR t s8 a1 ∧ tM = nI t := by
  obtain ⟨t, h1, h2, h3, h4⟩ := h
  exact ⟨t, ⟨h1, h2, h4⟩, h3⟩
theorem TpR.rel {t : Nat} {s8 : OS} {tM : Int32} {a1 : Nat → Int32} (h : TpR t s8 a1) (e : tM = nI t) : RelT s8 tM a1 := ⟨t, h.1, h.2.1, e, h.2.2⟩
theorem c_hasRoomFor {t : Nat} {s8 : OS} {a : Nat → Int32} (h : TpR t s8 a) {q : Nat} (hq : q < 1000) : f8_hasRoomFor (nI q) s8 = some (b1 (t + 4 * q ≤ 400)) := by
  have h1 := h.1
  unfold f8_hasRoomFor f8_hasRoomFor_j19
  rw [h.2.1, show (4 : Int32) = nI 4 from rfl, pk_mul, nI_add]
  by_cases e : t + 4 * q ≤ 400
  · rw [if_neg (show ¬ (400 : Int32) < nI (t + 4 * q) from nI_nlt (a := 400) (b := t + 4 * q) e (by omega)), b1_t e]; rfl
  · rw [if_pos (show (400 : Int32) < nI (t + 4 * q) from nI_lt (a := 400) (b := t + 4 * q) (by omega) (by omega)), b1_f e]; rfl
theorem st_feed {k : Nat} {s0 s1 s2 s3 s4 s5 s6 s7 s8 s9 s10 s11 : OS} (h : Rel k s0 s1 s2 s3 s4 s5 s6 s7 s8 s9 s10 s11) (hk : k < 512) (a1 : Int32) (a2 : Int32) (a3 : Int32) (a4 : Int32) (a5 : Int32) : ∃ (rc : Int32 × OS) (rr : Int32 × OS), f10_feed a1 a2 a3 a4 a5 s8 = some rc ∧ f11_feed a1 a2 a3 a4 a5 s11 = some rr ∧ rc.1 = rr.1 ∧ Rel (k + 1) s0 s1 s2 s3 s4 s5 s6 s7 rc.2 s9 s10 rr.2 := by
  obtain ⟨n, hV, hP, hD, hL, hS, hT, hW⟩ := id h
  obtain ⟨t, t1, t2⟩ := hT.tp
  have t0 := t1.1
  unfold f10_feed f11_feed f8_length
  rw [show (5 : Int32) = nI 5 from rfl, c_hasRoomFor t1 (by omega), t2, Option.bind_some, if_b1, show (20 : Int32) = nI 20 from rfl, nI_add]
  by_cases hr : t + 20 ≤ 400
  · rw [if_pos (show t + 4 * 5 ≤ 400 from hr), if_pos (show nI (t + 20) ≤ (400 : Int32) from nI_le (a := t + 20) (b := 400) hr (by omega))]
    obtain ⟨c1, m1, x1, y1, h1, g1, r1⟩ := both_append t1 t2 (by omega) a1
    obtain ⟨c2, m2, x2, y2, h2, g2, r2⟩ := both_append h1 g1 (by omega) a2
    obtain ⟨c3, m3, x3, y3, h3, g3, r3⟩ := both_append h2 g2 (by omega) a3
    obtain ⟨c4, m4, x4, y4, h4, g4, r4⟩ := both_append h3 g3 (by omega) a4
    obtain ⟨c5, m5, x5, y5, h5, g5, r5⟩ := both_append h4 g4 (by omega) a5
    simp only [x1, x2, x3, x4, x5, y1, y2, y3, y4, y5, Option.bind_some]
    exact ⟨_, _, rfl, rfl, by rw [h5.2.1, g5], h.tape ((((r1.trans r2).trans r3).trans r4).trans r5) (h5.rel g5)⟩
  · rw [if_neg (show ¬ t + 4 * 5 ≤ 400 from hr), if_neg (show ¬ nI (t + 20) ≤ (400 : Int32) from nI_ge (a := 400) (b := t + 20) (by omega) (by omega))]
    exact ⟨_, _, rfl, rfl, rfl, h.same⟩
