-- rules: what the reference's codes do
def bI (r : Bool) : Int32 := if r = true then 1 else 0
theorem bI_nar (r : Bool) : vp_nar .boolean (bI r) = bI r := by cases r <;> rfl
theorem bI_0 {r : Bool} : bI r = 0 ↔ r = false := by
  cases r
  · exact ⟨fun _ => rfl, fun _ => rfl⟩
  · exact ⟨fun e => absurd e (by decide), fun e => by cases e⟩
/-- a sign's work -/
def wk (c : Int32) (a b : Int64) : Int64 :=
  if c = 37 then (if b = 0 then 0 else a - a / b * b) else if c = 42 then a * b else if c = 43 then a + b else if c = 45 then a - b else if c = 47 then (if b = 0 then 0 else a / b)
  else if c = 60 then (if a.toInt < b.toInt then 1 else 0) else if c = 62 then (if b.toInt < a.toInt then 1 else 0) else (if a = b then 1 else 0)
theorem r_worked (c : Int32) (a b : Int64) : f11_worked c a b = some (wk c a b) := by
  unfold f11_worked f11_worked_j93 f11_worked_j107 f11_worked_j119 f11_worked_j131 f11_worked_j143 wk
  by_cases h1 : c = 37
  · rw [if_pos h1, if_pos h1]
    by_cases hb : b = 0
    · rw [if_pos ((lg_eq0 b 0).mpr hb), if_pos hb]
    · rw [if_neg (fun e => hb ((lg_eq0 b 0).mp e)), if_neg hb, decide_eq_true hb]; rfl
  · rw [if_neg h1, if_neg h1]
    by_cases h2 : c = 42
    · rw [if_pos h2, if_pos h2]
    · rw [if_neg h2, if_neg h2]
      by_cases h3 : c = 43
      · rw [if_pos h3, if_pos h3]
      · rw [if_neg h3, if_neg h3]
        by_cases h4 : c = 45
        · rw [if_pos h4, if_pos h4]
        · rw [if_neg h4, if_neg h4]
          by_cases h5 : c = 47
          · rw [if_pos h5, if_pos h5]
            by_cases hb : b = 0
            · rw [if_pos ((lg_eq0 b 0).mpr hb), if_pos hb]
            · rw [if_neg (fun e => hb ((lg_eq0 b 0).mp e)), if_neg hb, decide_eq_true hb]; rfl
          · rw [if_neg h5, if_neg h5]
            by_cases h6 : c = 60
            · rw [if_pos h6, if_pos h6]
              by_cases hl : a.toInt < b.toInt
              · rw [if_neg (fun e => by have := (lg_ge0 a b).mp e; omega), if_pos hl]
              · rw [if_pos ((lg_ge0 a b).mpr (by omega)), if_neg hl]
            · rw [if_neg h6, if_neg h6]
              by_cases h7 : c = 62
              · rw [if_pos h7, if_pos h7]
                by_cases hl : b.toInt < a.toInt
                · rw [if_neg (fun e => by have := (lg_le0 a b).mp e; omega), if_pos hl]
                · rw [if_pos ((lg_le0 a b).mpr (by omega)), if_neg hl]
              · rw [if_neg h7, if_neg h7]
                by_cases hb : a = b
                · rw [if_pos ((lg_eq0 a b).mpr hb), if_pos hb]
                · rw [if_neg (fun e => hb ((lg_eq0 a b).mp e)), if_neg hb]
def opR (c : Int32) (v2 : Int64) (r1 r2 : Bool) : Bool := r1 || (r2 || (decide (c = 47 ∨ c = 37) && decide (v2 = 0)))
theorem does_ar {c : Int32} {a : Nat} {m : OS} {r1 r2 : Bool} (h1 : ¬ c = 38) (h2 : ¬ c = 124) (ha : a + 1 < 200) (hr1 : m.1 57 a = bI r1) (hr2 : m.1 57 (a + 1) = bI r2) : f11_does c (nI a) m = some (wL (wI m 57 a (bI (opR c (m.2 56 (a + 1)) r1 r2))) 56 a (wk c (m.2 56 a) (m.2 56 (a + 1)))) := by
  have tail : ∀ r : Bool, f11_does_j123 c (nI a) (nI (a + 1)) (nI a) (bI r) m = some (wL (wI m 57 a (bI r)) 56 a (wk c (m.2 56 a) (m.2 56 (a + 1)))) := by
    intro r
    unfold f11_does_j123
    simp only [inb_n (show a < 200 by omega) (by omega : 200 < 2 ^ 31), inb_n ha (by omega : 200 < 2 ^ 31), chk_p, nm_p, nI_clamp (n := a) (by omega), nI_clamp (n := a + 1) (by omega), bI_nar]
    show Option.bind (f11_worked c (m.2 56 a) (m.2 56 (a + 1))) _ = _
    rw [r_worked, Option.bind_some]
  have t1 : f11_does_j118 c (nI a) (nI (a + 1)) (nI a) m = some (wL (wI m 57 a (bI true)) 56 a (wk c (m.2 56 a) (m.2 56 (a + 1)))) := tail true
  have t0 : f11_does_j122 c (nI a) (nI (a + 1)) (nI a) m = some (wL (wI m 57 a (bI false)) 56 a (wk c (m.2 56 a) (m.2 56 (a + 1)))) := tail false
  have t7 : f11_does_j107 c (nI a) (nI (a + 1)) (nI a) m = some (wL (wI m 57 a (bI (decide (m.2 56 (a + 1) = 0)))) 56 a (wk c (m.2 56 a) (m.2 56 (a + 1)))) := by
    unfold f11_does_j107
    rw [inb_n ha (by omega : 200 < 2 ^ 31), chk_p, nm_p, nI_clamp (n := a + 1) (by omega)]
    by_cases hb : m.2 56 (a + 1) = 0
    · rw [if_pos ((lg_eq0 _ 0).mpr hb), decide_eq_true hb]; exact t1
    · rw [if_neg (fun e => hb ((lg_eq0 _ 0).mp e)), decide_eq_false hb]; exact t0
  unfold f11_does
  rw [nm_p, nI_1, if_neg h1, if_neg h2, inb_n (show a < 200 by omega) (by omega : 200 < 2 ^ 31), chk_p, nm_p, nI_clamp (n := a) (by omega), hr1]
  cases r1 with
  | true =>
    rw [if_neg (show ¬ bI true = 0 by decide), t1]; rfl
  | false =>
    rw [if_pos (show bI false = 0 from rfl), inb_n ha (by omega : 200 < 2 ^ 31), chk_p, nm_p, nI_clamp (n := a + 1) (by omega), hr2]
    cases r2 with
    | true => rw [if_neg (show ¬ bI true = 0 by decide), t1]; rfl
    | false =>
      rw [if_pos (show bI false = 0 from rfl)]
      by_cases h47 : c = 47
      · rw [if_pos h47, t7]
        show _ = some (wL (wI m 57 a (bI (false || (false || (decide (c = 47 ∨ c = 37) && decide (m.2 56 (a + 1) = 0)))))) 56 a _)
        rw [decide_eq_true (show c = 47 ∨ c = 37 from Or.inl h47)]; rfl
      · rw [if_neg h47]
        by_cases h37 : c = 37
        · rw [if_pos h37, t7]
          show _ = some (wL (wI m 57 a (bI (false || (false || (decide (c = 47 ∨ c = 37) && decide (m.2 56 (a + 1) = 0)))))) 56 a _)
          rw [decide_eq_true (show c = 47 ∨ c = 37 from Or.inr h37)]; rfl
        · rw [if_neg h37, t0]
          show _ = some (wL (wI m 57 a (bI (false || (false || (decide (c = 47 ∨ c = 37) && decide (m.2 56 (a + 1) = 0)))))) 56 a _)
          rw [decide_eq_false (show ¬ (c = 47 ∨ c = 37) from fun e => e.elim h47 h37)]; rfl
theorem does_bo {c : Int32} {a : Nat} {m : OS} {r1 r2 : Bool} (hc : c = 38 ∨ c = 124) (ha : a + 1 < 200) (hr1 : m.1 57 a = bI r1) (hr2 : m.1 57 (a + 1) = bI r2) : f11_does c (nI a) m = some (if r1 = false ∧ m.2 56 a = (if c = 38 then 1 else 0) then wI (wL m 56 a (m.2 56 (a + 1))) 57 a (bI r2) else m) := by
  have j42 : ∀ k1 : Int64, f11_does_j42 (nI a) (nI (a + 1)) (m.2 56 a) k1 m = some (if m.2 56 a = k1 then wI (wL m 56 a (m.2 56 (a + 1))) 57 a (bI r2) else m) := by
    intro k1
    unfold f11_does_j42 f11_does_j46
    by_cases hb : m.2 56 a = k1
    · rw [if_pos ((lg_eq0 _ _).mpr hb), if_pos hb]
      simp only [inb_n (show a < 200 by omega) (by omega : 200 < 2 ^ 31), inb_n ha (by omega : 200 < 2 ^ 31), chk_p, nm_p, nI_clamp (n := a) (by omega), nI_clamp (n := a + 1) (by omega)]
      show some (wI (wL m 56 a (m.2 56 (a + 1))) 57 a (vp_nar .boolean (m.1 57 (a + 1)))) = _
      rw [hr2, bI_nar]
    · rw [if_neg (fun e => hb ((lg_eq0 _ _).mp e)), if_neg hb]
  have j16 : f11_does_j16 c (nI a) (nI (a + 1)) m = some (if r1 = false ∧ m.2 56 a = (if c = 38 then 1 else 0) then wI (wL m 56 a (m.2 56 (a + 1))) 57 a (bI r2) else m) := by
    unfold f11_does_j16 f11_does_j46
    rw [inb_n (show a < 200 by omega) (by omega : 200 < 2 ^ 31), chk_p, nm_p, nI_clamp (n := a) (by omega), hr1]
    cases r1 with
    | true =>
      rw [if_neg (show ¬ bI true = 0 by decide), if_neg (fun e => by cases e.1)]
    | false =>
      rw [if_pos (show bI false = 0 from rfl), chk_p, nm_p]
      by_cases h38 : c = 38
      · rw [if_pos h38, j42, if_pos h38]
        by_cases hb : m.2 56 a = 1
        · rw [if_pos hb, if_pos ⟨rfl, hb⟩]
        · rw [if_neg hb, if_neg (fun e => hb e.2)]
      · rw [if_neg h38, j42, if_neg h38]
        by_cases hb : m.2 56 a = 0
        · rw [if_pos hb, if_pos ⟨rfl, hb⟩]
        · rw [if_neg hb, if_neg (fun e => hb e.2)]
  unfold f11_does
  rw [nm_p, nI_1]
  rcases hc with h | h
  · rw [if_pos h, j16]
  · rw [if_neg (show ¬ c = 38 by rw [h]; decide), if_pos h, j16]
theorem FrE.refl (m : OS) : FrE m m := ⟨fun _ _ => rfl, fun _ _ => rfl⟩
theorem FrE.trans {a b c : OS} (h : FrE a b) (g : FrE b c) : FrE a c := ⟨fun r hr => (g.1 r hr).trans (h.1 r hr), fun r hr => (g.2 r hr).trans (h.2 r hr)⟩
theorem FrE.upI {a b : OS} (h : FrE a b) (i : Nat) (v : Int32) : FrE a (wI b 57 i v) := ⟨fun r hr => (wI_of hr).trans (h.1 r hr), fun r hr => h.2 r hr⟩
theorem FrE.upL {a b : OS} (h : FrE a b) (i : Nat) (v : Int64) : FrE a (wL b 56 i v) := ⟨fun r hr => h.1 r hr, fun r hr => (show (if r = 56 then _ else b.2 r) = b.2 r from if_neg hr).trans (h.2 r hr)⟩
theorem EnvM.fr {m m' : OS} {env : Nat → Int64} (h : EnvM m env) (g : FrE m m') : EnvM m' env := fun m2 h2 j hj => h m2 (g.trans h2) j hj
section
variable {kk base : Int32} {i c hi : Nat} {m : OS}
theorem ev_num (hk : inb kk 240 = true) (hh : base + m.1 41 kk.toNatClampNeg = nI hi) (hi1 : i < hi) (hi2 : hi ≤ 3200) (hc : c < 200) (h42 : m.1 42 i = 0) : f11_holds_l21 kk base (nI c, nI i, m) = some (.inl (nI (c + 1), nI (i + 1), wL (wI m 57 c 0) 56 c (m.1 43 i).toInt64)) := by
  unfold f11_holds_l21 f11_holds_j141 f11_holds_j145
  show chk (inb kk 240) (nm (m.1 41 kk.toNatClampNeg) fun y_29 => if (base + y_29) ≤ nI i then _ else _) = _
  rw [hk, chk_p, nm_p, hh, if_neg (nI_ge hi1 (by omega))]
  show chk (inb (nI i) 3200) (nm (m.1 42 (nI i).toNatClampNeg) _) = _
  simp only [inb_n (show i < 3200 by omega) (by omega : 3200 < 2 ^ 31), inb_n hc (by omega : 200 < 2 ^ 31), chk_p, nm_p, nI_clamp (n := i) (by omega), nI_clamp (n := c) (by omega), h42]
  rw [if_pos (show (0 : Int32) ≤ 2 by decide), if_neg (show ¬ (0 : Int32) = 2 by decide)]
  show (if m.1 42 i = 0 then _ else _) = _
  rw [if_pos h42, nI_1, nI_1]; rfl
theorem ev_let {j : Nat} {env : Nat → Int64} (hk : inb kk 240 = true) (hh : base + m.1 41 kk.toNatClampNeg = nI hi) (hi1 : i < hi) (hi2 : hi ≤ 3200) (hc : c < 200) (h42 : m.1 42 i = 1) (h43 : m.1 43 i = letC j) (hj : j < 9) (hE : EnvM m env) : f11_holds_l21 kk base (nI c, nI i, m) = some (.inl (nI (c + 1), nI (i + 1), wL (wI m 57 c 0) 56 c (env j))) := by
  unfold f11_holds_l21 f11_holds_j141 f11_holds_j145
  show chk (inb kk 240) (nm (m.1 41 kk.toNatClampNeg) fun y_29 => if (base + y_29) ≤ nI i then _ else _) = _
  rw [hk, chk_p, nm_p, hh, if_neg (nI_ge hi1 (by omega))]
  show chk (inb (nI i) 3200) (nm (m.1 42 (nI i).toNatClampNeg) _) = _
  simp only [inb_n (show i < 3200 by omega) (by omega : 3200 < 2 ^ 31), inb_n hc (by omega : 200 < 2 ^ 31), chk_p, nm_p, nI_clamp (n := i) (by omega), nI_clamp (n := c) (by omega), h42]
  rw [if_pos (show (1 : Int32) ≤ 2 by decide), if_neg (show ¬ (1 : Int32) = 2 by decide)]
  show (if m.1 42 i = 0 then _ else Option.bind (f11_valueOf (m.1 43 i) (wI m 57 c 0)) _) = _
  rw [if_neg (show ¬ m.1 42 i = 0 by rw [h42]; decide), h43, hE _ ((FrE.refl m).upI c 0) j hj, Option.bind_some, nI_1, nI_1]; rfl
theorem ev_not (hk : inb kk 240 = true) (hh : base + m.1 41 kk.toNatClampNeg = nI hi) (hi1 : i < hi) (hi2 : hi ≤ 3200) (hc : c < 200) (h42 : m.1 42 i = 2) : f11_holds_l21 kk base (nI (c + 1), nI i, m) = some (.inl (nI (c + 1), nI (i + 1), wL m 56 c (1 - m.2 56 c))) := by
  unfold f11_holds_l21 f11_holds_j145
  show chk (inb kk 240) (nm (m.1 41 kk.toNatClampNeg) fun y_29 => if (base + y_29) ≤ nI i then _ else _) = _
  rw [hk, chk_p, nm_p, hh, if_neg (nI_ge hi1 (by omega))]
  show chk (inb (nI i) 3200) (nm (m.1 42 (nI i).toNatClampNeg) _) = _
  have e1 : nI (c + 1) - (1 : Int32) = nI c := by rw [← nI_1, add_sub1]
  simp only [inb_n (show i < 3200 by omega) (by omega : 3200 < 2 ^ 31), chk_p, nm_p, nI_clamp (n := i) (by omega), h42, e1, inb_n hc (by omega : 200 < 2 ^ 31), nI_clamp (n := c) (by omega)]
  rw [if_pos (show (2 : Int32) ≤ 2 by decide)]
  simp only [↓reduceIte, nI_1]
theorem ev_op {m' : OS} (hk : inb kk 240 = true) (hh : base + m.1 41 kk.toNatClampNeg = nI hi) (hi1 : i < hi) (hi2 : hi ≤ 3200) (hc : c < 200) (h42 : ¬ m.1 42 i ≤ 2) (hd : f11_does (m.1 42 i) (nI c) m = some m') : f11_holds_l21 kk base (nI (c + 2), nI i, m) = some (.inl (nI (c + 1), nI (i + 1), m')) := by
  unfold f11_holds_l21 f11_holds_j145
  show chk (inb kk 240) (nm (m.1 41 kk.toNatClampNeg) fun y_29 => if (base + y_29) ≤ nI i then _ else _) = _
  rw [hk, chk_p, nm_p, hh, if_neg (nI_ge hi1 (by omega))]
  show chk (inb (nI i) 3200) (nm (m.1 42 (nI i).toNatClampNeg) _) = _
  have e1 : nI (c + 2) + (-1 : Int32) = nI (c + 1) := pk_m1 (c + 1)
  have e2 : nI (c + 1) - (1 : Int32) = nI c := by rw [← nI_1, add_sub1]
  simp only [inb_n (show i < 3200 by omega) (by omega : 3200 < 2 ^ 31), chk_p, nm_p, nI_clamp (n := i) (by omega)]
  rw [if_neg h42]
  show Option.bind (f11_does (m.1 42 i) (nI (c + 2) + (-1) - 1) m) _ = _
  rw [e1, e2, hd, Option.bind_some, nI_1]
end
theorem EvS_num (a : Int32) : EvS [(0, a)] (fun _ => (a.toInt64, false)) := by
  intro kk base i c hi env m hk hc hh h1 h2 h3 hE
  have h1 : i + 1 ≤ hi := h1
  have h3 : c + 1 ≤ 200 := h3
  have h43 : m.1 43 i = a := hc.2.1
  refine ⟨_, loop_inl (ev_num hk hh (by omega) h2 (by omega) hc.1), ((FrE.refl m).upI c 0).upL c _, ?_, ?_, fun x hx => ⟨?_, ?_⟩⟩
  · show (if c = c then (m.1 43 i).toInt64 else _) = a.toInt64
    rw [if_pos rfl, h43]
  · show (if c = c then (0 : Int32) else _) = _
    rw [if_pos rfl]; rfl
  · show (if x = c then _ else m.2 56 x) = _
    rw [if_neg (by omega)]
  · show (if x = c then _ else m.1 57 x) = _
    rw [if_neg (by omega)]
theorem EvS_let {j : Nat} (hj : j < 9) : EvS [(1, letC j)] (fun env => (env j, false)) := by
  intro kk base i c hi env m hk hc hh h1 h2 h3 hE
  have h1 : i + 1 ≤ hi := h1
  have h3 : c + 1 ≤ 200 := h3
  refine ⟨_, loop_inl (ev_let hk hh (by omega) h2 (by omega) hc.1 hc.2.1 hj hE), ((FrE.refl m).upI c 0).upL c _, ?_, ?_, fun x hx => ⟨?_, ?_⟩⟩
  · show (if c = c then env j else _) = _
    rw [if_pos rfl]
  · show (if c = c then (0 : Int32) else _) = _
    rw [if_pos rfl]; rfl
  · show (if x = c then _ else m.2 56 x) = _
    rw [if_neg (by omega)]
  · show (if x = c then _ else m.1 57 x) = _
    rw [if_neg (by omega)]
theorem EvS_not {cs : List (Int32 × Int32)} {d : (Nat → Int64) → Int64 × Bool} (hd : EvS cs d) : EvS (cs ++ [(2, 0)]) (fun env => (1 - (d env).1, (d env).2)) := by
  intro kk base i c hi env m hk hc hh h1 h2 h3 hE
  have hl : (cs ++ [((2 : Int32), (0 : Int32))]).length = cs.length + 1 := by rw [List.length_append]; rfl
  rw [hl] at h1 h3 ⊢
  obtain ⟨c1, c2⟩ := (cdA_app _ _ _).mp hc
  obtain ⟨m1, e1, e2, e3, e4, e5⟩ := hd kk base i c hi env m hk c1 hh (by omega) h2 (by omega) hE
  have h42 : m1.1 42 (i + cs.length) = 2 := by rw [e2.1 42 (by decide)]; exact c2.1
  refine ⟨_, e1.trans (loop_inl (ev_not hk (by rw [e2.1 41 (by decide)]; exact hh) (by omega) h2 (by omega) h42)), e2.upL c _, ?_, e4, fun x hx => ⟨?_, (e5 x hx).2⟩⟩
  · show (if c = c then 1 - m1.2 56 c else _) = _
    rw [if_pos rfl, e3]
  · show (if x = c then _ else m1.2 56 x) = _
    rw [if_neg (by omega)]; exact (e5 x hx).1
theorem EvS_ar {cs1 cs2 : List (Int32 × Int32)} {d1 d2 : (Nat → Int64) → Int64 × Bool} {y : Int32} (h0 : 0 < cs2.length) (hd1 : EvS cs1 d1) (hd2 : EvS cs2 d2) (hy : ¬ y ≤ 2) (hy1 : ¬ y = 38) (hy2 : ¬ y = 124) : EvS (cs1 ++ cs2 ++ [(y, 0)]) (fun env => (wk y (d1 env).1 (d2 env).1, opR y (d2 env).1 (d1 env).2 (d2 env).2)) := by
  intro kk base i c hi env m hk hc hh h1 h2 h3 hE
  have hl : (cs1 ++ cs2 ++ [(y, (0 : Int32))]).length = cs1.length + cs2.length + 1 := by rw [List.length_append, List.length_append]; rfl
  rw [hl] at h1 h3 ⊢
  obtain ⟨c12, c3⟩ := (cdA_app _ _ _).mp hc
  obtain ⟨c1, c2⟩ := (cdA_app _ _ _).mp c12
  rw [List.length_append] at c3
  obtain ⟨m1, e1, e2, e3, e4, e5⟩ := hd1 kk base i c hi env m hk c1 hh (by omega) h2 (by omega) hE
  obtain ⟨m2, f1, f2, f3, f4, f5⟩ := hd2 kk base (i + cs1.length) (c + 1) hi env m1 hk (cdA_upd _ _ (fun j _ _ => ⟨by rw [e2.1 42 (by decide)], by rw [e2.1 43 (by decide)]⟩) c2) (by rw [e2.1 41 (by decide)]; exact hh) (by omega) h2 (by omega) (hE.fr e2)
  have e12 := e2.trans f2
  rw [show i + (cs1.length + cs2.length + 1) = i + cs1.length + cs2.length + 1 by omega]
  have h42 : m2.1 42 (i + cs1.length + cs2.length) = y := by rw [e12.1 42 (by decide), Nat.add_assoc]; exact c3.1
  have g1 : m2.2 56 c = (d1 env).1 := by rw [(f5 c (by omega)).1]; exact e3
  have g2 : m2.1 57 c = bI (d1 env).2 := by rw [(f5 c (by omega)).2]; exact e4
  have hdo := does_ar (c := y) (a := c) (m := m2) (r1 := (d1 env).2) (r2 := (d2 env).2) hy1 hy2 (by omega) g2 f4
  rw [g1, f3] at hdo
  rw [← h42] at hdo hy
  refine ⟨_, (e1.trans f1).trans (loop_inl (ev_op hk (by rw [e12.1 41 (by decide)]; exact hh) (by omega) h2 (by omega) hy hdo)), (e12.upI c _).upL c _, ?_, ?_, fun x hx => ⟨?_, ?_⟩⟩
  · show (if c = c then wk _ (d1 env).1 (d2 env).1 else _) = _
    rw [if_pos rfl, h42]
  · show (if c = c then bI _ else _) = _
    rw [if_pos rfl, h42]; rfl
  · show (if x = c then _ else m2.2 56 x) = _
    rw [if_neg (by omega), (f5 x (by omega)).1]; exact (e5 x hx).1
  · show (if x = c then _ else m2.1 57 x) = _
    rw [if_neg (by omega), (f5 x (by omega)).2]; exact (e5 x hx).2
/-- & and | -/
def boD (y : Int32) (d1 d2 : (Nat → Int64) → Int64 × Bool) (env : Nat → Int64) : Int64 × Bool := if (d1 env).2 = false ∧ (d1 env).1 = (if y = 38 then 1 else 0) then d2 env else d1 env
theorem EvS_bo {cs1 cs2 : List (Int32 × Int32)} {d1 d2 : (Nat → Int64) → Int64 × Bool} {y : Int32} (h0 : 0 < cs2.length) (hd1 : EvS cs1 d1) (hd2 : EvS cs2 d2) (hy : y = 38 ∨ y = 124) : EvS (cs1 ++ cs2 ++ [(y, 0)]) (boD y d1 d2) := by
  intro kk base i c hi env m hk hc hh h1 h2 h3 hE
  have hl : (cs1 ++ cs2 ++ [(y, (0 : Int32))]).length = cs1.length + cs2.length + 1 := by rw [List.length_append, List.length_append]; rfl
  rw [hl] at h1 h3 ⊢
  obtain ⟨c12, c3⟩ := (cdA_app _ _ _).mp hc
  obtain ⟨c1, c2⟩ := (cdA_app _ _ _).mp c12
  rw [List.length_append] at c3
  obtain ⟨m1, e1, e2, e3, e4, e5⟩ := hd1 kk base i c hi env m hk c1 hh (by omega) h2 (by omega) hE
  obtain ⟨m2, f1, f2, f3, f4, f5⟩ := hd2 kk base (i + cs1.length) (c + 1) hi env m1 hk (cdA_upd _ _ (fun j _ _ => ⟨by rw [e2.1 42 (by decide)], by rw [e2.1 43 (by decide)]⟩) c2) (by rw [e2.1 41 (by decide)]; exact hh) (by omega) h2 (by omega) (hE.fr e2)
  have e12 := e2.trans f2
  rw [show i + (cs1.length + cs2.length + 1) = i + cs1.length + cs2.length + 1 by omega]
  have h42 : m2.1 42 (i + cs1.length + cs2.length) = y := by rw [e12.1 42 (by decide), Nat.add_assoc]; exact c3.1
  have g1 : m2.2 56 c = (d1 env).1 := by rw [(f5 c (by omega)).1]; exact e3
  have g2 : m2.1 57 c = bI (d1 env).2 := by rw [(f5 c (by omega)).2]; exact e4
  have hdo := does_bo (c := y) (a := c) (m := m2) (r1 := (d1 env).2) (r2 := (d2 env).2) hy (by omega) g2 f4
  rw [g1, f3] at hdo
  have hy2 : ¬ y ≤ 2 := by rcases hy with rfl | rfl <;> decide
  unfold boD
  by_cases hb : (d1 env).2 = false ∧ (d1 env).1 = (if y = 38 then 1 else 0)
  · rw [if_pos hb] at hdo
    rw [if_pos hb]
    rw [← h42] at hdo hy2
    refine ⟨_, (e1.trans f1).trans (loop_inl (ev_op hk (by rw [e12.1 41 (by decide)]; exact hh) (by omega) h2 (by omega) hy2 hdo)), (e12.upL c _).upI c _, ?_, ?_, fun x hx => ⟨?_, ?_⟩⟩
    · show (if c = c then (d2 env).1 else _) = _
      rw [if_pos rfl]
    · show (if c = c then bI _ else _) = _
      rw [if_pos rfl]; rfl
    · show (if x = c then _ else m2.2 56 x) = _
      rw [if_neg (by omega), (f5 x (by omega)).1]; exact (e5 x hx).1
    · show (if x = c then _ else m2.1 57 x) = _
      rw [if_neg (by omega), (f5 x (by omega)).2]; exact (e5 x hx).2
  · rw [if_neg hb] at hdo
    rw [if_neg hb]
    rw [← h42] at hdo hy2
    exact ⟨_, (e1.trans f1).trans (loop_inl (ev_op hk (by rw [e12.1 41 (by decide)]; exact hh) (by omega) h2 (by omega) hy2 hdo)), e12, g1, g2, fun x hx => ⟨(f5 x (by omega)).1.trans (e5 x hx).1, (f5 x (by omega)).2.trans (e5 x hx).2⟩⟩
