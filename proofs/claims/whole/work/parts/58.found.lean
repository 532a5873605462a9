-- found
theorem Rel.mix {n k : Nat} {s0 s1 s2 s3 s4 s5 s6 s7 s8 s9 s10 s11 s3' s8' m : OS} (h : RelN n k s0 s1 s2 s3 s4 s5 s7 s8 s9 s10 s11) (f1 : ∀ r, 1 ≤ r → (r < 71 ∨ 77 < r) → m.1 r = s11.1 r) (f2 : ∀ i, i ≠ 1 → i ≠ 68 → i ≠ 69 → m.1 0 i = s11.1 0 i) (f3 : m.2 = s11.2) (hT : RelT s8' (m.1 0 1) (m.1 1)) (hM : RelM n s3' (m.1 0 68) (m.1 0 69) (m.1 71) (m.1 76) (m.1 77)) : Rel (k + 1) s0 s1 s2 s3' s4 s5 s6 s7 s8' s9 s10 m := by
  obtain ⟨h1, h2, h3, h4, h5, h6, h7, h8, h9, h10⟩ := h.up
  refine ⟨n, ?_, ?_, ?_, ?_, ?_, hT, ?_, ?_, hM, ?_⟩
  · rw [f1 20 (by decide) (by decide), f2 2 (by decide) (by decide) (by decide)]; exact h1
  · rw [f3, f2 3 (by decide) (by decide) (by decide), f1 12 (by decide) (by decide), f1 13 (by decide) (by decide), f1 14 (by decide) (by decide), f1 15 (by decide) (by decide), f1 16 (by decide) (by decide), f1 17 (by decide) (by decide), f1 18 (by decide) (by decide), f1 19 (by decide) (by decide)]; exact h2
  · rw [f2 24 (by decide) (by decide) (by decide), f1 26 (by decide) (by decide), f1 27 (by decide) (by decide), f1 28 (by decide) (by decide), f1 29 (by decide) (by decide), f1 30 (by decide) (by decide)]; exact h3
  · rw [f3, f2 4 (by decide) (by decide) (by decide), f2 5 (by decide) (by decide) (by decide), f1 31 (by decide) (by decide), f1 32 (by decide) (by decide), f1 59 (by decide) (by decide), f1 60 (by decide) (by decide), f1 61 (by decide) (by decide), f1 62 (by decide) (by decide), f1 63 (by decide) (by decide), f1 64 (by decide) (by decide)]; exact h4
  · rw [f2 7 (by decide) (by decide) (by decide), f1 65 (by decide) (by decide), f1 66 (by decide) (by decide), f1 67 (by decide) (by decide), f1 68 (by decide) (by decide)]; exact h5
  · rw [f2 8 (by decide) (by decide) (by decide), f2 9 (by decide) (by decide) (by decide), f1 78 (by decide) (by decide), f1 80 (by decide) (by decide), f1 81 (by decide) (by decide), f1 82 (by decide) (by decide), f1 83 (by decide) (by decide), f1 84 (by decide) (by decide)]; exact h7
  · rw [f2 10 (by decide) (by decide) (by decide), f2 89 (by decide) (by decide) (by decide), f1 85 (by decide) (by decide), f1 86 (by decide) (by decide), f1 87 (by decide) (by decide)]; exact h8
  · rw [f2 6 (by decide) (by decide) (by decide), f1 34 (by decide) (by decide), f1 35 (by decide) (by decide), f1 36 (by decide) (by decide), f1 37 (by decide) (by decide), f1 38 (by decide) (by decide), f1 39 (by decide) (by decide), f1 40 (by decide) (by decide), f1 41 (by decide) (by decide), f1 42 (by decide) (by decide), f1 43 (by decide) (by decide)]; exact h10
noncomputable def fitMB (w k num : Nat → Int32) (c : Nat) (ps : Nat → Nat) (i j : Nat) : Bool := @decide (j < c ∧ FitP w k (num (c + 3 * i)) (num (c + 3 * i + 1)) (num (c + 3 * i + 2)) (ps j)) (Classical.propDecidable _)
theorem fitMB_is {w k num : Nat → Int32} {c : Nat} {ps : Nat → Nat} {i j : Nat} : fitMB w k num c ps i j = true ↔ j < c ∧ FitP w k (num (c + 3 * i)) (num (c + 3 * i + 1)) (num (c + 3 * i + 2)) (ps j) := @decide_eq_true_iff _ (Classical.propDecidable _)
theorem mk_f0 : nI (mkB (fun _ => false) 16) = 0 := by decide
theorem mk_63 : nI (mkB (fun y => decide (y < 6)) 16) = 63 := by decide
abbrev noB : Nat → Bool := fun _ => false
theorem c_answer {n c : Nat} {s3 s4 s8 : OS} {num : Nat → Int32} {pp : Nat → Nat} (hn : n ≤ 150) (h : s4.1 0 10 = nI n) (h0 : 0 < c) (hc : c ≤ 6) (hw : ∀ p, p < n → bw 0 1000000000 (s4.1 3 p)) (hnum : ∀ j, j < 4 * c → f8_number (nI j) s8 = some (num j)) (hpp : ∀ j, j < c → num j = nI (pp j) ∧ pp j < n) (hd : ∀ a b, a < c → b < c → pp a = pp b → a = b) (hT : ThgP num c c) :
    ∃ (s3' : OS) (ps σ τ : Nat → Nat) (B : Nat → Nat → Bool), f3_answer (nI c) s3 s4 s8 = some (nI (cntA (fitMB (s4.1 3) (s4.1 1) num c ps) c c 0 noB), s3') ∧ s3'.1 0 3 = nI c ∧ (∀ j, j < c → s3'.1 1 j = nI (ps j) ∧ ps j < n) ∧ (∀ a b, a < b → b < c → ps a < ps b) ∧ Prm c σ τ ∧ (∀ i, i < c → ps (σ i) = pp i) ∧ (∀ i, i < c → s3'.1 3 i = nI (mkB (B i) 16)) ∧ ∀ x y, x < c → (B x y = true ↔ mayA (fitMB (s4.1 3) (s4.1 1) num c ps) c c 0 noB x y) := by
  have fin : ∀ u : OS, u.1 0 3 = nI c → (∀ j, j < c → u.1 1 j = nI (pp j)) → ∃ r : Int32 × OS, (Option.bind (f3_sortMixed u) fun q_54 => loop (f3_answer_l60 (nI c) s4 s8) ((0 : Int32), q_54)) = some r ∧ ∃ (ps σ τ : Nat → Nat) (B : Nat → Nat → Bool), r.1 = nI (cntA (fitMB (s4.1 3) (s4.1 1) num c ps) c c 0 noB) ∧ r.2.1 0 3 = nI c ∧ (∀ j, j < c → r.2.1 1 j = nI (ps j) ∧ ps j < n) ∧ (∀ a b, a < b → b < c → ps a < ps b) ∧ Prm c σ τ ∧ (∀ i, i < c → ps (σ i) = pp i) ∧ (∀ i, i < c → r.2.1 3 i = nI (mkB (B i) 16)) ∧ ∀ x y, x < c → (B x y = true ↔ mayA (fitMB (s4.1 3) (s4.1 1) num c ps) c c 0 noB x y) := by
    intro u hu3 hu1
    obtain ⟨u', e1, ps, σ, τ, ⟨g1, g2, g3, g4, g5⟩, g6⟩ := c_sort (s := u) (sp0 := pp) hc hu3 (fun i hi => ⟨hu1 i hi, by have := (hpp i hi).2; omega⟩) hd
    have gn : ∀ j, j < c → ps j < n := fun j hj => by
      obtain ⟨_, q2, q3, _⟩ := g4 j hj
      have := g5 (τ j) q2
      rw [q3] at this
      rw [this]; exact (hpp _ q2).2
    rw [e1, Option.bind_some]
    obtain ⟨F, hF⟩ : ∃ F : Nat → Nat → Bool, F = fitMB (s4.1 3) (s4.1 1) num c ps := ⟨_, rfl⟩
    refine Exists.elim (loop_inv (f := f3_answer_l60 (nI c) s4 s8) c (fun i (t : Int32 × OS) => i ≤ c ∧ t.1 = nI i ∧ (∀ r, r ≠ 2 → r ≠ 3 → t.2.1 r = u'.1 r) ∧ ∀ j, j < i → t.2.1 2 j = nI (mkB (F j) 16) ∧ t.2.1 3 j = 0) (fun r : Int32 × OS => ∃ B : Nat → Nat → Bool, r.1 = nI (cntA F c c 0 noB) ∧ (∀ q, q ≠ 2 → q ≠ 3 → r.2.1 q = u'.1 q) ∧ (∀ i, i < c → r.2.1 3 i = nI (mkB (B i) 16)) ∧ ∀ x y, x < c → (B x y = true ↔ mayA F c c 0 noB x y)) ?_ c 0 ((0 : Int32), u') (by omega) ⟨by omega, rfl, fun _ _ _ => rfl, fun j hj => by omega⟩) (fun r hr => ?_)
    · rintro i ⟨x, v⟩ ⟨hi, f1, f2, f3⟩
      have f1 : x = nI i := f1
      subst f1
      have f2 : ∀ r, r ≠ 2 → r ≠ 3 → v.1 r = u'.1 r := f2
      have f3 : ∀ j, j < i → v.1 2 j = nI (mkB (F j) 16) ∧ v.1 3 j = 0 := f3
      have v03 : v.1 0 3 = nI c := by rw [f2 0 (by decide) (by decide), g1 0 (by decide)]; exact hu3
      unfold f3_answer_l60
      by_cases hic : i = c
      · right
        subst hic
        obtain ⟨w, B, k1, k2, k3⟩ := c_count (s := v) (F := F) hc i 8 0 noB (fun _ _ => false) v (by omega) (by omega) ⟨fun _ _ => rfl, rfl, v03, fun j hj => (f3 j hj).1, fun j hj => by rw [(f3 j hj).2, mk_f0]⟩
        have k1 : f3_countAnswers 8 0 (nI (mkB (fun _ => false) 16)) v = some (nI (cntA F i i 0 noB), w) := k1
        rw [mk_f0] at k1
        refine ⟨(nI (cntA F i i 0 noB), w), ?_, B, rfl, fun q h1 h2 => ?_, fun j hj => k2.2.2.2.2 j hj, fun x y hx => ?_⟩
        · show (if nI i ≤ nI i then _ else _) = _
          rw [if_pos (show nI i ≤ nI i from nI_le (Nat.le_refl _) (by omega)), k1]; rfl
        · show w.1 q = _
          rw [k2.1 q h2]; exact f2 q h1 h2
        · rw [k3 x y hx]
          exact ⟨fun e => e.elim (fun e => by cases e) id, Or.inr⟩
      · left
        have hlt : i < c := by omega
        refine ⟨hlt, ?_⟩
        have t1 := hT i hlt
        obtain ⟨b, b1', b2, b3⟩ := c_fitting (n := n) (c := c) (s3 := wI v 3 i 0) (s4 := s4) (sp := ps) (rd := num (c + 3 * i)) (sl := num (c + 3 * i + 1)) (kd := num (c + 3 * i + 2)) hn h hc v03 (fun j hj => ⟨by
          show v.1 1 j = _
          rw [f2 1 (by decide) (by decide)]; exact (g3 j hj).1, gn j hj⟩) hw ⟨t1.1.1, t1.1.2⟩
        have hbF : mkB b 16 = mkB (F i) 16 := mkB_congr 16 (fun j _ => by
          rw [Bool.eq_iff_iff, hF, fitMB_is]
          rcases Nat.lt_or_ge j c with e | e
          · rw [b2 j e]; exact ⟨fun z => ⟨e, z⟩, fun z => z.2⟩
          · rw [b3 j e]; exact ⟨fun z => (by cases z), fun z => by omega⟩)
        show ∃ t, (if nI c ≤ nI i then _ else _) = some (Sum.inl t) ∧ _
        rw [if_neg (nI_ge hlt (by omega))]
        simp only [nm_p, nI_clamp (n := i) (by omega), inb_n (show i < 6 by omega) (by omega : 6 < 2 ^ 31), chk_p, ix3]
        rw [hnum (c + 3 * i) (by omega), Option.bind_some, nI_1, hnum (c + 3 * i + 1) (by omega), Option.bind_some, show (2 : Int32) = nI 2 from rfl, nI_add, hnum (c + 3 * i + 2) (by omega), Option.bind_some, b1', Option.bind_some, hbF, nI_1]
        refine ⟨_, rfl, by omega, rfl, fun r h1 h2 => ?_, fun j hj => ?_⟩
        · show (if r = 2 then _ else if r = 3 then _ else v.1 r) = _
          rw [if_neg h1, if_neg h2]; exact f2 r h1 h2
        · show (if j = i then nI (mkB (F i) 16) else v.1 2 j) = nI (mkB (F j) 16) ∧ (if j = i then 0 else v.1 3 j) = 0
          by_cases e : j = i
          · subst e; rw [if_pos rfl, if_pos rfl]; exact ⟨rfl, rfl⟩
          · rw [if_neg e, if_neg e]; exact f3 j (by omega)
    · obtain ⟨k1, B, k2, k3, k4, k5⟩ := hr
      refine ⟨r, k1, ps, σ, τ, B, ?_, ?_, ?_, g6, g4, g5, k4, ?_⟩
      · rw [← hF]; exact k2
      · rw [k3 0 (by decide) (by decide), g1 0 (by decide)]; exact hu3
      · intro j hj; rw [k3 1 (by decide) (by decide)]; exact ⟨(g3 j hj).1, gn j hj⟩
      · rw [← hF]; exact k5
  have key : ∃ r : Int32 × OS, f3_answer (nI c) s3 s4 s8 = some r ∧ ∃ (ps σ τ : Nat → Nat) (B : Nat → Nat → Bool), r.1 = nI (cntA (fitMB (s4.1 3) (s4.1 1) num c ps) c c 0 noB) ∧ r.2.1 0 3 = nI c ∧ (∀ j, j < c → r.2.1 1 j = nI (ps j) ∧ ps j < n) ∧ (∀ a b, a < b → b < c → ps a < ps b) ∧ Prm c σ τ ∧ (∀ i, i < c → ps (σ i) = pp i) ∧ (∀ i, i < c → r.2.1 3 i = nI (mkB (B i) 16)) ∧ ∀ x y, x < c → (B x y = true ↔ mayA (fitMB (s4.1 3) (s4.1 1) num c ps) c c 0 noB x y) := by
    unfold f3_answer
    rw [if_neg (nI_pos (n := c) (by omega)), if_pos (show nI c ≤ (6 : Int32) from nI_le (a := c) (b := 6) hc (by omega)), nm_p]
    refine loop_inv c (fun i (t : Int32 × OS) => i ≤ c ∧ t.1 = nI i ∧ t.2.1 0 3 = nI c ∧ ∀ j, j < i → t.2.1 1 j = nI (pp j)) _ ?_ c 0 _ (by omega) ⟨by omega, rfl, rfl, fun j hj => by omega⟩
    rintro i ⟨x, v⟩ ⟨hi, f1, f2, f3⟩
    have f1 : x = nI i := f1
    subst f1
    have f2 : v.1 0 3 = nI c := f2
    have f3 : ∀ j, j < i → v.1 1 j = nI (pp j) := f3
    unfold f3_answer_l28
    by_cases hic : i = c
    · right
      subst hic
      obtain ⟨r, k1, k2⟩ := fin v f2 f3
      refine ⟨r, ?_, k2⟩
      show (if nI i ≤ nI i then _ else _) = _
      rw [if_pos (show nI i ≤ nI i from nI_le (Nat.le_refl _) (by omega))]
      show Option.map Sum.inr (Option.bind (f3_sortMixed v) fun q_54 => loop (f3_answer_l60 (nI i) s4 s8) ((0 : Int32), q_54)) = _
      rw [k1]; rfl
    · left
      have hlt : i < c := by omega
      refine ⟨hlt, ?_⟩
      show ∃ t, (if nI c ≤ nI i then _ else _) = some (Sum.inl t) ∧ _
      rw [if_neg (nI_ge hlt (by omega))]
      simp only [nm_p, nI_clamp (n := i) (by omega), inb_n (show i < 6 by omega) (by omega : 6 < 2 ^ 31), chk_p, nI_1]
      rw [hnum i (by omega), Option.bind_some, (hpp i hlt).1]
      refine ⟨_, rfl, by omega, rfl, f2, fun j hj => ?_⟩
      show (if j = i then nI (pp i) else v.1 1 j) = nI (pp j)
      by_cases e : j = i
      · subst e; rw [if_pos rfl]
      · rw [if_neg e]; exact f3 j (by omega)
  obtain ⟨⟨a, s3'⟩, k1, ps, σ, τ, B, k2, k3⟩ := key
  have k2 : a = nI (cntA (fitMB (s4.1 3) (s4.1 1) num c ps) c c 0 noB) := k2
  subst k2
  exact ⟨s3', ps, σ, τ, B, k1, k3⟩
theorem st_found {k : Nat} {s0 s1 s2 s3 s4 s5 s6 s7 s8 s9 s10 s11 : OS} (h : Rel k s0 s1 s2 s3 s4 s5 s6 s7 s8 s9 s10 s11) (hk : k < 512) (a1 : Int32) : ∃ (rc : Int32 × OS × OS) (rr : Int32 × OS), f10_found a1 s3 s4 s8 = some rc ∧ f11_found a1 s11 = some rr ∧ rc.1 = rr.1 ∧ Rel (k + 1) s0 s1 s2 rc.2.1 s4 s5 s6 s7 rc.2.2 s9 s10 rr.2 := by
  obtain ⟨n, hN⟩ := h.toN
  obtain ⟨hV, hP, hD, hL, hS, hT, hW, hA, hM, hB⟩ := id hN
  obtain ⟨p1, p2, p3, p4, p5, p6, p7, p8, p9, p10, p11, p12, p13⟩ := id hP
  obtain ⟨t, t1, t2⟩ := hT.tp
  have t0 := t1.1
  unfold f10_found f10_found_j23 f10_found_j45 f11_found f11_found_j23
  rw [t2]
  simp only [c_isWithin, r_lies, Option.bind_some, if_b1, Int32.toInt_toInt64]
  by_cases h1 : (1 : Int32).toInt ≤ a1.toInt ∧ a1.toInt ≤ (6 : Int32).toInt
  · rw [if_pos h1, if_pos (show (1 : Int64).toInt ≤ a1.toInt ∧ a1.toInt ≤ (6 : Int64).toInt from h1)]
    have h1 : 1 ≤ a1.toInt ∧ a1.toInt ≤ 6 := h1
    obtain ⟨c, hc, rfl⟩ := nI_of_in (x := a1) (n := 7) (by omega) (by omega)
    have h0 : 0 < c := by have := h1.1; rw [nI_toInt (by omega)] at this; omega
    have hc : c ≤ 6 := by omega
    unfold f8_hasNumbers f8_hasNumbers_j15
    rw [t1.2.1, show (4 : Int32) = nI 4 from rfl, show (16 : Int32) = nI 16 from rfl, pk_mul, pk_mul, pk_mul, show 4 * (4 * c) = 16 * c by omega]
    by_cases h4 : 16 * c ≤ t
    · rw [if_neg (nI_nlt (a := t) (b := 16 * c) h4 (by omega)), if_pos (show nI (16 * c) ≤ nI t from nI_le h4 (by omega)), show chk (isB (1 : Int32)) (some (1 : Int32)) = some 1 from rfl, Option.bind_some, if_neg (by decide), nm_p]
      obtain ⟨m, hm⟩ : ∃ m, m = wI s11 0 1 0 := ⟨_, rfl⟩
      have hm1 : m.1 1 = s11.1 1 := by subst hm; rfl
      have hNm : RelN n k s0 s1 s2 s3 s4 s5 s7 (wI s8 0 1 0) s9 s10 m := by
        subst hm
        exact ⟨hV, hP, hD, hL, hS, ⟨0, by omega, rfl, rfl, t1.2.2⟩, hW, hA, hM, hB⟩
      rw [← hm]
      have w8 : f8_wipe s8 = some (wI s8 0 1 0) := rfl
      obtain ⟨num, hnum⟩ : ∃ num : Nat → Int32, num = fun j => nB (fun i => s8.1 1 (4 * j + i)) 4 := ⟨_, rfl⟩
      have cn : ∀ j, j < 4 * c → f8_number (nI j) s8 = some (num j) := fun j hj => by subst hnum; exact c_number t1 (by omega)
      have rn : ∀ j m', j < 4 * c → m'.1 1 = s11.1 1 → f11_numberAt (nI j) m' = some (num j) := fun j m' hj e => by
        subst hnum
        exact r_numberAt (t := t) (s8 := s8) (by rw [e]; exact t1) (by omega)
      obtain ⟨x1, y1, z1⟩ := c_areMixed (num := num) p1 p2 hc (fun j hj => cn j (by omega))
      obtain ⟨x2, y2, z2⟩ := c_areThings (num := num) hc cn
      obtain ⟨x3, y3, z3⟩ := r_isMixture (m := m) (num := num) p1 (by subst hm; exact p3) hc (fun j hj => rn j m hj hm1)
      rw [p8] at z1
      have m16 : m.1 16 = s11.1 16 := by subst hm; rfl
      rw [m16] at z3
      rw [y1, y3]
      simp only [Option.bind_some]
      unfold f10_found_j46 f10_found_j72
      rw [w8]
      simp only [Option.bind_some]
      by_cases hmix : MixP n (s11.1 16) num c ∧ ThgP num c c
      · have e1 : x1 = 1 := z1.elim (fun e => e.1) (fun e => absurd hmix.1 e.2)
        have e2 : x2 = 1 := z2.elim (fun e => e.1) (fun e => absurd hmix.2 e.2)
        have e3 : x3 = 1 := z3.elim (fun e => e.1) (fun e => absurd hmix e.2)
        subst e1 e2 e3
        rw [if_neg (show ¬ (1 : Int32) = 0 by decide), y2, Option.bind_some, if_neg (show ¬ (1 : Int32) = 0 by decide), if_neg (show ¬ (1 : Int32) = 0 by decide), if_neg (show ¬ (1 : Int32) = 0 by decide)]
        obtain ⟨hmx, hth⟩ := hmix
        obtain ⟨pp, hppd⟩ : ∃ pp : Nat → Nat, pp = fun j => (num j).toNatClampNeg := ⟨_, rfl⟩
        have hpp : ∀ j, j < c → num j = nI (pp j) ∧ pp j < n := fun j hj => by
          obtain ⟨q, hq, e⟩ := nI_of_in (hmx j hj).1.1 (by omega)
          have : pp j = q := by rw [hppd]; show (num j).toNatClampNeg = q; rw [e, nI_clamp (by omega)]
          rw [this]; exact ⟨e, hq⟩
        have hd : ∀ a b, a < c → b < c → pp a = pp b → a = b := by
          intro a b ha hb e
          have e2 : num a = num b := by rw [(hpp a ha).1, (hpp b hb).1, e]
          rcases Nat.lt_trichotomy a b with e3 | e3 | e3
          · exact absurd e2 ((hmx b hb).2 a e3)
          · exact e3
          · exact absurd e2.symm ((hmx a ha).2 b e3)
        obtain ⟨s3', ps, σ, τ, B, c1, c2, c3, c4, c5, c6, c7, c8⟩ := c_answer (s3 := s3) (s4 := s4) (s8 := s8) (num := num) (pp := pp) p1 p2 h0 hc (fun p hp => by rw [p6]; exact (p12 p hp).2.1) cn hpp hd hth
        rw [c1, Option.bind_some]
        obtain ⟨F1, hF1⟩ : ∃ F1 : Nat → Nat → Bool, F1 = fitMB (s4.1 3) (s4.1 1) num c ps := ⟨_, rfl⟩
        obtain ⟨F2, hF2⟩ : ∃ F2 : Nat → Nat → Bool, F2 = fitMB (s11.1 14) (s11.1 12) num c pp := ⟨_, rfl⟩
        rw [← hF1] at c8
        rw [← hF1]
        obtain ⟨m1, hm1d⟩ : ∃ m1 : OS, m1 = wI (wI m 0 68 (nI c)) 0 69 0 := ⟨_, rfl⟩
        simp only [nm_p]
        rw [← hm1d]
        have m11 : m1.1 1 = s11.1 1 := by subst hm1d; exact hm1
        -- the reference's rows are filled
        have key : ∃ r : Int32 × OS, loop (f11_found_l53 (nI c)) ((0 : Int32), m1) = some r ∧ ∃ (B' S' : Nat → Nat → Bool), r.1 = nI (cntA F2 c c 0 noB) ∧ (∀ q, q ≠ 0 → (q < 71 ∨ 77 < q) → r.2.1 q = m1.1 q) ∧ (∀ i, i ≠ 69 → r.2.1 0 i = m1.1 0 i) ∧ r.2.2 = m1.2 ∧ r.2.1 0 69 = nI (cntA F2 c c 0 noB) ∧ (∀ i, i < c → r.2.1 71 i = num i ∧ r.2.1 76 i = nI (mkB (B' i) 16) ∧ r.2.1 77 i = nI (mkB (S' i) 16)) ∧ (∀ x y, x < c → (B' x y = true ↔ mayA F2 c c 0 noB x y)) ∧ ∀ x y, x < c → (S' x y = true ↔ decide (y < 6) = true ∧ ∀ y', mayA F2 c c 0 noB x y' → y' = y) := by
          refine loop_inv c (fun i (t : Int32 × OS) => i ≤ c ∧ t.1 = nI i ∧ (∀ q, (q < 71 ∨ 77 < q) → t.2.1 q = m1.1 q) ∧ t.2.2 = m1.2 ∧ ∀ j, j < i → (t.2.1 71 j = num j ∧ t.2.1 72 j = num (c + 3 * j) ∧ t.2.1 73 j = num (c + 3 * j + 1) ∧ t.2.1 74 j = num (c + 3 * j + 2)) ∧ t.2.1 75 j = 0 ∧ t.2.1 76 j = 0 ∧ t.2.1 77 j = 63) _ ?_ c 0 _ (by omega) ⟨by omega, rfl, fun _ _ => rfl, rfl, fun j hj => by omega⟩
          rintro i ⟨x, v⟩ ⟨hi, f1, f2, f3, f4⟩
          have f1 : x = nI i := f1
          subst f1
          have f2 : ∀ q, (q < 71 ∨ 77 < q) → v.1 q = m1.1 q := f2
          have f3 : v.2 = m1.2 := f3
          have f4 : ∀ j, j < i → (v.1 71 j = num j ∧ v.1 72 j = num (c + 3 * j) ∧ v.1 73 j = num (c + 3 * j + 1) ∧ v.1 74 j = num (c + 3 * j + 2)) ∧ v.1 75 j = 0 ∧ v.1 76 j = 0 ∧ v.1 77 j = 63 := f4
          have v1 : v.1 1 = s11.1 1 := by rw [f2 1 (by decide)]; exact m11
          unfold f11_found_l53
          by_cases hic : i = c
          · right
            subst hic
            have v12 : v.1 12 = s11.1 12 := by rw [f2 12 (by decide), hm1d, hm]; rfl
            have v14 : v.1 14 = s11.1 14 := by rw [f2 14 (by decide), hm1d, hm]; rfl
            have hfit : ∀ st : OS, (∀ r, r ≠ 0 → r ≠ 75 → r ≠ 76 → r ≠ 77 → st.1 r = v.1 r) → ∀ x y, x < i → y < i → f11_isFit (nI x) (nI y) st = some (b1 (F2 x y = true)) := by
              intro st hst x y hx hy
              have g12 : st.1 12 = s11.1 12 := (hst 12 (by decide) (by decide) (by decide) (by decide)).trans v12
              have g14 : st.1 14 = s11.1 14 := (hst 14 (by decide) (by decide) (by decide) (by decide)).trans v14
              have g71 : st.1 71 y = nI (pp y) := by rw [hst 71 (by decide) (by decide) (by decide) (by decide), (f4 y hy).1.1, (hpp y hy).1]
              have g72 : st.1 72 x = num (i + 3 * x) := by rw [hst 72 (by decide) (by decide) (by decide) (by decide), (f4 x hx).1.2.1]
              have g73 : st.1 73 x = num (i + 3 * x + 1) := by rw [hst 73 (by decide) (by decide) (by decide) (by decide), (f4 x hx).1.2.2.1]
              have g74 : st.1 74 x = num (i + 3 * x + 2) := by rw [hst 74 (by decide) (by decide) (by decide) (by decide), (f4 x hx).1.2.2.2]
              have e := @r_isFit st n x y (pp y) (Classical.propDecidable _) p1 (by omega) (by omega) (hpp y hy).2 g71 (by rw [g14]; exact (p12 _ (hpp y hy).2).2.1) (by rw [g72]; exact ⟨(hth x hx).1.1, (hth x hx).1.2⟩)
              rw [e]
              refine congrArg some (@b1_c _ _ (Classical.propDecidable _) _ ?_)
              rw [hF2, fitMB_is, g12, g14, g72, g73, g74]
              exact ⟨fun z => ⟨hy, z⟩, fun z => z.2⟩
            obtain ⟨m', B', S', k1, k2, k3, k4, k5, k6, k7, k8⟩ := od_all (m0 := v) (c := i) (F := F2) (B := fun _ _ => false) (S := fun _ y => decide (y < 6)) (st := v) hc h0 hfit ⟨fun _ _ _ _ _ => rfl, rfl, fun _ _ => rfl, by
              rw [f2 0 (by decide), hm1d]; exact wI_at (s := wI m 0 68 (nI i)) (r := 0) (i := 69), fun j hj => ⟨⟨(f4 j hj).2.1, h0⟩, by rw [(f4 j hj).2.2.1, mk_f0], by rw [(f4 j hj).2.2.2, mk_63]⟩⟩
            refine ⟨(nI (cntA F2 i i 0 noB), m'), ?_, B', S', rfl, fun q h5 h6 => ?_, fun j hj => ?_, k3.trans f3, k5, fun j hj => ⟨?_, k6 j hj⟩, fun x y hx => ?_, fun x y hx => k8 x y hx⟩
            · show (if nI i ≤ nI i then _ else _) = _
              rw [if_pos (show nI i ≤ nI i from nI_le (Nat.le_refl _) (by omega))]
              show Option.map Sum.inr (loop (f11_found_l148 (nI i)) ((1 : Int32), v)) = _
              rw [k1]; rfl
            · show m'.1 q = m1.1 q
              rw [k2 q h5 (by omega) (by omega) (by omega)]; exact f2 q h6
            · show m'.1 0 j = m1.1 0 j
              rw [k4 j hj, f2 0 (by decide)]
            · show m'.1 71 j = num j
              rw [k2 71 (by decide) (by decide) (by decide) (by decide)]; exact (f4 j hj).1.1
            · rw [k7 x y hx]
              exact ⟨fun e => e.elim (fun e => by cases e) id, Or.inr⟩
          · left
            have hlt : i < c := by omega
            refine ⟨hlt, ?_⟩
            show ∃ t, (if nI c ≤ nI i then _ else _) = some (Sum.inl t) ∧ _
            rw [if_neg (nI_ge hlt (by omega))]
            have q1 : ∀ u a, (wI u 71 a (num i)).1 1 = u.1 1 := fun _ _ => rfl
            simp only [nm_p, nI_clamp (n := i) (by omega), inb_n (show i < 6 by omega) (by omega : 6 < 2 ^ 31), chk_p, ix3]
            rw [rn i v (by omega) v1, Option.bind_some, rn (c + 3 * i) (wI v 71 i (num i)) (by omega) v1, Option.bind_some, nI_1, rn (c + 3 * i + 1) (wI (wI v 71 i (num i)) 72 i (num (c + 3 * i))) (by omega) v1, Option.bind_some, show (2 : Int32) = nI 2 from rfl, nI_add, rn (c + 3 * i + 2) (wI (wI (wI v 71 i (num i)) 72 i (num (c + 3 * i))) 73 i (num (c + 3 * i + 1))) (by omega) v1, Option.bind_some, nI_1]
            refine ⟨_, rfl, by omega, rfl, fun q h5 => ?_, f3, fun j hj => ?_⟩
            · rw [← f2 q h5]
              show (if q = 77 then _ else if q = 76 then _ else if q = 75 then _ else if q = 74 then _ else if q = 73 then _ else if q = 72 then _ else if q = 71 then _ else v.1 q) = v.1 q
              rw [if_neg (by omega), if_neg (by omega), if_neg (by omega), if_neg (by omega), if_neg (by omega), if_neg (by omega), if_neg (by omega)]
            · show ((if j = i then num i else v.1 71 j) = num j ∧ (if j = i then num (c + 3 * i) else v.1 72 j) = num (c + 3 * j) ∧ (if j = i then num (c + 3 * i + 1) else v.1 73 j) = num (c + 3 * j + 1) ∧ (if j = i then num (c + 3 * i + 2) else v.1 74 j) = num (c + 3 * j + 2)) ∧ (if j = i then 0 else v.1 75 j) = 0 ∧ (if j = i then 0 else v.1 76 j) = 0 ∧ (if j = i then 63 else v.1 77 j) = 63
              by_cases e : j = i
              · subst e; simp
              · simp only [if_neg e]; exact f4 j (by omega)
        obtain ⟨⟨x, m'⟩, k1, B', S', k2, k3, k4, k5, k6, k7, k8, k9⟩ := key
        have k2 : x = nI (cntA F2 c c 0 noB) := k2
        subst k2
        have k3 : ∀ q, q ≠ 0 → (q < 71 ∨ 77 < q) → m'.1 q = m1.1 q := k3
        have k4 : ∀ i, i ≠ 69 → m'.1 0 i = m1.1 0 i := k4
        have k5 : m'.2 = m1.2 := k5
        have k6 : m'.1 0 69 = nI (cntA F2 c c 0 noB) := k6
        have k7 : ∀ i, i < c → m'.1 71 i = num i ∧ m'.1 76 i = nI (mkB (B' i) 16) ∧ m'.1 77 i = nI (mkB (S' i) 16) := k7
        rw [k1]
        have hFp : ∀ i j, i < c → j < c → F1 i (σ j) = F2 i j := fun i j hi hj => by
          rw [Bool.eq_iff_iff, hF1, hF2, fitMB_is, fitMB_is, c6 j hj, p4, p6]
          exact ⟨fun z => ⟨hj, z.2⟩, fun z => ⟨(c5 j hj).1, z.2⟩⟩
        have hcnt : cntA F1 c c 0 noB = cntA F2 c c 0 noB := cntA_perm c5 hFp c 0 noB noB (by omega) (fun _ _ => rfl)
        have hmay : ∀ x y, y < c → (mayA F1 c c 0 noB x (σ y) ↔ mayA F2 c c 0 noB x y) := fun x y hy => mayA_perm c5 hFp c 0 noB noB x y (by omega) hy (fun _ _ => rfl)
        refine ⟨_, _, rfl, rfl, congrArg nI hcnt, Rel.mix (s8' := wI s8 0 1 0) hN (fun r h5 h6 => ?_) (fun i h5 h6 h7 => ?_) ?_ ?_ ⟨c, hc, c2, ?_, cntA F2 c c 0 noB, ps, pp, B, B', S', k6, ?_, fun j hj => ⟨(c3 j hj).1, (c3 j hj).2, by rw [(k7 j hj).1]; exact (hpp j hj).1, (hpp j hj).2⟩, c4, hd, fun i hi => ⟨⟨c7 i hi, (k7 i hi).2⟩, fun j hj => ⟨?_, ?_⟩, fun u => ?_, fun hA0 j => ?_, fun hA1 => ⟨?_, fun j hj => ?_⟩⟩⟩⟩
        · show m'.1 r = s11.1 r
          rw [k3 r (by omega) h6, hm1d, hm, wI_of (by omega), wI_of (by omega), wI_of (by omega)]
        · show m'.1 0 i = s11.1 0 i
          rw [k4 i h7, hm1d, hm]
          show (if i = 69 then _ else if i = 68 then _ else if i = 1 then _ else s11.1 0 i) = _
          rw [if_neg h7, if_neg h6, if_neg h5]
        · show m'.2 = s11.2
          rw [k5, hm1d, hm]; rfl
        · refine ⟨0, by omega, rfl, ?_, fun i hi => ?_⟩
          · show m'.1 0 1 = _
            rw [k4 1 (by decide), hm1d, hm]; rfl
          · show _ ∧ m'.1 1 i &&& 255 = _
            rw [k3 1 (by decide) (by decide), m11]; exact t1.2.2 i hi
        · show m'.1 0 68 = nI c
          rw [k4 68 (by decide), hm1d]; rfl
        · have e1 := cntA_le (F := F2) hc c 0 noB
          have e2 : (6 : Nat) ^ c ≤ 6 ^ 6 := Nat.pow_le_pow_right (by omega) hc
          omega
        · cases e : B i j
          · rfl
          · have := may_lt _ _ _ _ _ ((c8 i j hi).mp e); omega
        · cases e : B' i j
          · rfl
          · have := may_lt _ _ _ _ _ ((k8 i j hi).mp e); omega
        · constructor
          · rintro ⟨j, g1, g2, g3⟩
            obtain ⟨_, q2, q3, _⟩ := c5 j g1
            refine ⟨τ j, q2, (k8 i (τ j) hi).mpr ((hmay i (τ j) q2).mp ?_), ?_⟩
            · rw [q3]; exact (c8 i j hi).mp g2
            · rw [← c6 (τ j) q2, q3]; exact g3
          · rintro ⟨j, g1, g2, g3⟩
            exact ⟨σ j, (c5 j g1).1, (c8 i (σ j) hi).mpr ((hmay i j g1).mpr ((k8 i j hi).mp g2)), by rw [c6 j g1]; exact g3⟩
        · cases e : B' i j
          · rfl
          · have := may_pos _ _ _ _ _ ((k8 i j hi).mp e); omega
        · obtain ⟨y, hy, hm'⟩ := pos_may c 0 noB hA1 i (Nat.zero_le _) (by omega)
          exact ⟨y, hy, (k8 i y hi).mpr hm'⟩
        · rw [k9 i j hi, decide_eq_true_eq]
          exact ⟨fun e j' hj' => e.2 j' ((k8 i j' hi).mp hj'), fun e => ⟨by omega, fun y' hy' => e y' ((k8 i y' hi).mpr hy')⟩⟩
      · have e3 : x3 = 0 := z3.elim (fun e => absurd e.2 hmix) (fun e => e.1)
        subst e3
        have hR : Rel (k + 1) s0 s1 s2 s3 s4 s5 s6 s7 (wI s8 0 1 0) s9 s10 m := (Rel.ofN (s6 := s6) hNm).same
        rw [if_pos (show (0 : Int32) = 0 from rfl)]
        rcases z1 with ⟨rfl, e1⟩ | ⟨rfl, e1⟩
        · have e2 : x2 = 0 := z2.elim (fun e => absurd ⟨e1, e.2⟩ hmix) (fun e => e.1)
          subst e2
          rw [if_neg (show ¬ (1 : Int32) = 0 by decide), y2, Option.bind_some, if_pos (show (0 : Int32) = 0 from rfl)]
          exact ⟨_, _, rfl, rfl, rfl, hR⟩
        · rw [if_pos (show (0 : Int32) = 0 from rfl)]
          exact ⟨_, _, rfl, rfl, rfl, hR⟩
    · rw [if_pos (show nI t < nI (16 * c) from nI_lt (by omega) (by omega)), if_neg (show ¬ nI (16 * c) ≤ nI t from nI_ge (by omega) (by omega)), show chk (isB (0 : Int32)) (some (0 : Int32)) = some 0 from rfl, Option.bind_some, if_pos rfl]
      exact ⟨_, _, rfl, rfl, rfl, h.same⟩
  · rw [if_neg h1, if_neg (show ¬ ((1 : Int64).toInt ≤ a1.toInt ∧ a1.toInt ≤ (6 : Int64).toInt) from h1)]
    exact ⟨_, _, rfl, rfl, rfl, h.same⟩
