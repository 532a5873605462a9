-- where: what the class reaches
def In36 (w : Nat → Nat → Nat) (s : OS) (a B i : Nat) (b : Nat → Bool) (u : OS) (D : Nat → Nat) : Prop := St2 s u D ∧ (∀ j, j < 16 → D j = 1000000 ∨ ∃ n, Wn w n a j (D j)) ∧ D a = 0 ∧ (∀ x, x < 16 → b x = true → D x ≤ B ∧ ∀ v, v < 16 → D v ≤ D x + w x v) ∧ (∀ x v, x < 16 → v < 16 → b x = true → b v = false → D x ≤ D v) ∧ ((∀ v, v < 16 → b v = false → B < D v) ∨ i ≤ cntB b 16)
theorem in36_end {w : Nat → Nat → Nat} {s u : OS} {a B : Nat} {b : Nat → Bool} {D : Nat → Nat} (ha : a < 16) (hB : B < 1000000) (h : In36 w s a B 16 b u D) {v : Nat} (hv : v < 16) : b v = true ↔ Ck w 16 a v B := by
  obtain ⟨h1, h2, h3, h4, h5, h6⟩ := h
  have h6 : ∀ v, v < 16 → b v = false → B < D v := by
    rcases h6 with h6 | h6
    · exact h6
    · intro v hv hb
      rw [cntB_all 16 h6 v hv] at hb; cases hb
  have hst : ∀ v, v < 16 → D v ≤ B → b v = true := by
    intro v hv hd
    cases hb : b v
    · have := h6 v hv hb; omega
    · rfl
  constructor
  · intro hb
    have hd := (h4 v hv hb).1
    rcases h2 v hv with e | ⟨n, hn⟩
    · omega
    · exact Ck_mono (walk_Ck hn) hd
  · intro hc
    obtain ⟨n, hn⟩ := Ck_walk (Nat.le_refl _) ha hv hc
    have : ∀ n v L, v < 16 → L ≤ B → Wn w n a v L → D v ≤ L := by
      intro n
      induction n with
      | zero =>
        intro v L hv hL hn
        have hn : a = v := hn
        subst hn; omega
      | succ n ih =>
        intro v L hv hL hn
        obtain ⟨y, c, hy, hc, hle⟩ := hn
        have hd := ih y c hy (by omega) hc
        have hb := hst y hy (by omega)
        have := (h4 y hy hb).2 v hv
        omega
    exact hst v hv (this n v B hv (Nat.le_refl _) hn)
theorem in36_set {w : Nat → Nat → Nat} {s u u' : OS} {a B i q : Nat} {b : Nat → Bool} {D : Nat → Nat} (ha : a < 16) (hq : q < 16) (hB : B < 1000000) (h : In36 w s a B i b u D) (hb : b q = false) (hmin : ∀ j, j < 16 → b j = false → D q ≤ D j) (hle : D q ≤ B) (hu : St2 s u' (fun j => min (D j) (D q + w q j))) : In36 w s a B (i + 1) (fun j => b j || decide (j = q)) u' (fun j => min (D j) (D q + w q j)) := by
  obtain ⟨h1, h2, h3, h4, h5, h6⟩ := h
  have hbx : ∀ x, (b x || decide (x = q)) = true → b x = true ∨ x = q := by
    intro x e
    cases hx : b x
    · rw [hx] at e
      exact Or.inr (by simpa using e)
    · exact Or.inl rfl
  have hbf : ∀ x, (b x || decide (x = q)) = false → b x = false ∧ x ≠ q := by
    intro x e
    cases hx : b x
    · rw [hx] at e
      exact ⟨rfl, by simpa using e⟩
    · rw [hx] at e; cases e
  have hDx : ∀ x, x < 16 → (b x = true ∨ x = q) → D x ≤ D q := by
    intro x hx e
    rcases e with e | e
    · exact h5 x q hx hq e hb
    · subst e; exact Nat.le_refl _
  refine ⟨hu, fun j hj => ?_, ?_, fun x hx e => ?_, fun x v hx hv e e2 => ?_, Or.inr ?_⟩
  · show min (D j) (D q + w q j) = 1000000 ∨ ∃ n, Wn w n a j (min (D j) (D q + w q j))
    by_cases c : D j ≤ D q + w q j
    · rw [Nat.min_eq_left c]; exact h2 j hj
    · rw [Nat.min_eq_right (by omega)]
      rcases h2 q hq with e | ⟨n, hn⟩
      · omega
      · exact Or.inr ⟨n + 1, q, D q, hq, hn, Nat.le_refl _⟩
  · show min (D a) _ = 0
    rw [h3]; omega
  · have hd := hDx x hx (hbx x e)
    refine ⟨?_, fun v hv => ?_⟩
    · show min (D x) (D q + w q x) ≤ B
      omega
    · show min (D v) (D q + w q v) ≤ min (D x) (D q + w q x) + w x v
      rw [show min (D x) (D q + w q x) = D x by omega]
      rcases hbx x e with e | e
      · have := (h4 x hx e).2 v hv; omega
      · subst e; omega
  · have hd := hDx x hx (hbx x e)
    obtain ⟨e3, e4⟩ := hbf v e2
    have hm := hmin v hv e3
    show min (D x) (D q + w q x) ≤ min (D v) (D q + w q v)
    omega
  · rw [cntB_set hb, if_pos hq]
    rcases h6 with h6 | h6
    · have := h6 q hq hb; omega
    · omega
theorem c_reachable {w : Nat → Nat → Nat} {s : OS} {a B : Nat} (ha : a < 16) (hB : B < 1000000) (hw : WwR s w) : ∃ b s', f9_reachable (nI a) (nI B) s = some (nI (mkB b 16), s') ∧ (∀ r, r ≠ 2 → s'.1 r = s.1 r) ∧ s'.2 = s.2 ∧ ∀ v, v < 16 → (b v = true ↔ Ck w 16 a v B) := by
  have key36 : ∀ u, St2 s u (fun j => if j = a then 0 else 1000000) → ∃ r, loop (f9_reachable_l36 (nI B)) ((0 : Int32), (0 : Int32), u) = some r ∧ ∃ b s', r = (nI (mkB b 16), s') ∧ (∀ r, r ≠ 2 → s'.1 r = s.1 r) ∧ s'.2 = s.2 ∧ ∀ v, v < 16 → (b v = true ↔ Ck w 16 a v B) := by
    intro u hu
    refine loop_inv 16 (fun i t => i ≤ 16 ∧ t.2.1 = nI i ∧ ∃ b D, t.1 = nI (mkB b 16) ∧ In36 w s a B i b t.2.2 D) _ ?_ 16 0 _ (by omega) ⟨by omega, rfl, fun _ => false, _, rfl, hu, fun j hj => ?_, ?_, fun x hx e => (by cases e), fun x v hx hv e => (by cases e), Or.inr (Nat.zero_le _)⟩
    · rintro i ⟨x, y, v⟩ ⟨hi, e1, b, D, e2, hI⟩
      have e1 : y = nI i := e1
      have e2 : x = nI (mkB b 16) := e2
      subst e1 e2
      have hI : In36 w s a B i b v D := hI
      unfold f9_reachable_l36 f9_reachable_j82
      by_cases h16 : i = 16
      · right
        subst h16
        refine ⟨_, ?_, b, v, rfl, hI.1.1, hI.1.2.1, fun x hx => in36_end ha hB hI hx⟩
        show (if (16 : Int32) ≤ nI 16 then _ else _) = _
        rw [if_pos (show (16 : Int32) ≤ nI 16 from by decide)]; rfl
      · left
        have hlt : i < 16 := by omega
        refine ⟨hlt, ?_⟩
        show ∃ t, (if (16 : Int32) ≤ nI i then _ else _) = some (Sum.inl t) ∧ _
        rw [if_neg (show ¬ (16 : Int32) ≤ nI i from nI_ge (a := i) (b := 16) hlt (by omega))]
        obtain ⟨r, hr, hq⟩ := c_nearest (b := b) hI.1
        simp only [hr, Option.bind_some, c_isPlace, if_b1, nm_p, nI_1]
        rcases hq with ⟨rfl, hall⟩ | ⟨q, hq, rfl, hb, hmin⟩
        · rw [if_neg (by decide)]
          obtain ⟨z1, z2, z3, z4, z5, z6⟩ := hI
          exact ⟨_, rfl, by omega, rfl, b, D, rfl, z1, z2, z3, z4, z5, Or.inl (fun v hv hb => by rw [hall v hv] at hb; cases hb)⟩
        · have hd := hI.1.2.2 q hq
          rw [if_pos (by rw [nI_toInt (by omega)]; omega)]
          simp only [nI_clamp (n := q) (by omega), inb_n hq (by omega : 16 < 2 ^ 31), chk_p, hd.1]
          by_cases hle : D q ≤ B
          · obtain ⟨u', k1, k2⟩ := c_goOn hq hw hI.1
            rw [if_neg (nI_nlt hle (by omega)), k1, Option.bind_some]
            exact ⟨_, rfl, by omega, rfl, _, _, mkB_set hq, in36_set ha hq hB hI hb hmin hle k2⟩
          · rw [if_pos (nI_lt (by omega) (by omega))]
            obtain ⟨z1, z2, z3, z4, z5, z6⟩ := hI
            exact ⟨_, rfl, by omega, rfl, b, D, rfl, z1, z2, z3, z4, z5, Or.inl (fun v hv hb => by have := hmin v hv hb; omega)⟩
    · show (if j = a then 0 else 1000000) = 1000000 ∨ ∃ n, Wn w n a j (if j = a then 0 else 1000000)
      by_cases e : j = a
      · rw [if_pos e]; exact Or.inr ⟨0, e.symm⟩
      · rw [if_neg e]; exact Or.inl rfl
    · show (if a = a then 0 else 1000000) = 0
      rw [if_pos rfl]
  unfold f9_reachable
  have key : ∃ r, loop (f9_reachable_l2 (nI a) (nI B)) ((0 : Int32), s) = some r ∧ ∃ b s', r = (nI (mkB b 16), s') ∧ (∀ r, r ≠ 2 → s'.1 r = s.1 r) ∧ s'.2 = s.2 ∧ ∀ v, v < 16 → (b v = true ↔ Ck w 16 a v B) := by
    refine loop_inv 16 (fun i t => i ≤ 16 ∧ t.1 = nI i ∧ (∀ r, r ≠ 2 → t.2.1 r = s.1 r) ∧ t.2.2 = s.2 ∧ ∀ j, j < i → t.2.1 2 j = nI (if j = a then 0 else 1000000)) _ ?_ 16 0 _ (by omega) ⟨by omega, rfl, fun _ _ => rfl, rfl, fun j hj => by omega⟩
    rintro i ⟨x, u⟩ ⟨hi, e, f1, f2, f3⟩
    have e : x = nI i := e
    subst e
    have f1 : ∀ r, r ≠ 2 → u.1 r = s.1 r := f1
    have f2 : u.2 = s.2 := f2
    have f3 : ∀ j, j < i → u.1 2 j = nI (if j = a then 0 else 1000000) := f3
    unfold f9_reachable_l2 f9_reachable_j24
    by_cases h16 : i = 16
    · right
      subst h16
      obtain ⟨r, k1, k2⟩ := key36 u ⟨f1, f2, fun j hj => ⟨f3 j hj, by
        show (if j = a then 0 else 1000000) ≤ 1000000
        by_cases e : j = a
        · rw [if_pos e]; omega
        · rw [if_neg e]; omega⟩⟩
      refine ⟨r, ?_, k2⟩
      show (if (16 : Int32) ≤ nI 16 then _ else _) = _
      rw [if_pos (show (16 : Int32) ≤ nI 16 from by decide), k1]; rfl
    · left
      have hlt : i < 16 := by omega
      refine ⟨hlt, ?_⟩
      show ∃ t, (if (16 : Int32) ≤ nI i then _ else _) = some (Sum.inl t) ∧ _
      rw [if_neg (show ¬ (16 : Int32) ≤ nI i from nI_ge (a := i) (b := 16) hlt (by omega))]
      simp only [nI_clamp (n := i) (by omega), inb_n hlt (by omega : 16 < 2 ^ 31), chk_p, nm_p, nI_1]
      have fin : ∀ z : Nat, z = (if i = a then 0 else 1000000) → (i + 1 ≤ 16 ∧ nI (i + 1) = nI (i + 1) ∧ (∀ r, r ≠ 2 → (wI u 2 i (nI z)).1 r = s.1 r) ∧ (wI u 2 i (nI z)).2 = s.2 ∧ ∀ j, j < i + 1 → (wI u 2 i (nI z)).1 2 j = nI (if j = a then 0 else 1000000)) := by
        intro z hz
        refine ⟨by omega, rfl, fun r hr => ?_, f2, fun j hj => ?_⟩
        · show (if r = 2 then _ else u.1 r) = s.1 r
          rw [if_neg hr]; exact f1 r hr
        · show (if j = i then nI z else u.1 2 j) = _
          by_cases e : j = i
          · subst e; rw [if_pos rfl, hz]
          · rw [if_neg e]; exact f3 j (by omega)
      by_cases e : i = a
      · rw [if_pos (congrArg nI e)]
        exact ⟨_, rfl, fin 0 (by rw [if_pos e])⟩
      · rw [if_neg (fun e2 => e ((nI_eq (by omega) (by omega)).mp e2))]
        exact ⟨_, rfl, fin 1000000 (by rw [if_neg e])⟩
  obtain ⟨r, k1, b, s', rfl, k2⟩ := key
  exact ⟨b, s', k1, k2⟩
