-- where: the class's nearest places
theorem mkB_bit (b : Nat → Bool) : ∀ n j, (mkB b n).testBit j = (decide (j < n) && b j)
  | 0, j => by
    show Nat.testBit 0 j = _
    rw [Nat.zero_testBit]; simp
  | n + 1, j => by
    show (mkB b n ||| (if b n = true then 2 ^ n else 0)).testBit j = _
    rw [Nat.testBit_or, mkB_bit b n j]
    by_cases hb : b n = true
    · rw [if_pos hb, Nat.testBit_two_pow]
      by_cases e : n = j
      · subst e; simp [hb]
      · have : (j < n + 1) ↔ (j < n) := by omega
        simp [e, this]
    · rw [if_neg hb, Nat.zero_testBit]
      by_cases e : j = n
      · subst e
        have hb' : b j = false := by simpa using hb
        simp [hb']
      · have : (j < n + 1) ↔ (j < n) := by omega
        simp [this]
theorem mkB_lt (b : Nat → Bool) : ∀ n, mkB b n < 2 ^ n
  | 0 => by show 0 < 1; omega
  | n + 1 => by
    refine Nat.or_lt_two_pow (Nat.lt_of_lt_of_le (mkB_lt b n) (Nat.pow_le_pow_right (by omega) (by omega))) ?_
    by_cases hb : b n = true
    · rw [if_pos hb]; exact Nat.pow_lt_pow_right (by omega) (by omega)
    · rw [if_neg hb]; exact Nat.two_pow_pos _
theorem mkB_congr {b c : Nat → Bool} : ∀ n, (∀ j, j < n → b j = c j) → mkB b n = mkB c n
  | 0, _ => rfl
  | n + 1, h => by
    show mkB b n ||| (if b n = true then 2 ^ n else 0) = mkB c n ||| (if c n = true then 2 ^ n else 0)
    rw [mkB_congr n (fun j hj => h j (by omega)), h n (by omega)]
theorem nI_or {a b : Nat} (ha : a < 2 ^ 31) (hb : b < 2 ^ 31) : nI a ||| nI b = nI (a ||| b) := by
  apply Int32.toBitVec_inj.mp
  apply BitVec.eq_of_toNat_eq
  show ((nI a).toBitVec ||| (nI b).toBitVec).toNat = _
  have hc : a ||| b < 2 ^ 31 := Nat.or_lt_two_pow ha hb
  rw [BitVec.toNat_or, pk_tn (by omega), pk_tn (by omega), pk_tn (by omega)]
theorem one_shl {q : Nat} (hq : q < 16) : (1 : Int32) <<< (nI q &&& 31) = nI (2 ^ q) := by
  have : ∀ q : Fin 16, (1 : Int32) <<< (nI q.1 &&& 31) = nI (2 ^ q.1) := by decide
  exact this ⟨q, hq⟩
theorem mkB_set {b : Nat → Bool} {q : Nat} (hq : q < 16) : nI (mkB b 16) ||| (1 : Int32) <<< (nI q &&& 31) = nI (mkB (fun j => b j || decide (j = q)) 16) := by
  have h1 := mkB_lt b 16
  have h2 : 2 ^ q < 2 ^ 16 := Nat.pow_lt_pow_right (by omega) hq
  rw [one_shl hq, nI_or (by omega) (by omega)]
  congr 1
  apply Nat.eq_of_testBit_eq
  intro j
  rw [Nat.testBit_or, mkB_bit, mkB_bit, Nat.testBit_two_pow]
  by_cases e : q = j
  · subst e; simp [hq]
  · have e' : ¬ j = q := fun h => e h.symm
    simp [e, e']
theorem mkB_test {b : Nat → Bool} {j : Nat} (hj : j < 16) : ((nI (mkB b 16) >>> (nI j &&& 31)) &&& (1 : Int32) = 0) ↔ b j = false := by
  have h1 := mkB_lt b 16
  have hs : ∀ j : Fin 16, ((nI j.1 &&& 31 : Int32).toBitVec.smod 32).toNat = j.1 := by decide
  have h2 : mkB b 16 / 2 ^ j ≤ mkB b 16 := Nat.div_le_self _ _
  rw [pk_shrN (by omega) _ j (hs ⟨j, hj⟩), pk_andN (by omega) 1 (by decide)]
  have h3 := mkB_bit b 16 j
  rw [Nat.testBit_eq_decide_div_mod_eq] at h3
  have h4 := Nat.mod_lt (mkB b 16 / 2 ^ j) (show 0 < 2 by omega)
  rw [show (2 : Nat) ^ 1 = 2 from rfl, show ((0 : Int32)) = nI 0 from rfl, nI_eq (by omega) (by omega)]
  cases hb : b j
  · rw [hb] at h3
    simp [hj] at h3
    constructor
    · intro _; rfl
    · intro _; omega
  · rw [hb] at h3
    simp [hj] at h3
    constructor
    · intro e; omega
    · intro e; cases e
def cntB (b : Nat → Bool) : Nat → Nat
  | 0 => 0
  | n + 1 => cntB b n + if b n = true then 1 else 0
theorem cntB_le (b : Nat → Bool) : ∀ n, cntB b n ≤ n
  | 0 => Nat.le_refl _
  | n + 1 => by
    show cntB b n + (if b n = true then 1 else 0) ≤ n + 1
    have := cntB_le b n
    by_cases h : b n = true
    · rw [if_pos h]; omega
    · rw [if_neg h]; omega
theorem cntB_all {b : Nat → Bool} : ∀ n, n ≤ cntB b n → ∀ j, j < n → b j = true
  | 0, _, _, hj => by omega
  | n + 1, h, j, hj => by
    have h : n + 1 ≤ cntB b n + (if b n = true then 1 else 0) := h
    have h1 := cntB_le b n
    by_cases hb : b n = true
    · rw [if_pos hb] at h
      by_cases e : j = n
      · subst e; exact hb
      · exact cntB_all n (by omega) j (by omega)
    · rw [if_neg hb] at h; omega
theorem cntB_set {b : Nat → Bool} {q : Nat} (hb : b q = false) : ∀ n, cntB (fun j => b j || decide (j = q)) n = cntB b n + if q < n then 1 else 0
  | 0 => rfl
  | n + 1 => by
    show cntB (fun j => b j || decide (j = q)) n + (if (b n || decide (n = q)) = true then 1 else 0) = cntB b n + (if b n = true then 1 else 0) + _
    rw [cntB_set hb n]
    by_cases e : n = q
    · subst e; simp [hb]
    · have : (q < n + 1) ↔ (q < n) := by omega
      simp only [e, decide_false, Bool.or_false, this]
      omega
/-- the travels with distances D -/
def St2 (s u : OS) (D : Nat → Nat) : Prop := (∀ r, r ≠ 2 → u.1 r = s.1 r) ∧ u.2 = s.2 ∧ ∀ j, j < 16 → u.1 2 j = nI (D j) ∧ D j ≤ 1000000
theorem c_nearest {s u : OS} {D : Nat → Nat} {b : Nat → Bool} (h : St2 s u D) : ∃ r, f9_nearestBut (nI (mkB b 16)) u = some r ∧ ((r = -1 ∧ ∀ j, j < 16 → b j = true) ∨ ∃ q, q < 16 ∧ r = nI q ∧ b q = false ∧ ∀ j, j < 16 → b j = false → D q ≤ D j) := by
  unfold f9_nearestBut
  have key : ∃ r, loop (f9_nearestBut_l4 (nI (mkB b 16)) u) ((-1 : Int32), (0 : Int32)) = some r ∧ ((r = -1 ∧ ∀ j, j < 16 → b j = true) ∨ ∃ q, q < 16 ∧ r = nI q ∧ b q = false ∧ ∀ j, j < 16 → b j = false → D q ≤ D j) := by
    refine loop_inv 16 (fun i s => i ≤ 16 ∧ s.2 = nI i ∧ ((s.1 = -1 ∧ ∀ j, j < i → b j = true) ∨ ∃ q, q < i ∧ s.1 = nI q ∧ b q = false ∧ ∀ j, j < i → b j = false → D q ≤ D j)) _ ?_ 16 0 _ (by omega) ⟨by omega, rfl, Or.inl ⟨rfl, fun j hj => by omega⟩⟩
    rintro i ⟨x, y⟩ ⟨hi, e, hx⟩
    have e : y = nI i := e
    subst e
    unfold f9_nearestBut_l4 f9_nearestBut_j38 f9_nearestBut_j40
    by_cases h16 : i = 16
    · right
      subst h16
      refine ⟨x, ?_, hx⟩
      show (if (16 : Int32) ≤ nI 16 then _ else _) = _
      rw [if_pos (show (16 : Int32) ≤ nI 16 from by decide)]; rfl
    · left
      have hlt : i < 16 := by omega
      refine ⟨hlt, ?_⟩
      show ∃ t, (if (16 : Int32) ≤ nI i then _ else _) = some (Sum.inl t) ∧ _
      rw [if_neg (show ¬ (16 : Int32) ≤ nI i from nI_ge (a := i) (b := 16) hlt (by omega))]
      by_cases hb : b i = false
      · simp only [if_pos (mkB_test (b := b) hlt |>.mpr hb)]
        by_cases hx1 : x = -1
        · rw [if_pos hx1, nm_p, nI_1]
          refine ⟨_, rfl, by omega, rfl, Or.inr ⟨i, by omega, rfl, hb, fun j hj hbj => ?_⟩⟩
          rcases hx with ⟨_, hx⟩ | ⟨q, hq, hx, _⟩
          · by_cases e : j = i
            · subst e; exact Nat.le_refl _
            · rw [hx j (by omega)] at hbj; cases hbj
          · have hx : x = nI q := hx
            rw [hx1] at hx
            have e := congrArg Int32.toInt hx
            rw [nI_toInt (by omega)] at e
            have e : (-1 : Int) = q := e
            omega
        · rw [if_neg hx1]
          rcases hx with ⟨hx, _⟩ | ⟨q, hq, hx, hbq, hmin⟩
          · exact absurd hx hx1
          · have hx : x = nI q := hx
            subst hx
            have h1 := h.2.2 i hlt
            have h2 := h.2.2 q (by omega)
            simp only [nI_clamp (n := i) (by omega), nI_clamp (n := q) (by omega), inb_n hlt (by omega : 16 < 2 ^ 31), inb_n (show q < 16 by omega) (by omega : 16 < 2 ^ 31), chk_p, nm_p, h1.1, h2.1, nI_1]
            by_cases hle : D q ≤ D i
            · rw [if_pos (nI_le hle (by omega))]
              refine ⟨_, rfl, by omega, rfl, Or.inr ⟨q, by omega, rfl, hbq, fun j hj hbj => ?_⟩⟩
              by_cases e : j = i
              · subst e; exact hle
              · exact hmin j (by omega) hbj
            · rw [if_neg (nI_ge (by omega) (by omega))]
              refine ⟨_, rfl, by omega, rfl, Or.inr ⟨i, by omega, rfl, hb, fun j hj hbj => ?_⟩⟩
              by_cases e : j = i
              · subst e; exact Nat.le_refl _
              · have := hmin j (by omega) hbj; omega
      · have hb' : b i = true := by simpa using hb
        rw [if_neg (fun e => hb ((mkB_test (b := b) hlt).mp e)), nm_p, nI_1]
        refine ⟨_, rfl, by omega, rfl, ?_⟩
        rcases hx with ⟨hx, hall⟩ | ⟨q, hq, hx, hbq, hmin⟩
        · exact Or.inl ⟨hx, fun j hj => by
            by_cases e : j = i
            · subst e; exact hb'
            · exact hall j (by omega)⟩
        · refine Or.inr ⟨q, by omega, hx, hbq, fun j hj hbj => ?_⟩
          by_cases e : j = i
          · subst e; rw [hb'] at hbj; cases hbj
          · exact hmin j (by omega) hbj
  exact key
/-- ways and their weights -/
def WwR (s : OS) (w : Nat → Nat → Nat) : Prop := ∀ i j, i < 16 → j < 16 → (s.1 1 (i * 16 + j) = 0 ∧ w i j = 1000000) ∨ (1 ≤ w i j ∧ w i j ≤ 1000 ∧ s.1 1 (i * 16 + j) = nI (w i j))
theorem c_goOn {s u : OS} {w : Nat → Nat → Nat} {D : Nat → Nat} {q : Nat} (hq : q < 16) (hw : WwR s w) (h : St2 s u D) : ∃ u', f9_goOnFrom (nI q) u = some u' ∧ St2 s u' (fun j => min (D j) (D q + w q j)) := by
  unfold f9_goOnFrom
  rw [c_isPlace, Option.bind_some, if_b1, if_pos (by rw [nI_toInt (by omega)]; omega)]
  have key : ∃ r, loop (f9_goOnFrom_l10 (nI q)) ((0 : Int32), u) = some r ∧ St2 s r (fun j => min (D j) (D q + w q j)) := by
    refine loop_inv 16 (fun i s' => i ≤ 16 ∧ s'.1 = nI i ∧ St2 s s'.2 (fun j => if j < i then min (D j) (D q + w q j) else D j)) _ ?_ 16 0 _ (by omega) ⟨by omega, rfl, h.1, h.2.1, fun j hj => by
      show u.1 2 j = nI (if j < 0 then _ else D j) ∧ (if j < 0 then _ else D j) ≤ 1000000
      rw [if_neg (by omega)]; exact h.2.2 j hj⟩
    rintro i ⟨x, v⟩ ⟨hi, e, f1, f2, f3⟩
    have e : x = nI i := e
    subst e
    have f1 : ∀ r, r ≠ 2 → v.1 r = s.1 r := f1
    have f2 : v.2 = s.2 := f2
    have f3 : ∀ j, j < 16 → v.1 2 j = nI (if j < i then min (D j) (D q + w q j) else D j) ∧ (if j < i then min (D j) (D q + w q j) else D j) ≤ 1000000 := f3
    unfold f9_goOnFrom_l10 f9_goOnFrom_j55
    by_cases h16 : i = 16
    · right
      subst h16
      refine ⟨v, ?_, f1, f2, fun j hj => ?_⟩
      · show (if (16 : Int32) ≤ nI 16 then _ else _) = _
        rw [if_pos (show (16 : Int32) ≤ nI 16 from by decide)]; rfl
      · have := f3 j hj
        rw [if_pos hj] at this
        exact this
    · left
      have hlt : i < 16 := by omega
      refine ⟨hlt, ?_⟩
      have ix : nI q * (16 : Int32) + nI i = nI (q * 16 + i) := by rw [show (16 : Int32) = nI 16 from rfl, pk_mul, nI_add]
      have hD := (h.2.2 i hlt).2
      have hDq := (h.2.2 q hq).2
      have g0 := f3 i hlt
      rw [if_neg (by omega)] at g0
      have gq : v.1 2 q = nI (D q) := by
        have := (f3 q hq).1
        by_cases e : q < i
        · rw [if_pos e] at this
          rw [this]; congr 1; omega
        · rw [if_neg e] at this; exact this
      have next : ∀ z : Nat, z = min (D i) (D q + w q i) → (∀ v' : OS, (∀ r, r ≠ 2 → v'.1 r = s.1 r) → v'.2 = s.2 → (∀ j, v'.1 2 j = if j = i then nI z else v.1 2 j) → i + 1 ≤ 16 ∧ nI (i + 1) = nI (i + 1) ∧ St2 s v' (fun j => if j < i + 1 then min (D j) (D q + w q j) else D j)) := by
        intro z hz v' k1 k2 k3
        refine ⟨by omega, rfl, k1, k2, fun j hj => ?_⟩
        show v'.1 2 j = nI (if j < i + 1 then min (D j) (D q + w q j) else D j) ∧ (if j < i + 1 then min (D j) (D q + w q j) else D j) ≤ 1000000
        rw [k3]
        by_cases e : j = i
        · subst e; rw [if_pos rfl, if_pos (by omega), hz]; exact ⟨rfl, by omega⟩
        · rw [if_neg e]
          have := f3 j hj
          by_cases e2 : j < i
          · rw [if_pos e2] at this; rw [if_pos (by omega)]; exact this
          · rw [if_neg e2] at this; rw [if_neg (by omega)]; exact this
      show ∃ t, (if (16 : Int32) ≤ nI i then _ else _) = some (Sum.inl t) ∧ _
      rw [if_neg (show ¬ (16 : Int32) ≤ nI i from nI_ge (a := i) (b := 16) hlt (by omega))]
      simp only [ix, nI_clamp (n := q * 16 + i) (by omega), nI_clamp (n := q) (by omega), nI_clamp (n := i) (by omega), inb_n (show q * 16 + i < 256 by omega) (by omega : 256 < 2 ^ 31), inb_n hlt (by omega : 16 < 2 ^ 31), inb_n hq (by omega : 16 < 2 ^ 31), chk_p, nm_p, f1 1 (by decide), g0.1, gq, nI_1]
      rcases hw q i hq hlt with ⟨w1, w2⟩ | ⟨w1, w2, w3⟩
      · rw [w1, if_pos (by decide)]
        refine ⟨_, rfl, next (D i) (by omega) v f1 f2 (fun j => ?_)⟩
        by_cases e : j = i
        · subst e; rw [if_pos rfl, g0.1]
        · rw [if_neg e]
      · rw [w3, if_neg (show ¬ nI (w q i) ≤ 0 from nI_ge (a := 0) (b := w q i) (by omega) (by omega)), nI_add]
        have e : (if nI (D q + w q i) < nI (D i) then nI (D q + w q i) else nI (D i)) = nI (min (D i) (D q + w q i)) := by
          by_cases c : D q + w q i < D i
          · rw [if_pos (nI_lt c (by omega))]; congr 1; omega
          · rw [if_neg (nI_nlt (by omega) (by omega))]; congr 1; omega
        rw [e]
        refine ⟨_, rfl, next _ rfl _ (fun r hr => ?_) f2 (fun j => rfl)⟩
        show (if r = 2 then _ else v.1 r) = s.1 r
        rw [if_neg hr]; exact f1 r hr
  exact key
