-- found: the reference's odometer
def usd (e : Nat → Nat) : Nat → (Nat → Bool)
  | 0 => fun _ => false
  | k + 1 => addB (usd e k) (e k)
def ansB (F : Nat → Nat → Bool) (e : Nat → Nat) : Nat → Bool
  | 0 => true
  | k + 1 => ansB F e k && (F k (e k) && !usd e k (e k))
theorem usd_is {e : Nat → Nat} : ∀ k y, usd e k y = true ↔ ∃ i, i < k ∧ e i = y
  | 0, y => ⟨fun h => (by cases h), fun ⟨i, hi, _⟩ => by omega⟩
  | k + 1, y => by
    show (usd e k y || decide (y = e k)) = true ↔ _
    rw [Bool.or_eq_true, decide_eq_true_eq, usd_is k y]
    constructor
    · rintro (⟨i, h1, h2⟩ | h)
      · exact ⟨i, by omega, h2⟩
      · exact ⟨k, by omega, h.symm⟩
    · rintro ⟨i, h1, h2⟩
      by_cases c : i = k
      · subst c; exact Or.inr h2.symm
      · exact Or.inl ⟨i, by omega, h2⟩
theorem usd_congr {e e' : Nat → Nat} : ∀ k, (∀ i, i < k → e i = e' i) → usd e k = usd e' k
  | 0, _ => rfl
  | k + 1, h => by
    show addB (usd e k) (e k) = addB (usd e' k) (e' k)
    rw [usd_congr k (fun i hi => h i (by omega)), h k (by omega)]
theorem ansB_congr {F : Nat → Nat → Bool} {e e' : Nat → Nat} : ∀ k, (∀ i, i < k → e i = e' i) → ansB F e k = ansB F e' k
  | 0, _ => rfl
  | k + 1, h => by
    show (ansB F e k && (F k (e k) && !usd e k (e k))) = (ansB F e' k && (F k (e' k) && !usd e' k (e' k)))
    rw [ansB_congr k (fun i hi => h i (by omega)), usd_congr k (fun i hi => h i (by omega)), h k (by omega)]
theorem ansB_is {F : Nat → Nat → Bool} {e : Nat → Nat} : ∀ k, ansB F e k = true ↔ ∀ i, i < k → F i (e i) = true ∧ ∀ j, j < i → ¬ e j = e i
  | 0 => ⟨fun _ i hi => by omega, fun _ => rfl⟩
  | k + 1 => by
    show (ansB F e k && (F k (e k) && !usd e k (e k))) = true ↔ _
    rw [Bool.and_eq_true, Bool.and_eq_true, ansB_is k, Bool.not_eq_true']
    have hu : usd e k (e k) = false ↔ ∀ j, j < k → ¬ e j = e k := by
      cases h : usd e k (e k)
      · refine ⟨fun _ j hj hh => ?_, fun _ => rfl⟩
        have := (usd_is (e := e) k (e k)).mpr ⟨j, hj, hh⟩
        rw [h] at this; cases this
      · obtain ⟨j, hj, hh⟩ := (usd_is k (e k)).mp h
        exact ⟨fun e2 => (by cases e2), fun e2 => absurd hh (e2 j hj)⟩
    rw [hu]
    constructor
    · rintro ⟨h1, h2, h3⟩ i hi
      by_cases c : i = k
      · subst c; exact ⟨h2, h3⟩
      · exact h1 i (by omega)
    · intro h
      exact ⟨fun i hi => h i (by omega), (h k (by omega)).1, (h k (by omega)).2⟩
theorem r_isAnswer {m : OS} {c : Nat} {e : Nat → Nat} {F : Nat → Nat → Bool} (hc : c ≤ 6) (h75 : ∀ i, i < c → m.1 75 i = nI (e i) ∧ e i < c) (hfit : ∀ i j, i < c → j < c → f11_isFit (nI i) (nI j) m = some (b1 (F i j = true))) : f11_isAnswer (nI c) m = some (b1 (ansB F e c = true)) := by
  have inner : ∀ i, i < c → ∃ r, loop (f11_isAnswer_l25 (nI c) (nI i) m) (0 : Int32) = some r ∧ ((r = Sum.inl (nI (i + 1)) ∧ ∀ j, j < i → ¬ e j = e i) ∨ (r = Sum.inr 0 ∧ ¬ ansB F e c = true)) := by
    intro i hi
    refine loop_inv i (fun j s => j ≤ i ∧ s = nI j ∧ ∀ j', j' < j → ¬ e j' = e i) _ ?_ i 0 _ (by omega) ⟨by omega, rfl, fun j hj => by omega⟩
    rintro j s ⟨hj, rfl, hs⟩
    unfold f11_isAnswer_l25
    by_cases hji : j = i
    · right
      subst hji
      rw [if_pos (show nI j ≤ nI j from nI_le (Nat.le_refl _) (by omega)), nm_p, nI_1]
      exact ⟨_, rfl, Or.inl ⟨rfl, hs⟩⟩
    · have hlt : j < i := by omega
      obtain ⟨g1, g2⟩ := h75 j (by omega)
      obtain ⟨g3, g4⟩ := h75 i hi
      rw [if_neg (nI_ge hlt (by omega))]
      simp only [nI_clamp (n := j) (by omega), nI_clamp (n := i) (by omega), inb_n (show j < 6 by omega) (by omega : 6 < 2 ^ 31), inb_n (show i < 6 by omega) (by omega : 6 < 2 ^ 31), chk_p, nm_p, g1, g3, nI_1]
      by_cases h : e j = e i
      · right
        rw [if_pos (congrArg nI h)]
        exact ⟨_, rfl, Or.inr ⟨rfl, fun h2 => ((ansB_is c).mp h2 i hi).2 j hlt h⟩⟩
      · left
        rw [if_neg (fun h2 => h ((nI_eq (by omega) (by omega)).mp h2))]
        refine ⟨hlt, _, rfl, by omega, rfl, fun j' hj' => ?_⟩
        by_cases e2 : j' = j
        · subst e2; exact h
        · exact hs j' (by omega)
  have key : ∃ r, f11_isAnswer (nI c) m = some r ∧ ((r = 1 ∧ ansB F e c = true) ∨ (r = 0 ∧ ¬ ansB F e c = true)) := by
    unfold f11_isAnswer
    refine loop_inv c (fun i s => i ≤ c ∧ s = nI i ∧ ∀ i', i' < i → F i' (e i') = true ∧ ∀ j, j < i' → ¬ e j = e i') _ ?_ c 0 _ (by omega) ⟨by omega, rfl, fun j hj => by omega⟩
    rintro i s ⟨hi, rfl, hs⟩
    unfold f11_isAnswer_l2
    by_cases hic : i = c
    · right
      subst hic
      rw [if_pos (show nI i ≤ nI i from nI_le (Nat.le_refl _) (by omega))]
      exact ⟨_, rfl, Or.inl ⟨rfl, (ansB_is i).mpr hs⟩⟩
    · have hlt : i < c := by omega
      obtain ⟨g3, g4⟩ := h75 i hlt
      rw [if_neg (nI_ge hlt (by omega))]
      simp only [nI_clamp (n := i) (by omega), inb_n (show i < 6 by omega) (by omega : 6 < 2 ^ 31), chk_p, nm_p, g3, hfit i (e i) hlt g4, Option.bind_some, if_b1]
      by_cases h : F i (e i) = true
      · rw [if_pos h]
        obtain ⟨r, k1, k2⟩ := inner i hlt
        rw [k1]
        rcases k2 with ⟨rfl, k3⟩ | ⟨rfl, k3⟩
        · refine Or.inl ⟨hlt, _, rfl, by omega, rfl, fun i' hi' => ?_⟩
          by_cases e2 : i' = i
          · subst e2; exact ⟨h, k3⟩
          · exact hs i' (by omega)
        · exact Or.inr ⟨_, rfl, Or.inr ⟨rfl, k3⟩⟩
      · right
        rw [if_neg h]
        exact ⟨_, rfl, Or.inr ⟨rfl, fun h2 => h ((ansB_is c).mp h2 i hlt).1⟩⟩
  obtain ⟨r, k1, k2⟩ := key
  rw [k1]
  rcases k2 with ⟨rfl, h⟩ | ⟨rfl, h⟩
  · rw [b1_t h]
  · rw [b1_f h]
/-- only the digits differ -/
def Fr75 (m m' : OS) : Prop := (∀ r, r ≠ 75 → m'.1 r = m.1 r) ∧ m'.2 = m.2
theorem turn_l {m : OS} {c i : Nat} (hc : c ≤ 6) (h0 : 0 < c) (hi : i < c) (h75 : m.1 75 i = nI (c - 1)) : f11_turns_l4 (nI c) (nI i, m) = some (.inl (nI i + (-1), wI m 75 i 0)) := by
  unfold f11_turns_l4
  show (if nI i < 0 then _ else _) = _
  rw [if_neg (nI_pos (n := i) (by omega))]
  simp only [nI_clamp (n := i) (by omega), inb_n (show i < 6 by omega) (by omega : 6 < 2 ^ 31), chk_p, nm_p, h75]
  rw [if_pos (show nI (c - 1) = nI c - 1 by rw [show (1 : Int32) = nI 1 from rfl, pk_sub (by omega)])]
theorem turn_k {c k x : Nat} (hc : c ≤ 6) (hx : x + 1 < c) : ∀ (d : Nat) (m : OS), k + d < c → m.1 75 k = nI x → (∀ j, k < j → j ≤ k + d → m.1 75 j = nI (c - 1)) → ∃ m', loop (f11_turns_l4 (nI c)) (nI (k + d), m) = some (1, m') ∧ Fr75 m m' ∧ m'.1 75 k = nI (x + 1) ∧ (∀ j, k < j → j ≤ k + d → m'.1 75 j = nI 0) ∧ ∀ j, j < k ∨ k + d < j → m'.1 75 j = m.1 75 j
  | 0, m, hk, h1, _ => by
    have hk : k < c := hk
    refine ⟨wI m 75 k (nI (x + 1)), loop_inr ?_, ⟨fun r hr => if_neg hr, rfl⟩, wI_at, fun j h2 h3 => by omega, fun j hj => ?_⟩
    · unfold f11_turns_l4 f11_turns_j33
      show (if nI k < 0 then _ else _) = _
      rw [if_neg (nI_pos (n := k) (by omega))]
      have hk' : nI (k + 0) = nI k := rfl
      simp only [hk', nI_clamp (n := k) (by omega), inb_n (show k < 6 by omega) (by omega : 6 < 2 ^ 31), chk_p, nm_p, h1, nI_1]
      rw [if_neg (show ¬ nI x = nI c - 1 by
        rw [show (1 : Int32) = nI 1 from rfl, pk_sub (by omega)]
        exact fun e => by have := (nI_eq (a := x) (b := c - 1) (by omega) (by omega)).mp e; omega), if_pos (show (0 : Int32) ≤ nI k from nI_le (a := 0) (b := k) (by omega) (by omega))]
      rfl
    · show (if j = k then _ else m.1 75 j) = _
      rw [if_neg (by omega)]
  | d + 1, m, hk, h1, h2 => by
    have hl := turn_l (m := m) (c := c) (i := k + (d + 1)) hc (by omega) hk (h2 _ (by omega) (by omega))
    rw [loop_inl hl, show k + (d + 1) = (k + d) + 1 by omega, pk_m1]
    obtain ⟨m', e1, e2, e3, e4, e5⟩ := turn_k (k := k) hc hx d (wI m 75 (k + d + 1) 0) (by omega) (by
      show (if k = k + d + 1 then _ else m.1 75 k) = _
      rw [if_neg (by omega)]; exact h1) (fun j h3 h4 => by
      show (if j = k + d + 1 then _ else m.1 75 j) = _
      rw [if_neg (by omega)]; exact h2 j h3 (by omega))
    refine ⟨m', e1, ⟨fun r hr => (e2.1 r hr).trans (if_neg hr), e2.2⟩, e3, fun j h3 h4 => ?_, fun j hj => ?_⟩
    · by_cases c1 : j = k + d + 1
      · rw [e5 j (by omega)]
        show (if j = k + d + 1 then _ else m.1 75 j) = _
        rw [if_pos c1]; rfl
      · exact e4 j h3 (by omega)
    · rw [e5 j (by omega)]
      show (if j = k + d + 1 then _ else m.1 75 j) = _
      rw [if_neg (by omega)]
theorem turn_end {c : Nat} (hc : c ≤ 6) (h0 : 0 < c) : ∀ (i : Nat) (m : OS), i < c → (∀ j, j ≤ i → m.1 75 j = nI (c - 1)) → ∃ m', loop (f11_turns_l4 (nI c)) (nI i, m) = some (0, m') ∧ Fr75 m m'
  | 0, m, hi, h => by
    refine ⟨wI m 75 0 0, ?_, ⟨fun r hr => if_neg hr, rfl⟩⟩
    rw [loop_inl (turn_l hc h0 hi (h 0 (by omega)))]
    refine loop_inr ?_
    unfold f11_turns_l4 f11_turns_j33
    show (if nI 0 + (-1) < 0 then _ else _) = _
    rw [if_pos (show nI 0 + (-1) < (0 : Int32) by decide)]
    show Option.map Sum.inr (if (0 : Int32) ≤ nI 0 + (-1) then _ else _) = _
    rw [if_neg (show ¬ (0 : Int32) ≤ nI 0 + (-1) by decide)]; rfl
  | i + 1, m, hi, h => by
    rw [loop_inl (turn_l hc h0 hi (h _ (Nat.le_refl _))), pk_m1]
    obtain ⟨m', e1, e2⟩ := turn_end hc h0 i (wI m 75 (i + 1) 0) (by omega) (fun j hj => by
      show (if j = i + 1 then _ else m.1 75 j) = _
      rw [if_neg (by omega)]; exact h j (by omega))
    exact ⟨m', e1, ⟨fun r hr => (e2.1 r hr).trans (if_neg hr), e2.2⟩⟩
