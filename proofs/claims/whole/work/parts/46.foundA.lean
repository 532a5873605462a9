-- found: what is mixed, on both sides
def OkP (n : Nat) (pl : Nat → Int32) (q : Int32) : Prop := (0 ≤ q.toInt ∧ q.toInt < n) ∧ ¬ pl q.toNatClampNeg = 12
def MixP (n : Nat) (pl num : Nat → Int32) (c : Nat) : Prop := ∀ i, i < c → OkP n pl (num i) ∧ ∀ j, j < i → ¬ num j = num i
def ThgP (num : Nat → Int32) (c d : Nat) : Prop := ∀ i, i < d → (0 ≤ (num (c + 3 * i)).toInt ∧ (num (c + 3 * i)).toInt ≤ 1000001000) ∧ (0 ≤ (num (c + 3 * i + 1)).toInt ∧ (num (c + 3 * i + 1)).toInt ≤ 1000) ∧ 0 ≤ (num (c + 3 * i + 2)).toInt ∧ (num (c + 3 * i + 2)).toInt ≤ 8
theorem MixP.up {n : Nat} {pl num : Nat → Int32} {i : Nat} (h : MixP n pl num i) (h1 : OkP n pl (num i)) (h2 : ∀ j, j < i → ¬ num j = num i) : MixP n pl num (i + 1) := fun k hk => by
  by_cases e : k = i
  · subst e; exact ⟨h1, h2⟩
  · exact h k (by omega)
theorem c_areMixed {n c : Nat} {s4 s8 : OS} {num : Nat → Int32} (hn : n ≤ 150) (h : s4.1 0 10 = nI n) (hc : c ≤ 6) (hnum : ∀ j, j < c → f8_number (nI j) s8 = some (num j)) : ∃ r, f10_areMixed (nI c) s4 s8 = some r ∧ ((r = 1 ∧ MixP n (s4.1 5) num c) ∨ (r = 0 ∧ ¬ MixP n (s4.1 5) num c)) := by
  have inner : ∀ i, i < c → ∃ r, loop (f10_areMixed_l45 (nI c) (nI i) (num i) s4 s8) (0 : Int32) = some r ∧ ((r = Sum.inl (nI (i + 1)) ∧ ∀ j, j < i → ¬ num j = num i) ∨ (r = Sum.inr 0 ∧ ∃ j, j < i ∧ num j = num i)) := by
    intro i hi
    refine loop_inv i (fun j s => j ≤ i ∧ s = nI j ∧ ∀ j', j' < j → ¬ num j' = num i) _ ?_ i 0 _ (by omega) ⟨by omega, rfl, fun j hj => by omega⟩
    rintro j s ⟨hj, rfl, hs⟩
    unfold f10_areMixed_l45
    by_cases hji : j = i
    · right
      subst hji
      rw [if_pos (show nI j ≤ nI j from nI_le (Nat.le_refl _) (by omega)), nm_p, nI_1]
      exact ⟨_, rfl, Or.inl ⟨rfl, hs⟩⟩
    · have hlt : j < i := by omega
      rw [if_neg (nI_ge hlt (by omega)), hnum j (by omega)]
      simp only [Option.bind_some, nm_p, nI_1]
      by_cases e : num j = num i
      · right
        rw [if_pos e]
        exact ⟨_, rfl, Or.inr ⟨rfl, j, hlt, e⟩⟩
      · left
        rw [if_neg e]
        refine ⟨hlt, _, rfl, by omega, rfl, fun j' hj' => ?_⟩
        by_cases e2 : j' = j
        · subst e2; exact e
        · exact hs j' (by omega)
  unfold f10_areMixed
  refine loop_inv c (fun i s => i ≤ c ∧ s = nI i ∧ MixP n (s4.1 5) num i) _ ?_ c 0 _ (by omega) ⟨by omega, rfl, fun j hj => by omega⟩
  rintro i s ⟨hi, rfl, hs⟩
  unfold f10_areMixed_l2 f10_areMixed_j40
  by_cases hic : i = c
  · right
    subst hic
    rw [if_pos (show nI i ≤ nI i from nI_le (Nat.le_refl _) (by omega))]
    exact ⟨_, rfl, Or.inl ⟨rfl, hs⟩⟩
  · have hlt : i < c := by omega
    rw [if_neg (nI_ge hlt (by omega)), hnum i hlt]
    simp only [Option.bind_some, c_has hn h, if_b1]
    by_cases h1 : 0 ≤ (num i).toInt ∧ (num i).toInt < n
    · rw [if_pos h1]
      obtain ⟨p, hp, ep⟩ := nI_of_in h1 (by omega)
      have hpl : f4_placeOf (num i) s4 = some (s4.1 5 (num i).toNatClampNeg) := by
        rw [ep, nI_clamp (by omega)]; exact c_placeOfP hn h hp
      rw [hpl, Option.bind_some]
      by_cases h2 : s4.1 5 (num i).toNatClampNeg = 12
      · right
        rw [if_pos h2]
        exact ⟨_, rfl, Or.inr ⟨rfl, fun e => (e i hlt).1.2 h2⟩⟩
      · rw [if_neg h2]
        obtain ⟨r, k1, k2⟩ := inner i hlt
        rw [k1]
        rcases k2 with ⟨rfl, k3⟩ | ⟨rfl, j, hj, k3⟩
        · exact Or.inl ⟨hlt, _, rfl, by omega, rfl, hs.up ⟨h1, h2⟩ k3⟩
        · exact Or.inr ⟨_, rfl, Or.inr ⟨rfl, fun e => (e i hlt).2 j hj k3⟩⟩
    · right
      rw [if_neg h1]
      exact ⟨_, rfl, Or.inr ⟨rfl, fun e => h1 (e i hlt).1.1⟩⟩
theorem ThgP.up {num : Nat → Int32} {c i : Nat} (h : ThgP num c i) (h1 : (0 ≤ (num (c + 3 * i)).toInt ∧ (num (c + 3 * i)).toInt ≤ 1000001000) ∧ (0 ≤ (num (c + 3 * i + 1)).toInt ∧ (num (c + 3 * i + 1)).toInt ≤ 1000) ∧ 0 ≤ (num (c + 3 * i + 2)).toInt ∧ (num (c + 3 * i + 2)).toInt ≤ 8) : ThgP num c (i + 1) := fun k hk => by
  by_cases e : k = i
  · subst e; exact h1
  · exact h k (by omega)
theorem ix3 (c i : Nat) : nI c + (3 : Int32) * nI i = nI (c + 3 * i) := by rw [show (3 : Int32) = nI 3 from rfl, pk_mul, nI_add]
theorem c_areThings {c : Nat} {s8 : OS} {num : Nat → Int32} (hc : c ≤ 6) (hnum : ∀ j, j < 4 * c → f8_number (nI j) s8 = some (num j)) : ∃ r, f10_areThings (nI c) s8 = some r ∧ ((r = 1 ∧ ThgP num c c) ∨ (r = 0 ∧ ¬ ThgP num c c)) := by
  unfold f10_areThings
  refine loop_inv c (fun i s => i ≤ c ∧ s = nI i ∧ ThgP num c i) _ ?_ c 0 _ (by omega) ⟨by omega, rfl, fun j hj => by omega⟩
  rintro i s ⟨hi, rfl, hs⟩
  unfold f10_areThings_l2 f10_areThings_j74 f10_areThings_j75
  by_cases hic : i = c
  · right
    subst hic
    rw [if_pos (show nI i ≤ nI i from nI_le (Nat.le_refl _) (by omega))]
    exact ⟨_, rfl, Or.inl ⟨rfl, hs⟩⟩
  · have hlt : i < c := by omega
    rw [if_neg (nI_ge hlt (by omega))]
    simp only [nm_p, ix3, show nI (c + 3 * i) + (1 : Int32) = nI (c + 3 * i + 1) from nI_1 _, show nI (c + 3 * i) + (2 : Int32) = nI (c + 3 * i + 2) from nI_add _ 2, hnum (c + 3 * i) (by omega), hnum (c + 3 * i + 1) (by omega), hnum (c + 3 * i + 2) (by omega), Option.bind_some, c_isWithin, if_b1, nI_1, if_neg (show ¬ (1 : Int32) = 0 by decide), if_pos (show (0 : Int32) = 0 from rfl)]
    by_cases h1 : (0 : Int32).toInt ≤ (num (c + 3 * i)).toInt ∧ (num (c + 3 * i)).toInt ≤ (1000001000 : Int32).toInt
    · rw [if_pos h1]
      by_cases h2 : (0 : Int32).toInt ≤ (num (c + 3 * i + 1)).toInt ∧ (num (c + 3 * i + 1)).toInt ≤ (1000 : Int32).toInt
      · rw [if_pos h2]
        by_cases h3 : (0 : Int32).toInt ≤ (num (c + 3 * i + 2)).toInt ∧ (num (c + 3 * i + 2)).toInt ≤ (8 : Int32).toInt
        · rw [if_pos h3]
          exact Or.inl ⟨hlt, _, rfl, by omega, rfl, hs.up ⟨h1, h2, h3⟩⟩
        · rw [if_neg h3]
          exact Or.inr ⟨_, rfl, Or.inr ⟨rfl, fun e => h3 (e i hlt).2.2⟩⟩
      · rw [if_neg h2]
        exact Or.inr ⟨_, rfl, Or.inr ⟨rfl, fun e => h2 (e i hlt).2.1⟩⟩
    · rw [if_neg h1]
      exact Or.inr ⟨_, rfl, Or.inr ⟨rfl, fun e => h1 (e i hlt).1⟩⟩
theorem r_isMixture {n c : Nat} {m : OS} {num : Nat → Int32} (hn : n ≤ 150) (h : m.1 0 3 = nI n) (hc : c ≤ 6) (hnum : ∀ j, j < 4 * c → f11_numberAt (nI j) m = some (num j)) : ∃ r, f11_isMixture (nI c) m = some r ∧ ((r = 1 ∧ MixP n (m.1 16) num c ∧ ThgP num c c) ∨ (r = 0 ∧ ¬ (MixP n (m.1 16) num c ∧ ThgP num c c))) := by
  have inner : ∀ i, i < c → ∃ r, loop (f11_isMixture_l37 (nI c) (nI i) (num i) m) (0 : Int32) = some r ∧ ((r = Sum.inl (nI (i + 1)) ∧ (∀ j, j < i → ¬ num j = num i) ∧ (0 ≤ (num (c + 3 * i)).toInt ∧ (num (c + 3 * i)).toInt ≤ 1000001000) ∧ (0 ≤ (num (c + 3 * i + 1)).toInt ∧ (num (c + 3 * i + 1)).toInt ≤ 1000) ∧ 0 ≤ (num (c + 3 * i + 2)).toInt ∧ (num (c + 3 * i + 2)).toInt ≤ 8) ∨ (r = Sum.inr 0 ∧ ¬ (MixP n (m.1 16) num c ∧ ThgP num c c))) := by
    intro i hi
    refine loop_inv i (fun j s => j ≤ i ∧ s = nI j ∧ ∀ j', j' < j → ¬ num j' = num i) _ ?_ i 0 _ (by omega) ⟨by omega, rfl, fun j hj => by omega⟩
    rintro j s ⟨hj, rfl, hs⟩
    unfold f11_isMixture_l37 f11_isMixture_j125
    by_cases hji : j = i
    · right
      subst hji
      rw [if_pos (show nI j ≤ nI j from nI_le (Nat.le_refl _) (by omega))]
      simp only [ix3, show nI (c + 3 * j) + (1 : Int32) = nI (c + 3 * j + 1) from nI_1 _, show nI (c + 3 * j) + (2 : Int32) = nI (c + 3 * j + 2) from nI_add _ 2, hnum (c + 3 * j) (by omega), hnum (c + 3 * j + 1) (by omega), hnum (c + 3 * j + 2) (by omega), Option.bind_some, r_lies, if_b1, nm_p, nI_1, Int32.toInt_toInt64]
      by_cases h1 : (0 : Int64).toInt ≤ (num (c + 3 * j)).toInt ∧ (num (c + 3 * j)).toInt ≤ (1000001000 : Int64).toInt
      · rw [if_pos h1]
        by_cases h2 : (0 : Int64).toInt ≤ (num (c + 3 * j + 1)).toInt ∧ (num (c + 3 * j + 1)).toInt ≤ (1000 : Int64).toInt
        · rw [if_pos h2]
          by_cases h3 : (0 : Int64).toInt ≤ (num (c + 3 * j + 2)).toInt ∧ (num (c + 3 * j + 2)).toInt ≤ (8 : Int64).toInt
          · rw [if_pos h3]
            exact ⟨_, rfl, Or.inl ⟨rfl, hs, h1, h2, h3⟩⟩
          · rw [if_neg h3]
            exact ⟨_, rfl, Or.inr ⟨rfl, fun e => h3 (e.2 j hi).2.2⟩⟩
        · rw [if_neg h2]
          exact ⟨_, rfl, Or.inr ⟨rfl, fun e => h2 (e.2 j hi).2.1⟩⟩
      · rw [if_neg h1]
        exact ⟨_, rfl, Or.inr ⟨rfl, fun e => h1 (e.2 j hi).1⟩⟩
    · have hlt : j < i := by omega
      rw [if_neg (nI_ge hlt (by omega)), hnum j (by omega)]
      simp only [Option.bind_some, nm_p, nI_1]
      by_cases e : num j = num i
      · right
        rw [if_pos e]
        exact ⟨_, rfl, Or.inr ⟨rfl, fun e2 => (e2.1 i hi).2 j hlt e⟩⟩
      · left
        rw [if_neg e]
        refine ⟨hlt, _, rfl, by omega, rfl, fun j' hj' => ?_⟩
        by_cases e2 : j' = j
        · subst e2; exact e
        · exact hs j' (by omega)
  unfold f11_isMixture
  refine loop_inv c (fun i s => i ≤ c ∧ s = nI i ∧ MixP n (m.1 16) num i ∧ ThgP num c i) _ ?_ c 0 _ (by omega) ⟨by omega, rfl, fun j hj => by omega, fun j hj => by omega⟩
  rintro i s ⟨hi, rfl, hs, hs2⟩
  unfold f11_isMixture_l2 f11_isMixture_j32
  by_cases hic : i = c
  · right
    subst hic
    rw [if_pos (show nI i ≤ nI i from nI_le (Nat.le_refl _) (by omega))]
    exact ⟨_, rfl, Or.inl ⟨rfl, hs, hs2⟩⟩
  · have hlt : i < c := by omega
    rw [if_neg (nI_ge hlt (by omega)), hnum i (by omega)]
    simp only [Option.bind_some, r_isPiece hn h, if_b1]
    by_cases h1 : 0 ≤ (num i).toInt ∧ (num i).toInt < n
    · rw [if_pos h1, inb_i (N := 150) ⟨h1.1, by omega⟩, chk_p, nm_p]
      by_cases h2 : m.1 16 (num i).toNatClampNeg = 12
      · right
        rw [if_pos h2]
        exact ⟨_, rfl, Or.inr ⟨rfl, fun e => (e.1 i hlt).1.2 h2⟩⟩
      · rw [if_neg h2]
        obtain ⟨r, k1, k2⟩ := inner i hlt
        rw [k1]
        rcases k2 with ⟨rfl, k3, k4⟩ | ⟨rfl, k3⟩
        · exact Or.inl ⟨hlt, _, rfl, by omega, rfl, hs.up ⟨h1, h2⟩ k3, hs2.up k4⟩
        · exact Or.inr ⟨_, rfl, Or.inr ⟨rfl, k3⟩⟩
    · right
      rw [if_neg h1]
      exact ⟨_, rfl, Or.inr ⟨rfl, fun e => h1 (e.1 i hlt).1.1⟩⟩
