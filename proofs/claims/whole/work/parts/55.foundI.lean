-- found: marks and counts
theorem may_pos {F : Nat → Nat → Bool} {c : Nat} : ∀ (d i : Nat) (U : Nat → Bool) (x y : Nat), mayA F c d i U x y → 0 < cntA F c d i U
  | 0, _, _, _, _, h => h.elim
  | d + 1, i, U, x, y, ⟨j, hj, h1, h2, h3⟩ => by
    refine sumB_pos' (j := j) (n := c) ?_ hj
    rw [if_pos ⟨h1, h2⟩]
    rcases h3 with ⟨_, _, h3⟩ | h3
    · exact h3
    · exact may_pos d (i + 1) (addB U j) x y h3
theorem may_lt {F : Nat → Nat → Bool} {c : Nat} : ∀ (d i : Nat) (U : Nat → Bool) (x y : Nat), mayA F c d i U x y → i ≤ x ∧ x < i + d ∧ y < c
  | 0, _, _, _, _, h => h.elim
  | d + 1, i, U, x, y, ⟨j, hj, h1, h2, h3⟩ => by
    rcases h3 with ⟨e1, e2, _⟩ | h3
    · omega
    · have := may_lt d (i + 1) (addB U j) x y h3
      omega
theorem pos_may {F : Nat → Nat → Bool} {c : Nat} : ∀ (d i : Nat) (U : Nat → Bool), 0 < cntA F c d i U → ∀ x, i ≤ x → x < i + d → ∃ y, y < c ∧ mayA F c d i U x y
  | 0, _, _, _, x, h1, h2 => by omega
  | d + 1, i, U, h, x, h1, h2 => by
    obtain ⟨j, hj, hp⟩ := sumB_pos c h
    by_cases hc : F i j = true ∧ U j = false
    · rw [if_pos hc] at hp
      by_cases e : x = i
      · exact ⟨j, hj, j, hj, hc.1, hc.2, Or.inl ⟨e, rfl, hp⟩⟩
      · obtain ⟨y, hy, hm⟩ := pos_may d (i + 1) (addB U j) hp x (by omega) (by omega)
        exact ⟨y, hy, j, hj, hc.1, hc.2, Or.inr hm⟩
    · rw [if_neg hc] at hp; omega
