-- thing: counts of marks
theorem ones_top : ∀ f n : Nat, onesN (f + 1) n = onesN f n + n / 2 ^ f % 2
  | 0, n => by
    show n % 2 + 0 = 0 + n / 1 % 2
    rw [Nat.div_one]; omega
  | f + 1, n => by
    show n % 2 + onesN (f + 1) (n / 2) = n % 2 + onesN f (n / 2) + n / 2 ^ (f + 1) % 2
    rw [ones_top f (n / 2), Nat.div_div_eq_div_mul, Nat.pow_succ, Nat.mul_comm 2]
    omega
theorem ones_bits {m : Nat} {b : Nat → Bool} : ∀ f : Nat, (∀ j, j < f → m.testBit j = b j) → onesN f m = cntB b f
  | 0, _ => rfl
  | f + 1, h => by
    rw [ones_top, ones_bits f (fun j hj => h j (by omega))]
    show cntB b f + m / 2 ^ f % 2 = cntB b f + (if b f = true then 1 else 0)
    have h1 := h f (by omega)
    rw [Nat.testBit_eq_decide_div_mod_eq] at h1
    have h2 := Nat.mod_lt (m / 2 ^ f) (show 0 < 2 by omega)
    cases hb : b f
    · rw [hb] at h1
      have h1 : ¬ m / 2 ^ f % 2 = 1 := of_decide_eq_false h1
      rw [if_neg (by decide)]; omega
    · rw [hb] at h1
      have h1 : m / 2 ^ f % 2 = 1 := of_decide_eq_true h1
      rw [if_pos rfl, h1]
theorem ones_cnt (b : Nat → Bool) : onesN 16 (mkB b 16) = cntB b 16 := ones_bits 16 (fun j hj => by rw [mkB_bit]; simp [hj])
