-- rules: digits on both sides
def dgs (T : Nat → Int32) (n p k : Nat) : Prop := ∀ j, j < k → isD (hd T n (p + j))
def valD (T : Nat → Int32) (n p : Nat) : Nat → Nat
  | 0 => 0
  | k + 1 => 10 * valD T n p k + ((hd T n (p + k)).toInt - 48).toNat
theorem isD_lt {T : Nat → Int32} {n p : Nat} (h : isD (hd T n p)) : p < n := hd_lt (fun e => by
  rw [e] at h
  have : (48 : Int) ≤ (0 : Int32).toInt := h.1
  have e0 : (0 : Int32).toInt = 0 := rfl
  omega)
theorem isD_n {c : Int32} (h : isD c) : ∃ d : Nat, d ≤ 9 ∧ c = nI (48 + d) ∧ (c.toInt - 48).toNat = d := by
  obtain ⟨h1, h2⟩ := h
  obtain ⟨a, ha1, ha2, rfl⟩ := bw_nat (lo := 48) (hi := 57) (x := c) ⟨h1, h2⟩ (by omega)
  refine ⟨a - 48, by omega, by rw [show 48 + (a - 48) = a by omega], ?_⟩
  rw [nI_toInt (by omega)]; omega
theorem val_lt {T : Nat → Int32} {n p : Nat} : ∀ k, dgs T n p k → valD T n p k < 10 ^ k
  | 0, _ => by show 0 < 1; omega
  | k + 1, h => by
    have ih := val_lt k (fun j hj => h j (by omega))
    obtain ⟨d, h1, _, h3⟩ := isD_n (h k (by omega))
    show 10 * valD T n p k + ((hd T n (p + k)).toInt - 48).toNat < 10 ^ (k + 1)
    rw [h3, Nat.pow_succ]; omega
theorem val_6 {T : Nat → Int32} {n p k : Nat} (h : dgs T n p k) (hk : k ≤ 6) : valD T n p k ≤ 999999 := by
  have h1 := val_lt k h
  have h2 : 10 ^ k ≤ 10 ^ 6 := Nat.pow_le_pow_right (by omega) hk
  omega
theorem dig_ex (T : Nat → Int32) (n p : Nat) : ∃ k, k ≤ 6 ∧ dgs T n p k ∧ (k = 6 ∨ ¬ isD (hd T n (p + k))) := by
  have key : ∀ m, m ≤ 6 → (dgs T n p m) ∨ ∃ k, k ≤ 6 ∧ dgs T n p k ∧ (k = 6 ∨ ¬ isD (hd T n (p + k))) := by
    intro m
    induction m with
    | zero => exact fun _ => Or.inl (fun j hj => by omega)
    | succ m ih =>
      intro hm
      rcases ih (by omega) with h | h
      · by_cases c : isD (hd T n (p + m))
        · refine Or.inl (fun j hj => ?_)
          by_cases e : j = m
          · subst e; exact c
          · exact h j (by omega)
        · exact Or.inr ⟨m, by omega, h, Or.inr c⟩
      · exact Or.inr h
  rcases key 6 (Nat.le_refl _) with h | h
  · exact ⟨6, Nat.le_refl _, h, Or.inl rfl⟩
  · exact h
theorem dig_step {T : Nat → Int32} {n p i : Nat} (h : isD (hd T n (p + i))) : (10 : Int32) * nI (valD T n p i) + hd T n (p + i) - 48 = nI (valD T n p (i + 1)) := by
  obtain ⟨d, h1, h2, h3⟩ := isD_n h
  show _ = nI (10 * valD T n p i + ((hd T n (p + i)).toInt - 48).toNat)
  rw [h3, h2, show (10 : Int32) = nI 10 from rfl, pk_mul, nI_add, show (48 : Int32) = nI 48 from rfl, pk_sub (by omega)]
  congr 1; omega
theorem sg_lt {T : Nat → Int32} {n p : Nat} (h : p < n) : sg T n p = hd T n p := by
  unfold sg hd; rw [if_pos h, if_pos h]
theorem dig_t {c : Int32} (h : isD c) : f6_isDigit c = some 1 := by
  obtain ⟨x, h1, ⟨rfl, _⟩ | ⟨_, h2⟩⟩ := c_isDig c
  · exact h1
  · exact absurd h h2
theorem dig_f {c : Int32} (h : ¬ isD c) : f6_isDigit c = some 0 := by
  obtain ⟨x, h1, ⟨_, h2⟩ | ⟨rfl, _⟩⟩ := c_isDig c
  · exact absurd h2 h
  · exact h1
theorem c_digits {T : Nat → Int32} {n p k : Nat} {s : OS} (h : RdS T n p s) (hn : n ≤ 160) (hp : p ≤ n) (hk : k ≤ 6) (hd' : dgs T n p k) (he : k = 6 ∨ ¬ isD (hd T n (p + k))) :
    ∃ x s', f6_readDigits s = some (x, s') ∧ ((k = 0 ∧ x = 0 ∧ Flt 1 p s s') ∨ (k = 6 ∧ isD (hd T n (p + 6)) ∧ Flt 2 (p + 6) s s') ∨ (0 < k ∧ ¬ isD (hd T n (p + k)) ∧ x = nI (valD T n p k) ∧ RdS T n (p + k) s' ∧ FrR s s' ∧ s'.1 0 11 = s.1 0 11)) := by
  have key : ∃ o : Int32 × OS, f6_readDigits s = some o ∧ ((k = 0 ∧ o.1 = 0 ∧ Flt 1 p s o.2) ∨ (k = 6 ∧ isD (hd T n (p + 6)) ∧ Flt 2 (p + 6) s o.2) ∨ (0 < k ∧ ¬ isD (hd T n (p + k)) ∧ o.1 = nI (valD T n p k) ∧ RdS T n (p + k) o.2 ∧ FrR s o.2 ∧ o.2.1 0 11 = s.1 0 11)) := by
    unfold f6_readDigits
    refine loop_inv k (fun i (t : Int32 × Int32 × OS) => i ≤ k ∧ t.1 = nI (valD T n p i) ∧ t.2.1 = nI i ∧ RdS T n (p + i) t.2.2 ∧ FrR s t.2.2 ∧ t.2.2.1 0 11 = s.1 0 11) _ ?_ k 0 _ (by omega) ⟨by omega, rfl, rfl, h, FrR.refl s, rfl⟩
    rintro i ⟨x, y, u⟩ ⟨hi, e1, e2, e3, e4, e5⟩
    have e1 : x = nI (valD T n p i) := e1
    have e2 : y = nI i := e2
    subst e1 e2
    have e3 : RdS T n (p + i) u := e3
    have e4 : FrR s u := e4
    have e5 : u.1 0 11 = s.1 0 11 := e5
    have hpi : p + i ≤ n := by
      rcases Nat.lt_or_ge i 1 with c | c
      · omega
      · have := isD_lt (hd' (i - 1) (by omega)); omega
    have hsg := c_sign e3 hn hpi
    -- the end
    have fin : i = k → ∃ o : Int32 × OS, f6_readDigits_j49 (nI (valD T n p i)) (nI i) u = some o ∧ ((k = 0 ∧ o.1 = 0 ∧ Flt 1 p s o.2) ∨ (k = 6 ∧ isD (hd T n (p + 6)) ∧ Flt 2 (p + 6) s o.2) ∨ (0 < k ∧ ¬ isD (hd T n (p + k)) ∧ o.1 = nI (valD T n p k) ∧ RdS T n (p + k) o.2 ∧ FrR s o.2 ∧ o.2.1 0 11 = s.1 0 11)) := by
      intro hik
      subst hik
      unfold f6_readDigits_j49 f6_readDigits_j84
      by_cases c0 : i = 0
      · subst c0
        obtain ⟨s', g1, g2⟩ := c_flt e3 (k := 1) (pl := p + 0) (by omega) (by omega)
        have g1 : f6_fail 1 (u.1 0 4) u = some s' := by rw [e3.2.1]; exact g1
        rw [if_pos (show nI 0 = (0 : Int32) from rfl), g1, Option.bind_some]
        exact ⟨_, rfl, Or.inl ⟨rfl, rfl, g2.fr e4⟩⟩
      · rw [if_neg (show ¬ nI i = (0 : Int32) from fun e => c0 ((nI_eq (a := i) (b := 0) (by omega) (by omega)).mp e)), hsg, Option.bind_some]
        by_cases cD : isD (hd T n (p + i))
        · have hi6 : i = 6 := he.resolve_right (fun e => e cD)
          subst hi6
          obtain ⟨s', g1, g2⟩ := c_flt e3 (k := 2) (pl := p + 6) (by omega) (by omega)
          have g1 : f6_fail 2 (u.1 0 4) u = some s' := by rw [e3.2.1]; exact g1
          rw [dig_t (sg_D.mpr cD), Option.bind_some, if_neg (show ¬ (1 : Int32) = 0 by decide), g1, Option.bind_some]
          exact ⟨_, rfl, Or.inr (Or.inl ⟨rfl, cD, g2.fr e4⟩)⟩
        · rw [dig_f (fun e => cD (sg_D.mp e)), Option.bind_some, if_pos rfl]
          exact ⟨_, rfl, Or.inr (Or.inr ⟨by omega, cD, rfl, e3, e4, e5⟩)⟩
    unfold f6_readDigits_l4
    by_cases c : i = k
    · right
      obtain ⟨o, g1, g2⟩ := fin c
      refine ⟨o, ?_, g2⟩
      show (if (6 : Int32) ≤ nI i then (Option.map Sum.inr (f6_readDigits_j49 (nI (valD T n p i)) (nI i) u) : Option ((Int32 × Int32 × OS) ⊕ (Int32 × OS))) else (Option.bind (f6_sign u) fun q_11 => Option.bind (f6_isDigit q_11) fun q_14 => if q_14 = 0 then (Option.map Sum.inr (f6_readDigits_j49 (nI (valD T n p i)) (nI i) u)) else _)) = _
      rw [g1]
      by_cases c6 : i = 6
      · rw [if_pos (show (6 : Int32) ≤ nI i by rw [c6]; decide)]; rfl
      · rw [if_neg (show ¬ (6 : Int32) ≤ nI i from nI_ge (a := i) (b := 6) (by omega) (by omega)), hsg, Option.bind_some, dig_f (fun e => (he.resolve_left (by omega)) (by rw [← c]; exact sg_D.mp e)), Option.bind_some, if_pos rfl]; rfl
    · left
      have hlt : i < k := by omega
      have hD := hd' i hlt
      obtain ⟨z1, z2, z3⟩ := c_go e3
      refine ⟨hlt, ?_⟩
      show ∃ t, (if (6 : Int32) ≤ nI i then _ else (Option.bind (f6_sign u) fun q_11 => Option.bind (f6_isDigit q_11) fun q_14 => if q_14 = 0 then _ else (Option.bind (f6_sign u) fun q_25 => nm (((10 : Int32) * nI (valD T n p i)) + q_25 - 48) fun n_32 => nm (nI i + 1) fun n_33 => nm (wI u 0 4 (u.1 0 4 + 1)) fun s6_43 => some (Sum.inl (n_32, n_33, s6_43))))) = some (Sum.inl t) ∧ _
      rw [if_neg (show ¬ (6 : Int32) ≤ nI i from nI_ge (a := i) (b := 6) (by omega) (by omega)), hsg, Option.bind_some, dig_t (sg_D.mpr hD), Option.bind_some, if_neg (show ¬ (1 : Int32) = 0 by decide), Option.bind_some, sg_lt (isD_lt hD), dig_step hD]
      exact ⟨_, rfl, by omega, rfl, nI_1 i, z1, e4.trans z2, z3.trans e5⟩
  obtain ⟨⟨x, s'⟩, k1, k2⟩ := key
  exact ⟨x, s', k1, k2⟩
theorem b_wrongs {r k pl : Nat} {m0 m : OS} (h : Bd r k pl m0 m) (a b : Int32) : ∃ m', f11_wrongs a b m = some m' ∧ Bd r k pl m0 m' := by
  obtain ⟨h1, h2, h3⟩ := h
  unfold f11_wrongs f11_wrongs_j22
  rw [if_neg (show ¬ (0 : Int32) ≤ m.1 0 45 by
    rw [Int32.lt_iff_toInt_lt] at h3
    rw [Int32.le_iff_toInt_le]; omega), nm_p]
  refine ⟨_, rfl, h1.slot (by omega), ?_, ?_⟩
  · rw [wI_at]; exact h2
  · rw [wI_at]; exact h3
theorem y_sees {T : Nat → Int32} {n r b p o : Nat} {m0 m : OS} {σ : List Int32} {C : List (Int32 × Int32)} {bh : Int32} (h : YB T n r m0 b p o σ C bh m) (hn : n ≤ 160) : ∃ x, f11_seesDigit m = some x ∧ ((x = 1 ∧ isD (hd T n p)) ∨ (x = 0 ∧ ¬ isD (hd T n p))) := by
  unfold f11_seesDigit
  rw [y_here h hn, Option.bind_some, r_lies, Option.bind_some, b1_B, chk_p, Int32.toInt_toInt64]
  by_cases c : isD (hd T n p)
  · exact ⟨1, by rw [b1_t (show (48 : Int64).toInt ≤ _ ∧ _ ≤ (57 : Int64).toInt from c)], Or.inl ⟨rfl, c⟩⟩
  · exact ⟨0, by rw [b1_f (show ¬ ((48 : Int64).toInt ≤ _ ∧ _ ≤ (57 : Int64).toInt) from c)], Or.inr ⟨rfl, c⟩⟩
theorem sees_t {T : Nat → Int32} {n r b p o : Nat} {m0 m : OS} {σ : List Int32} {C : List (Int32 × Int32)} {bh : Int32} (h : YB T n r m0 b p o σ C bh m) (hn : n ≤ 160) (hD : isD (hd T n p)) : f11_seesDigit m = some 1 := by
  obtain ⟨x, h1, ⟨rfl, _⟩ | ⟨_, h2⟩⟩ := y_sees h hn
  · exact h1
  · exact absurd hD h2
theorem sees_f {T : Nat → Int32} {n r b p o : Nat} {m0 m : OS} {σ : List Int32} {C : List (Int32 × Int32)} {bh : Int32} (h : YB T n r m0 b p o σ C bh m) (hn : n ≤ 160) (hD : ¬ isD (hd T n p)) : f11_seesDigit m = some 0 := by
  obtain ⟨x, h1, ⟨_, h2⟩ | ⟨rfl, _⟩⟩ := y_sees h hn
  · exact absurd h2 hD
  · exact h1
theorem r_reads {T : Nat → Int32} {n r b p o k most : Nat} {m0 m : OS} {σ : List Int32} {C : List (Int32 × Int32)} {bh : Int32} (h : YB T n r m0 b p o σ C bh m) (hn : n ≤ 160) (hm : most < 2 ^ 30) (hk : k ≤ 6) (hd' : dgs T n p k) (he : k = 6 ∨ ¬ isD (hd T n (p + k))) :
    ∃ x m', f11_reads (nI most) m = some (x, m') ∧ ((k = 0 ∧ Bd r 1 p m0 m') ∨ (k = 6 ∧ isD (hd T n (p + 6)) ∧ Bd r 2 (p + 6) m0 m') ∨ (0 < k ∧ ¬ isD (hd T n (p + k)) ∧ ((valD T n p k ≤ most ∧ x = nI (valD T n p k) ∧ YB T n r m0 b (p + k) o σ C bh m') ∨ (most < valD T n p k ∧ Bd r 3 p m0 m')))) := by
  have hpn := (y_len h).2
  have g1 := h.2.2.1.1
  have done : ∀ (v : Nat) (kk pl : Nat) (u : OS), Bd r kk pl m0 u → ∃ o : Int32 × OS, f11_reads_j83 (nI most) (nI p) (nI v) u = some o ∧ Bd r kk pl m0 o.2 := by
    intro v kk pl u hb
    unfold f11_reads_j83 f11_reads_j94
    by_cases c : nI v ≤ nI most
    · rw [if_pos c]; exact ⟨_, rfl, hb⟩
    · rw [if_neg c]
      obtain ⟨u', z1, z2⟩ := b_wrongs hb 3 (nI p)
      rw [z1, Option.bind_some]; exact ⟨_, rfl, z2⟩
  have key : ∃ o' : Int32 × OS, f11_reads (nI most) m = some o' ∧ ((k = 0 ∧ Bd r 1 p m0 o'.2) ∨ (k = 6 ∧ isD (hd T n (p + 6)) ∧ Bd r 2 (p + 6) m0 o'.2) ∨ (0 < k ∧ ¬ isD (hd T n (p + k)) ∧ ((valD T n p k ≤ most ∧ o'.1 = nI (valD T n p k) ∧ YB T n r m0 b (p + k) o σ C bh o'.2) ∨ (most < valD T n p k ∧ Bd r 3 p m0 o'.2)))) := by
    unfold f11_reads f11_reads_j23
    rw [nm_p, g1]
    by_cases k0 : k = 0
    · subst k0
      have hD : ¬ isD (hd T n p) := he.resolve_left (by omega)
      have hb := y_bd h (k := 1) (pl := p) (by omega) (by omega) (by omega)
      rw [sees_f h hn hD, Option.bind_some, if_pos rfl, y_wrongs h, Option.bind_some]
      obtain ⟨ob, z1, z2⟩ := done 0 1 p _ hb
      refine ⟨ob, ?_, Or.inl ⟨rfl, z2⟩⟩
      refine loop_inr ?_
      unfold f11_reads_l23
      show Option.bind (f11_isGood (wI m 0 45 (-1000 * nI 1 - nI p))) (fun q_24 => if q_24 = 0 then (Option.map Sum.inr (f11_reads_j83 (nI most) (nI p) (nI 0) (wI m 0 45 (-1000 * nI 1 - nI p)))) else _) = _
      rw [b_good hb, Option.bind_some, if_pos rfl, z1]; rfl
    · have hD0 : isD (hd T n (p + 0)) := hd' 0 (by omega)
      rw [sees_t h hn hD0, Option.bind_some, if_neg (show ¬ (1 : Int32) = 0 by decide)]
      refine loop_inv 8 (fun i (t : Int32 × OS) => (i ≤ k ∧ t.1 = nI (valD T n p i) ∧ YB T n r m0 b (p + i) o σ C bh t.2) ∨ (i = 7 ∧ k = 6 ∧ isD (hd T n (p + 6)) ∧ (∃ v : Nat, t.1 = nI v) ∧ Bd r 2 (p + 6) m0 t.2)) _ ?_ 8 0 _ (by omega) (Or.inl ⟨by omega, rfl, h⟩)
      rintro i ⟨x, u⟩ hI
      rcases hI with ⟨hi, e1, e2⟩ | ⟨rfl, hk6, hD6, ⟨v, e1⟩, e2⟩
      · have e1 : x = nI (valD T n p i) := e1
        subst e1
        have e2 : YB T n r m0 b (p + i) o σ C bh u := e2
        have u43 := e2.2.2.1.1
        have hv : valD T n p i ≤ 999999 := val_6 (fun j hj => hd' j (by omega)) (by omega)
        unfold f11_reads_l23 f11_reads_j57
        show (i < 8 ∧ ∃ t, (Option.bind (f11_isGood u) fun q_24 => if q_24 = 0 then (Option.map Sum.inr (f11_reads_j83 (nI most) (nI p) (nI (valD T n p i)) u) : Option ((Int32 × OS) ⊕ (Int32 × OS))) else (Option.bind (f11_seesDigit u) fun q_31 => if q_31 = 0 then (Option.map Sum.inr (f11_reads_j83 (nI most) (nI p) (nI (valD T n p i)) u)) else (if (u.1 0 43) = (nI p + (6 : Int32)) then (Option.bind (f11_wrongs ((2 : Int32)) ((u.1 0 43)) u) fun q_54 => Option.bind (f11_here q_54) fun q_62 => nm (((10 : Int32) * nI (valD T n p i)) + q_62 - (48 : Int32)) fun n_69 => nm (wI q_54 0 43 (((q_54.1 0 43) + (1 : Int32)))) fun s11_77 => some (Sum.inl (n_69, s11_77))) else (Option.bind (f11_here u) fun q_62 => nm (((10 : Int32) * nI (valD T n p i)) + q_62 - (48 : Int32)) fun n_69 => nm (wI u 0 43 (((u.1 0 43) + (1 : Int32)))) fun s11_77 => some (Sum.inl (n_69, s11_77)))))) = some (Sum.inl t) ∧ _) ∨ ∃ o', (Option.bind (f11_isGood u) fun q_24 => if q_24 = 0 then (Option.map Sum.inr (f11_reads_j83 (nI most) (nI p) (nI (valD T n p i)) u) : Option ((Int32 × OS) ⊕ (Int32 × OS))) else (Option.bind (f11_seesDigit u) fun q_31 => if q_31 = 0 then (Option.map Sum.inr (f11_reads_j83 (nI most) (nI p) (nI (valD T n p i)) u)) else (if (u.1 0 43) = (nI p + (6 : Int32)) then (Option.bind (f11_wrongs ((2 : Int32)) ((u.1 0 43)) u) fun q_54 => Option.bind (f11_here q_54) fun q_62 => nm (((10 : Int32) * nI (valD T n p i)) + q_62 - (48 : Int32)) fun n_69 => nm (wI q_54 0 43 (((q_54.1 0 43) + (1 : Int32)))) fun s11_77 => some (Sum.inl (n_69, s11_77))) else (Option.bind (f11_here u) fun q_62 => nm (((10 : Int32) * nI (valD T n p i)) + q_62 - (48 : Int32)) fun n_69 => nm (wI u 0 43 (((u.1 0 43) + (1 : Int32)))) fun s11_77 => some (Sum.inl (n_69, s11_77)))))) = some (Sum.inr o') ∧ _
        rw [y_good e2, Option.bind_some, if_neg (show ¬ (1 : Int32) = 0 by decide)]
        have hpi := (y_len e2).2
        have e6 : (u.1 0 43 = nI p + 6) ↔ i = 6 := by
          rw [u43, show (6 : Int32) = nI 6 from rfl, nI_add]
          exact ⟨fun e => by have := (nI_eq (by omega) (by omega)).mp e; omega, fun e => by rw [e]⟩
        by_cases cD : isD (hd T n (p + i))
        · left
          rw [sees_t e2 hn cD, Option.bind_some, if_neg (show ¬ (1 : Int32) = 0 by decide)]
          refine ⟨by omega, ?_⟩
          by_cases c6 : i = 6
          · subst c6
            have hk6 : k = 6 := by omega
            have hb := y_bd e2 (k := 2) (pl := p + 6) (by omega) (by omega) (by omega)
            have hh : f11_here (wI u 0 45 (-1000 * nI 2 - nI (p + 6))) = some (hd T n (p + 6)) := (show f11_here (wI u 0 45 (-1000 * nI 2 - nI (p + 6))) = f11_here u from rfl).trans (y_here e2 hn)
            rw [if_pos (e6.mpr rfl), u43, y_wrongs e2, Option.bind_some]
            show ∃ t, (Option.bind (f11_here (wI u 0 45 (-1000 * nI 2 - nI (p + 6)))) _) = some (Sum.inl t) ∧ _
            rw [hh, Option.bind_some, dig_step cD]
            exact ⟨_, rfl, Or.inr ⟨rfl, hk6, cD, ⟨_, rfl⟩, hb.slot (by omega) (by omega)⟩⟩
          · rw [if_neg (fun e => c6 (e6.mp e)), y_here e2 hn, Option.bind_some, dig_step cD]
            have hik : i < k := by
              rcases Nat.lt_or_ge i k with c | c
              · exact c
              · have hik : i = k := by omega
                rcases he with he | he
                · omega
                · exact absurd cD (by rw [hik]; exact he)
            exact ⟨_, rfl, Or.inl ⟨by omega, rfl, e2.place (q := 0) (isD_lt cD)⟩⟩
        · right
          have hik : i = k := by
            rcases Nat.lt_or_ge i k with c | c
            · exact absurd (hd' i c) cD
            · omega
          subst hik
          rw [sees_f e2 hn cD, Option.bind_some, if_pos rfl]
          unfold f11_reads_j83 f11_reads_j94
          by_cases cm : valD T n p i ≤ most
          · rw [if_pos (nI_le cm (by omega))]
            exact ⟨_, rfl, Or.inr (Or.inr ⟨by omega, cD, Or.inl ⟨cm, rfl, e2⟩⟩)⟩
          · have hb := y_bd e2 (k := 3) (pl := p) (by omega) (by omega) (by omega)
            rw [if_neg (nI_ge (by omega) (by omega)), y_wrongs e2, Option.bind_some]
            exact ⟨_, rfl, Or.inr (Or.inr ⟨by omega, cD, Or.inr ⟨by omega, hb⟩⟩)⟩
      · right
        have e1 : x = nI v := e1
        subst e1
        have e2 : Bd r 2 (p + 6) m0 u := e2
        obtain ⟨ob, z1, z2⟩ := done v 2 (p + 6) u e2
        refine ⟨ob, ?_, Or.inr (Or.inl ⟨hk6, hD6, z2⟩)⟩
        unfold f11_reads_l23
        show Option.bind (f11_isGood u) (fun q_24 => if q_24 = 0 then (Option.map Sum.inr (f11_reads_j83 (nI most) (nI p) (nI v) u)) else _) = _
        rw [b_good e2, Option.bind_some, if_pos rfl, z1]; rfl
  obtain ⟨⟨x, m'⟩, k1, k2⟩ := key
  exact ⟨x, m', k1, k2⟩
