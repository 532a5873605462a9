-- judge, best: what is asked for
def okQ (st : Nat) (M q : Nat → Int32) (s i : Nat) : Prop := s < st ∧ M s &&& q i = 0
def tkS (w : Nat → Nat) (e : Nat → Nat) (s i : Nat) : Nat := sumB (fun j => if e j = s then w j else 0) i
def nuS (e : Nat → Nat) (s i : Nat) : Nat := sumB (fun j => if e j = s then 1 else 0) i
def woS (v : Nat → Nat) (e : Nat → Nat) (i : Nat) : Nat := sumB (fun j => if e j = 4 then 0 else v j) i
def fitS (L T n Ws : Nat) : Prop := n = 0 ∨ T + (n - 1) * L = Ws ∨ T + n * L ≤ Ws
def los1 (L T n Ws : Nat) : Nat := if n = 0 then 0 else if T + (n - 1) * L = Ws then (n - 1) * L else n * L
def losS (L : Nat) (w W : Nat → Nat) (e : Nat → Nat) (a k : Nat) : Nat := sumB (fun s => los1 L (tkS w e s a) (nuS e s a) (W s)) k
def Rgt (a st L : Nat) (w W : Nat → Nat) (q M : Nat → Int32) (e : Nat → Nat) : Prop := ∀ s, s < 4 → (∀ i, i < a → e i = s → okQ st M q s i) ∧ fitS L (tkS w e s a) (nuS e s a) (W s)
theorem sumB_s (g : Nat → Nat) (n : Nat) : sumB g (n + 1) = sumB g n + g n := rfl
theorem sumB_mono {g : Nat → Nat} {i : Nat} : ∀ a, i ≤ a → sumB g i ≤ sumB g a
  | 0, h => by
    have : i = 0 := by omega
    subst this; exact Nat.le_refl _
  | a + 1, h => by
    by_cases e : i = a + 1
    · subst e; exact Nat.le_refl _
    · have := sumB_mono (g := g) (i := i) a (by omega)
      rw [sumB_s]; omega
theorem nuS_le (e : Nat → Nat) (s : Nat) : ∀ i, nuS e s i ≤ i
  | 0 => Nat.le_refl _
  | i + 1 => by
    have := nuS_le e s i
    show nuS e s i + (if e i = s then 1 else 0) ≤ i + 1
    by_cases h : e i = s
    · rw [if_pos h]; omega
    · rw [if_neg h]; omega
theorem tkS_le {w : Nat → Nat} {b : Nat} (e : Nat → Nat) (s : Nat) (i : Nat) (h : ∀ j, j < i → w j ≤ b) : tkS w e s i ≤ i * b :=
  sumB_le i (fun j hj => by
    by_cases c : e j = s
    · simp only [if_pos c]; exact h j hj
    · simp only [if_neg c]; exact Nat.zero_le _)
theorem woS_le {v : Nat → Nat} {b : Nat} (e : Nat → Nat) (i : Nat) (h : ∀ j, j < i → v j ≤ b) : woS v e i ≤ i * b :=
  sumB_le i (fun j hj => by
    by_cases c : e j = 4
    · simp only [if_pos c]; exact Nat.zero_le _
    · simp only [if_neg c]; exact h j hj)
theorem los1_le {L T n Ws b : Nat} (h : n ≤ b) : los1 L T n Ws ≤ b * L := by
  unfold los1
  by_cases h0 : n = 0
  · rw [if_pos h0]; exact Nat.zero_le _
  · rw [if_neg h0]
    by_cases h1 : T + (n - 1) * L = Ws
    · rw [if_pos h1]; exact Nat.mul_le_mul_right _ (by omega)
    · rw [if_neg h1]; exact Nat.mul_le_mul_right _ h
theorem losS_le {L : Nat} {w W : Nat → Nat} {e : Nat → Nat} {a : Nat} (k : Nat) : losS L w W e a k ≤ k * (a * L) := sumB_le k (fun s _ => los1_le (nuS_le e s a))
theorem tkS_congr {w : Nat → Nat} {e e' : Nat → Nat} {s : Nat} (i : Nat) (h : ∀ j, j < i → e j = e' j) : tkS w e s i = tkS w e' s i := sumB_congr i (fun j hj => by rw [h j hj])
theorem nuS_congr {e e' : Nat → Nat} {s : Nat} (i : Nat) (h : ∀ j, j < i → e j = e' j) : nuS e s i = nuS e' s i := sumB_congr i (fun j hj => by rw [h j hj])
theorem woS_congr {v : Nat → Nat} {e e' : Nat → Nat} (i : Nat) (h : ∀ j, j < i → e j = e' j) : woS v e i = woS v e' i := sumB_congr i (fun j hj => by rw [h j hj])
theorem losS_congr {L : Nat} {w W : Nat → Nat} {e e' : Nat → Nat} {a : Nat} (k : Nat) (h : ∀ j, j < a → e j = e' j) : losS L w W e a k = losS L w W e' a k := sumB_congr k (fun s _ => by rw [tkS_congr a h, nuS_congr a h])
theorem Rgt_congr {a st L : Nat} {w W : Nat → Nat} {q M : Nat → Int32} {e e' : Nat → Nat} (h : ∀ j, j < a → e j = e' j) : Rgt a st L w W q M e ↔ Rgt a st L w W q M e' := by
  have key : ∀ e e' : Nat → Nat, (∀ j, j < a → e j = e' j) → Rgt a st L w W q M e → Rgt a st L w W q M e' := by
    intro e e' h hR s hs
    obtain ⟨h1, h2⟩ := hR s hs
    exact ⟨fun i hi he => h1 i hi (by rw [h i hi]; exact he), by rw [← tkS_congr a h, ← nuS_congr a h]; exact h2⟩
  exact ⟨key e e' h, key e' e (fun j hj => (h j hj).symm)⟩
theorem updN_s {e : Nat → Nat} {k j : Nat} : updN e k j k = j := if_pos rfl
theorem updN_n {e : Nat → Nat} {k j i : Nat} (h : i ≠ k) : updN e k j i = e i := if_neg h
theorem tkS_upd {w : Nat → Nat} {e : Nat → Nat} {s i p : Nat} : tkS w (updN e i p) s (i + 1) = tkS w e s i + if p = s then w i else 0 := by
  show tkS w (updN e i p) s i + (if updN e i p i = s then w i else 0) = _
  rw [updN_s, tkS_congr i (fun j hj => updN_n (by omega))]
theorem nuS_upd {e : Nat → Nat} {s i p : Nat} : nuS (updN e i p) s (i + 1) = nuS e s i + if p = s then 1 else 0 := by
  show nuS (updN e i p) s i + (if updN e i p i = s then 1 else 0) = _
  rw [updN_s, nuS_congr i (fun j hj => updN_n (by omega))]
theorem woS_upd {v : Nat → Nat} {e : Nat → Nat} {i p : Nat} : woS v (updN e i p) (i + 1) = woS v e i + if p = 4 then 0 else v i := by
  show woS v (updN e i p) i + (if updN e i p i = 4 then 0 else v i) = _
  rw [updN_s, woS_congr i (fun j hj => updN_n (by omega))]
/-- the rows by numbers: the first ask's digit is the highest -/
def dg (a r i : Nat) : Nat := r / 5 ^ (a - 1 - i) % 5
def cod (e : Nat → Nat) : Nat → Nat
  | 0 => 0
  | i + 1 => cod e i * 5 + e i
theorem cod_congr {e e' : Nat → Nat} : ∀ i, (∀ j, j < i → e j = e' j) → cod e i = cod e' i
  | 0, _ => rfl
  | i + 1, h => by
    show cod e i * 5 + e i = cod e' i * 5 + e' i
    rw [cod_congr i (fun j hj => h j (by omega)), h i (by omega)]
theorem cod_upd {e : Nat → Nat} {i p : Nat} : cod (updN e i p) (i + 1) = cod e i * 5 + p := by
  show cod (updN e i p) i * 5 + updN e i p i = _
  rw [updN_s, cod_congr i (fun j hj => updN_n (by omega))]
theorem dg_pre {a r : Nat} {e : Nat → Nat} : ∀ i, i ≤ a → (∀ j, j < i → e j ≤ 4) → r / 5 ^ (a - i) = cod e i → ∀ j, j < i → dg a r j = e j
  | 0, _, _, _, j, hj => by omega
  | i + 1, hi, h4, hr, j, hj => by
    have hr : r / 5 ^ (a - (i + 1)) = cod e i * 5 + e i := hr
    have h5 := h4 i (by omega)
    by_cases c : j = i
    · subst c
      unfold dg
      rw [show a - 1 - j = a - (j + 1) by omega, hr]
      omega
    · refine dg_pre i (by omega) (fun j hj => h4 j (by omega)) ?_ j (by omega)
      rw [show a - i = a - (i + 1) + 1 by omega, Nat.pow_succ, ← Nat.div_div_eq_div_mul, hr]
      omega
theorem dg_le (a r i : Nat) : dg a r i ≤ 4 := by
  have := Nat.mod_lt (r / 5 ^ (a - 1 - i)) (show 0 < 5 by omega)
  unfold dg; omega
/-- is the row r better than the best so far -/
def bett (L a : Nat) (w v W : Nat → Nat) (B : Option Nat) (r : Nat) : Prop := ∀ r', B = some r' → woS v (dg a r') a < woS v (dg a r) a ∨ (woS v (dg a r') a = woS v (dg a r) a ∧ losS L w W (dg a r) a 4 < losS L w W (dg a r') a 4)
noncomputable def upB (a st L : Nat) (w v W : Nat → Nat) (q M : Nat → Int32) (B : Option Nat) (r : Nat) : Option Nat := @ite _ (Rgt a st L w W q M (dg a r) ∧ bett L a w v W B r) (Classical.propDecidable _) (some r) B
theorem upB_t {a st L : Nat} {w v W : Nat → Nat} {q M : Nat → Int32} {B : Option Nat} {r : Nat} (h1 : Rgt a st L w W q M (dg a r)) (h2 : bett L a w v W B r) : upB a st L w v W q M B r = some r := by
  unfold upB; exact if_pos ⟨h1, h2⟩
theorem upB_f {a st L : Nat} {w v W : Nat → Nat} {q M : Nat → Int32} {B : Option Nat} {r : Nat} (h : ¬ (Rgt a st L w W q M (dg a r) ∧ bett L a w v W B r)) : upB a st L w v W q M B r = B := by
  unfold upB; exact if_neg h
noncomputable def foB (a st L : Nat) (w v W : Nat → Nat) (q M : Nat → Int32) (B : Option Nat) (lo : Nat) : Nat → Option Nat
  | 0 => B
  | n + 1 => upB a st L w v W q M (foB a st L w v W q M B lo n) (lo + n)
theorem foB_add {a st L : Nat} {w v W : Nat → Nat} {q M : Nat → Int32} {B : Option Nat} {lo n : Nat} : ∀ m, foB a st L w v W q M B lo (n + m) = foB a st L w v W q M (foB a st L w v W q M B lo n) (lo + n) m
  | 0 => rfl
  | m + 1 => by
    show upB a st L w v W q M (foB a st L w v W q M B lo (n + m)) (lo + (n + m)) = upB a st L w v W q M (foB a st L w v W q M (foB a st L w v W q M B lo n) (lo + n) m) (lo + n + m)
    rw [foB_add m, Nat.add_assoc]
theorem foB_skip {a st L : Nat} {w v W : Nat → Nat} {q M : Nat → Int32} {B : Option Nat} {lo : Nat} : ∀ n, (∀ t, t < n → ¬ (Rgt a st L w W q M (dg a (lo + t)) ∧ bett L a w v W B (lo + t))) → foB a st L w v W q M B lo n = B
  | 0, _ => rfl
  | n + 1, h => by
    show upB a st L w v W q M (foB a st L w v W q M B lo n) (lo + n) = B
    rw [foB_skip n (fun t ht => h t (by omega)), upB_f (h n (by omega))]
theorem cod_4 : ∀ i, cod (fun _ => 4) i + 1 = 5 ^ i
  | 0 => rfl
  | i + 1 => by
    have := cod_4 i
    show cod (fun _ => 4) i * 5 + 4 + 1 = _
    rw [Nat.pow_succ]; omega
theorem Rgt_none {a st L : Nat} {w W : Nat → Nat} {q M : Nat → Int32} {e : Nat → Nat} (h : ∀ i, i < a → e i = 4) : Rgt a st L w W q M e := fun s hs =>
  ⟨fun i hi he => by have := h i hi; omega, Or.inl (sumB_zero a (fun j hj => if_neg (by rw [h j hj]; omega)))⟩
theorem foB_some {a st L : Nat} {w v W : Nat → Nat} {q M : Nat → Int32} : ∃ r, r < 5 ^ a ∧ foB a st L w v W q M none 0 (5 ^ a) = some r := by
  have hlt : ∀ n, foB a st L w v W q M none 0 n = none ∨ ∃ r, r < n ∧ foB a st L w v W q M none 0 n = some r := by
    intro n
    induction n with
    | zero => exact Or.inl rfl
    | succ n ih =>
      show upB a st L w v W q M (foB a st L w v W q M none 0 n) (0 + n) = none ∨ ∃ r, r < n + 1 ∧ upB a st L w v W q M (foB a st L w v W q M none 0 n) (0 + n) = some r
      by_cases h : Rgt a st L w W q M (dg a (0 + n)) ∧ bett L a w v W (foB a st L w v W q M none 0 n) (0 + n)
      · exact Or.inr ⟨0 + n, by omega, upB_t h.1 h.2⟩
      · rw [upB_f h]
        rcases ih with ih | ⟨r, h1, h2⟩
        · exact Or.inl ih
        · exact Or.inr ⟨r, by omega, h2⟩
  have h4 := cod_4 a
  have hd : ∀ i, i < a → dg a (cod (fun _ => 4) a) i = 4 := dg_pre a (Nat.le_refl _) (fun _ _ => Nat.le_refl _) (by rw [Nat.sub_self]; exact Nat.div_one _)
  rw [← h4]
  show ∃ r, r < _ ∧ upB a st L w v W q M (foB a st L w v W q M none 0 (cod (fun _ => 4) a)) (0 + cod (fun _ => 4) a) = some r
  rw [Nat.zero_add]
  rcases hlt (cod (fun _ => 4) a) with h | ⟨r, h1, h2⟩
  · rw [h]
    exact ⟨_, Nat.lt_succ_self _, upB_t (Rgt_none hd) (fun r' e => by cases e)⟩
  · rw [h2]
    by_cases h : Rgt a st L w W q M (dg a (cod (fun _ => 4) a)) ∧ bett L a w v W (some r) (cod (fun _ => 4) a)
    · exact ⟨_, Nat.lt_succ_self _, upB_t h.1 h.2⟩
    · exact ⟨r, by omega, upB_f h⟩
/-- a start of a row that cannot be served ends in no right row -/
theorem Rgt_not {a st L i p : Nat} {w W : Nat → Nat} {q M : Nat → Int32} {e e' : Nat → Nat} (hi : i < a) (hp : p < 4) (hpre : ∀ j, j < i → e' j = e j) (hpi : e' i = p) (h : ¬ (okQ st M q p i ∧ tkS w e p i + w i + nuS e p i * L ≤ W p)) : ¬ Rgt a st L w W q M e' := by
  intro hR
  obtain ⟨h1, h2⟩ := hR p hp
  refine h ⟨h1 i hi hpi, ?_⟩
  have ht : tkS w e p i + w i ≤ tkS w e' p a := by
    have := sumB_mono (g := fun j => if e' j = p then w j else 0) (i := i + 1) a (by omega)
    have e2 : sumB (fun j => if e' j = p then w j else 0) (i + 1) = tkS w e p i + w i := by
      rw [sumB_s]
      show tkS w e' p i + (if e' i = p then w i else 0) = _
      rw [if_pos hpi, tkS_congr i hpre]
    rw [e2] at this
    exact this
  have hn : nuS e p i + 1 ≤ nuS e' p a := by
    have := sumB_mono (g := fun j => if e' j = p then 1 else 0) (i := i + 1) a (by omega)
    have e2 : sumB (fun j => if e' j = p then 1 else 0) (i + 1) = nuS e p i + 1 := by
      rw [sumB_s]
      show nuS e' p i + (if e' i = p then 1 else 0) = _
      rw [if_pos hpi, nuS_congr i hpre]
    rw [e2] at this
    exact this
  have hm : nuS e p i * L ≤ (nuS e' p a - 1) * L := Nat.mul_le_mul_right _ (by omega)
  rcases h2 with h2 | h2 | h2
  · omega
  · omega
  · have : (nuS e' p a - 1) * L ≤ nuS e' p a * L := Nat.mul_le_mul_right _ (by omega)
    omega
