-- what is pure: the two sides' small methods, in closed forms
theorem wI_1 (s : OS) (r i : Nat) (v : Int32) (r' : Nat) : (wI s r i v).1 r' = if r' = r then (fun i' => if i' = i then v else s.1 r i') else s.1 r' := rfl
theorem wI_2 (s : OS) (r i : Nat) (v : Int32) : (wI s r i v).2 = s.2 := rfl
theorem wL_2 (s : OS) (r i : Nat) (v : Int64) (r' : Nat) : (wL s r i v).2 r' = if r' = r then (fun i' => if i' = i then v else s.2 r i') else s.2 r' := rfl
theorem wL_1 (s : OS) (r i : Nat) (v : Int64) : (wL s r i v).1 = s.1 := rfl
theorem chk_t {α : Type} (k : Option α) : chk true k = k := rfl
theorem nm_d {α β : Type} (v : α) (k : α → β) : nm v k = k v := rfl
def b1 (p : Prop) [Decidable p] : Int32 := if p then 1 else 0
theorem b1_t {p : Prop} [Decidable p] (h : p) : b1 p = 1 := if_pos h
theorem b1_f {p : Prop} [Decidable p] (h : ¬ p) : b1 p = 0 := if_neg h
theorem b1_0 {p : Prop} [Decidable p] : b1 p = 0 ↔ ¬ p := by
  by_cases h : p
  · rw [b1_t h]; exact ⟨fun e => absurd e (by decide), fun e => absurd h e⟩
  · rw [b1_f h]; exact ⟨fun _ => h, fun _ => rfl⟩
theorem b1_B {p : Prop} [Decidable p] : isB (b1 p) = true := by
  by_cases h : p
  · rw [b1_t h]; decide
  · rw [b1_f h]; decide
theorem b1_c {p q : Prop} [Decidable p] [Decidable q] (h : p ↔ q) : b1 p = b1 q := by
  by_cases hp : p
  · rw [b1_t hp, b1_t (h.mp hp)]
  · rw [b1_f hp, b1_f (fun e => hp (h.mpr e))]
theorem lg_lt0 (x y : Int64) : lg_cmp x y < 0 ↔ x.toInt < y.toInt := by
  unfold lg_cmp
  by_cases h : x > y
  · rw [if_pos h]
    rw [gt_iff_lt, Int64.lt_iff_toInt_lt] at h
    exact ⟨fun e => absurd e (by decide), fun e => by omega⟩
  · rw [if_neg h]
    rw [gt_iff_lt, Int64.lt_iff_toInt_lt] at h
    by_cases h2 : x = y
    · rw [if_pos h2]; subst h2
      exact ⟨fun e => absurd e (by decide), fun e => by omega⟩
    · rw [if_neg h2]
      rw [← Int64.toInt_inj] at h2
      exact ⟨fun _ => by omega, fun _ => by decide⟩
theorem lg_gt0 (x y : Int64) : 0 < lg_cmp x y ↔ y.toInt < x.toInt := by
  unfold lg_cmp
  by_cases h : x > y
  · rw [if_pos h]
    rw [gt_iff_lt, Int64.lt_iff_toInt_lt] at h
    exact ⟨fun _ => h, fun _ => by decide⟩
  · rw [if_neg h]
    rw [gt_iff_lt, Int64.lt_iff_toInt_lt] at h
    by_cases h2 : x = y
    · rw [if_pos h2]
      exact ⟨fun e => absurd e (by decide), fun e => absurd e h⟩
    · rw [if_neg h2]
      exact ⟨fun e => absurd e (by decide), fun e => absurd e h⟩
theorem lg_eq0 (x y : Int64) : lg_cmp x y = 0 ↔ x = y := by
  unfold lg_cmp
  by_cases h : x > y
  · rw [if_pos h]
    rw [gt_iff_lt, Int64.lt_iff_toInt_lt] at h
    exact ⟨fun e => absurd e (by decide), fun e => by subst e; omega⟩
  · rw [if_neg h]
    by_cases h2 : x = y
    · rw [if_pos h2]; exact ⟨fun _ => h2, fun _ => rfl⟩
    · rw [if_neg h2]; exact ⟨fun e => absurd e (by decide), fun e => absurd e h2⟩
theorem lg_le0 (x y : Int64) : lg_cmp x y ≤ 0 ↔ x.toInt ≤ y.toInt := by
  have h := lg_gt0 x y
  rw [Int32.lt_iff_toInt_lt] at h
  rw [Int32.le_iff_toInt_le]
  constructor
  · intro h1
    rcases Int.lt_or_le y.toInt x.toInt with h2 | h2
    · have := h.mpr h2; omega
    · exact h2
  · intro h1
    rcases Int.lt_or_le (Int32.toInt 0) (lg_cmp x y).toInt with h2 | h2
    · have := h.mp h2; omega
    · exact h2
theorem lg_ge0 (x y : Int64) : 0 ≤ lg_cmp x y ↔ y.toInt ≤ x.toInt := by
  have h := lg_lt0 x y
  rw [Int32.lt_iff_toInt_lt] at h
  rw [Int32.le_iff_toInt_le]
  constructor
  · intro h1
    rcases Int.lt_or_le x.toInt y.toInt with h2 | h2
    · have := h.mpr h2; omega
    · exact h2
  · intro h1
    rcases Int.lt_or_le (lg_cmp x y).toInt (Int32.toInt 0) with h2 | h2
    · have := h.mp h2; omega
    · exact h2
-- the class's
theorem c_isWithin (a b c : Int32) : f10_isWithin a b c = some (b1 (b.toInt ≤ a.toInt ∧ a.toInt ≤ c.toInt)) := by
  unfold f10_isWithin f10_isWithin_j14
  by_cases h1 : a < b
  · rw [if_pos h1, b1_f (fun h => by rw [Int32.lt_iff_toInt_lt] at h1; omega)]; rfl
  · rw [if_neg h1]
    by_cases h2 : c < a
    · rw [if_pos h2, b1_f (fun h => by rw [Int32.lt_iff_toInt_lt] at h2; omega)]; rfl
    · rw [if_neg h2, b1_t (by rw [Int32.lt_iff_toInt_lt] at h1 h2; omega)]; rfl
theorem c_isDay (a : Int32) : f10_isDay a = some (b1 (0 ≤ a.toInt ∧ a.toInt ≤ 99999)) := by
  unfold f10_isDay; rw [c_isWithin, Option.bind_some, b1_B]; rfl
theorem c_isKind (a : Int32) : f10_isKind a = some (b1 (0 ≤ a.toInt ∧ a.toInt ≤ 7)) := by
  unfold f10_isKind; rw [c_isWithin, Option.bind_some, b1_B]; rfl
theorem c_isCabinet (a : Int32) : f10_isCabinet a = some (b1 (0 ≤ a.toInt ∧ a.toInt ≤ 9)) := by
  unfold f10_isCabinet; rw [c_isWithin, Option.bind_some, b1_B]; rfl
theorem c_isPlace (a : Int32) : f10_isPlace a = some (b1 (0 ≤ a.toInt ∧ a.toInt ≤ 15)) := by
  unfold f10_isPlace; rw [c_isWithin, Option.bind_some, b1_B]; rfl
theorem c_isBits (a : Int32) : f10_isBits a = some (b1 (0 ≤ a.toInt ∧ a.toInt ≤ 65535)) := by
  unfold f10_isBits; rw [c_isWithin, Option.bind_some, b1_B]; rfl
-- the reference's
theorem r_lies (a b c : Int64) : f11_lies a b c = some (b1 (b.toInt ≤ a.toInt ∧ a.toInt ≤ c.toInt)) := by
  unfold f11_lies f11_lies_j17
  by_cases h1 : lg_cmp a b < 0
  · rw [if_pos h1, b1_f (fun h => by rw [lg_lt0] at h1; omega)]; rfl
  · rw [if_neg h1]
    by_cases h2 : 0 < lg_cmp a c
    · rw [if_pos h2, b1_f (fun h => by rw [lg_gt0] at h2; omega)]; rfl
    · rw [if_neg h2, b1_t (by rw [lg_lt0] at h1; rw [lg_gt0] at h2; omega)]; rfl
theorem r_isDay (a : Int32) : f11_isDay a = some (b1 (0 ≤ a.toInt ∧ a.toInt ≤ 99999)) := by
  unfold f11_isDay; rw [r_lies, Option.bind_some, b1_B, Int32.toInt_toInt64]; rfl
theorem r_isKind (a : Int32) : f11_isKind a = some (b1 (0 ≤ a.toInt ∧ a.toInt ≤ 7)) := by
  unfold f11_isKind; rw [r_lies, Option.bind_some, b1_B, Int32.toInt_toInt64]; rfl
theorem r_isCabinet (a : Int32) : f11_isCabinet a = some (b1 (0 ≤ a.toInt ∧ a.toInt ≤ 9)) := by
  unfold f11_isCabinet; rw [r_lies, Option.bind_some, b1_B, Int32.toInt_toInt64]; rfl
theorem r_isPlace (a : Int32) : f11_isPlace a = some (b1 (0 ≤ a.toInt ∧ a.toInt ≤ 15)) := by
  unfold f11_isPlace; rw [r_lies, Option.bind_some, b1_B, Int32.toInt_toInt64]; rfl
theorem r_isBits (a : Int32) : f11_isBits a = some (b1 (0 ≤ a.toInt ∧ a.toInt ≤ 65535)) := by
  unfold f11_isBits; rw [r_lies, Option.bind_some, b1_B, Int32.toInt_toInt64]; rfl
