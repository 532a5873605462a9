-- rules: pieces, all of them, any of them
def clAll (σ : List Int32) : Prop := tpS σ = 40 ∨ tpS σ = 124
def clAny (σ : List Int32) : Prop := tpS σ = 40
def JF (T : Nat → Int32) (n r : Nat) (cond : List Int32 → Prop) (p o k pl : Nat) : Prop := ∀ (m0 : OS) (σ : List Int32) (C : List (Int32 × Int32)) (bh : Int32) (m : OS), cond σ → Yd T n r m0 p o σ C bh m → ∃ m', loop (f11_condition_l47) ((1 : Int32), m) = some m' ∧ Bd r k pl m0 m'
def JO (T : Nat → Int32) (n r : Nat) (cond : List Int32 → Prop) (p o p' : Nat) (cs0 : List (Int32 × Int32)) (pe : List Int32) : Prop := ∀ (m0 : OS) (σ : List Int32) (C : List (Int32 × Int32)) (bh : Int32) (m : OS), cond σ → Yd T n r m0 p o σ C bh m → StE T n r m0 p' o (pe ++ σ) (C ++ cs0) (loop (f11_condition_l47) ((1 : Int32), m))
def AllL (T : Nat → Int32) (n r : Nat) (g : Int32 → OS → Option (Int32 × OS)) (p o : Nat) : Prop :=
  (∃ k pl, 0 < k ∧ k < 6 ∧ pl ≤ 200 ∧ BF T n g p k pl ∧ JF T n r clAll p o k pl) ∨ ∃ p' cs0 pe den, p < p' ∧ p' ≤ n ∧ 0 < (cs0 ++ emC pe).length ∧ EvS (cs0 ++ emC pe) den ∧ (∀ c ∈ pe, c = 38) ∧ ¬ hd T n p' = 38 ∧ BO T n g p p' den ∧ JO T n r clAll p o p' cs0 pe
def AnyL (T : Nat → Int32) (n r : Nat) (g : Int32 → OS → Option (Int32 × OS)) (p o : Nat) : Prop :=
  (∃ k pl, 0 < k ∧ k < 6 ∧ pl ≤ 200 ∧ BF T n g p k pl ∧ JF T n r clAny p o k pl) ∨ ∃ p' cs0 pe den, p < p' ∧ p' ≤ n ∧ 0 < (cs0 ++ emC pe).length ∧ EvS (cs0 ++ emC pe) den ∧ (∀ c ∈ pe, c = 38 ∨ c = 124) ∧ ¬ hd T n p' = 38 ∧ ¬ hd T n p' = 124 ∧ BO T n g p p' den ∧ JO T n r clAny p o p' cs0 pe
def LBF (T : Nat → Int32) (n : Nat) (L : Int32 → Int32 × Int32 × OS → Option (Int32 × OS)) (p : Nat) (D : (Nat → Int64) → Int64 × Bool) (k pl : Nat) : Prop := ∀ (ask : Int32) (s : OS) (cnt : Nat) (x f0 : Int32), (ask = 0 ∨ ask = 1) → cnt ≤ p → RdS T n p s → EvB ask f0 x (s.1 0 11) (D (s.2 3)) → ∃ x' s', L ask (x, nI cnt, s) = some (x', s') ∧ (x' = 0 ∨ x' = 1) ∧ Flt k pl s s'
def LBO (T : Nat → Int32) (n : Nat) (L : Int32 → Int32 × Int32 × OS → Option (Int32 × OS)) (p p' : Nat) (D D' : (Nat → Int64) → Int64 × Bool) : Prop := ∀ (ask : Int32) (s : OS) (cnt : Nat) (x f0 : Int32), (ask = 0 ∨ ask = 1) → cnt ≤ p → RdS T n p s → EvB ask f0 x (s.1 0 11) (D (s.2 3)) → ∃ x' s', L ask (x, nI cnt, s) = some (x', s') ∧ RdS T n p' s' ∧ FrR s s' ∧ EvB ask f0 x' (s'.1 0 11) (D' (s.2 3))
def YJF (T : Nat → Int32) (n r : Nat) (cond : List Int32 → Prop) (p o : Nat) (cs0 : List (Int32 × Int32)) (pe : List Int32) (k pl : Nat) : Prop := ∀ (m0 : OS) (σ : List Int32) (C : List (Int32 × Int32)) (R : Option OS), cond σ → StE T n r m0 p o (pe ++ σ) (C ++ cs0) R → ∃ m', R = some m' ∧ Bd r k pl m0 m'
def YJO (T : Nat → Int32) (n r : Nat) (cond : List Int32 → Prop) (p o : Nat) (cs0 : List (Int32 × Int32)) (pe : List Int32) (p' : Nat) (cs1 : List (Int32 × Int32)) (pe1 : List Int32) : Prop := ∀ (m0 : OS) (σ : List Int32) (C : List (Int32 × Int32)) (R : Option OS), cond σ → StE T n r m0 p o (pe ++ σ) (C ++ cs0) R → StE T n r m0 p' o (pe1 ++ σ) (C ++ cs1) R
theorem isB01 {x : Int32} (h : x = 0 ∨ x = 1) : isB x = true := by rcases h with rfl | rfl <;> decide
theorem EvB_and {ask f0 f1 f2 x y : Int32} {D d2 : (Nat → Int64) → Int64 × Bool} {env : Nat → Int64} (ha : ask = 0 ∨ ask = 1) (h1 : EvB ask f0 x f1 (D env)) (h2 : EvB (if ask = 0 ∨ x = 0 then 0 else 1) f1 y f2 (d2 env)) : EvB ask f0 (if x = 0 ∨ y = 0 then 0 else 1) f2 (boD 38 D d2 env) := by
  obtain ⟨a0, a1, a2, a3, a4, a5⟩ := h1
  obtain ⟨b0, b1', b2', b3', b4', b5'⟩ := h2
  have hx01 : (if x = 0 ∨ y = 0 then (0 : Int32) else 1) = 0 ∨ (if x = 0 ∨ y = 0 then (0 : Int32) else 1) = 1 := by
    by_cases c : x = 0 ∨ y = 0
    · exact Or.inl (if_pos c)
    · exact Or.inr (if_neg c)
  have h10 : ¬ (1 : Int32) = 0 := by decide
  have h01 : ¬ (0 : Int32) = 1 := by decide
  have l01 : ¬ (0 : Int64) = 1 := by decide
  unfold boD
  by_cases hb : (D env).2 = false ∧ (D env).1 = (if (38 : Int32) = 38 then 1 else 0)
  · rw [if_pos hb]
    rw [if_pos (show (38 : Int32) = 38 from rfl)] at hb
    have x1 : x = 1 := (a2 hb.1).mpr hb.2
    subst x1
    refine ⟨hx01, b1', fun h => ?_, fun h => ?_, fun h h' => ?_, fun h h' => ?_⟩
    · rcases b0 with z | z
      · rw [z, if_pos (Or.inr rfl)]
        exact ⟨fun e => absurd e h01, fun e => by have := (b2' h).mpr e; rw [z] at this; exact absurd this h01⟩
      · rw [z, if_neg (fun e => e.elim h10 h10)]
        exact ⟨fun _ => (b2' h).mp z, fun _ => rfl⟩
    · rw [b3' (if_pos (Or.inl h)), a3 h]
    · exact b4' (if_neg (fun e => e.elim (fun e => by rw [h] at e; exact h10 e) h10)) h'
    · rw [b5' (if_neg (fun e => e.elim (fun e => by rw [h] at e; exact h10 e) h10)) h', a5 h hb.1]
  · rw [if_neg hb]
    rw [if_pos (show (38 : Int32) = 38 from rfl)] at hb
    refine ⟨hx01, a1, fun h => ?_, fun h => ?_, fun h h' => ?_, fun h h' => ?_⟩
    · have hD : ¬ (D env).1 = 1 := fun e => hb ⟨h, e⟩
      have x0 : x = 0 := a0.resolve_right (fun e => hD ((a2 h).mp e))
      rw [if_pos (Or.inl x0)]
      exact ⟨fun e => absurd e h01, fun e => absurd e hD⟩
    · rw [b3' (if_pos (Or.inl h)), a3 h]
    · have f1e := a4 h h'
      by_cases c : ask = 0 ∨ x = 0
      · rw [b3' (if_pos c), f1e]
      · rcases hd2 : (d2 env).2 with _ | _
        · rw [b5' (if_neg c) hd2, f1e]
        · exact b4' (if_neg c) hd2
    · have hD : ¬ (D env).1 = 1 := fun e => hb ⟨h', e⟩
      have x0 : x = 0 := a0.resolve_right (fun e => hD ((a2 h').mp e))
      rw [b3' (if_pos (Or.inr x0)), a5 h h']
theorem EvB_or {ask f0 f1 f2 x y : Int32} {D d2 : (Nat → Int64) → Int64 × Bool} {env : Nat → Int64} (ha : ask = 0 ∨ ask = 1) (h1 : EvB ask f0 x f1 (D env)) (h2 : EvB (if ask = 1 ∧ x = 0 then 1 else 0) f1 y f2 (d2 env)) : EvB ask f0 (if x = 0 ∧ y = 0 then 0 else 1) f2 (boD 124 D d2 env) := by
  obtain ⟨a0, a1, a2, a3, a4, a5⟩ := h1
  obtain ⟨b0, b1', b2', b3', b4', b5'⟩ := h2
  have hx01 : (if x = 0 ∧ y = 0 then (0 : Int32) else 1) = 0 ∨ (if x = 0 ∧ y = 0 then (0 : Int32) else 1) = 1 := by
    by_cases c : x = 0 ∧ y = 0
    · exact Or.inl (if_pos c)
    · exact Or.inr (if_neg c)
  have h10 : ¬ (1 : Int32) = 0 := by decide
  have h01 : ¬ (0 : Int32) = 1 := by decide
  have l10 : ¬ (1 : Int64) = 0 := by decide
  have l01 : ¬ (0 : Int64) = 1 := by decide
  unfold boD
  by_cases hb : (D env).2 = false ∧ (D env).1 = (if (124 : Int32) = 38 then 1 else 0)
  · rw [if_pos hb]
    rw [if_neg (show ¬ (124 : Int32) = 38 by decide)] at hb
    have x0 : x = 0 := a0.resolve_right (fun e => by have := (a2 hb.1).mp e; rw [hb.2] at this; exact l01 this)
    subst x0
    refine ⟨hx01, b1', fun h => ?_, fun h => ?_, fun h h' => ?_, fun h h' => ?_⟩
    · rcases b0 with z | z
      · rw [z, if_pos ⟨rfl, rfl⟩]
        exact ⟨fun e => absurd e h01, fun e => by have := (b2' h).mpr e; rw [z] at this; exact absurd this h01⟩
      · rw [z, if_neg (fun e => h10 e.2)]
        exact ⟨fun _ => (b2' h).mp z, fun _ => rfl⟩
    · rw [b3' (if_neg (fun e => by rw [h] at e; exact h01 e.1)), a3 h]
    · exact b4' (if_pos ⟨h, rfl⟩) h'
    · rw [b5' (if_pos ⟨h, rfl⟩) h', a5 h hb.1]
  · rw [if_neg hb]
    rw [if_neg (show ¬ (124 : Int32) = 38 by decide)] at hb
    refine ⟨hx01, a1, fun h => ?_, fun h => ?_, fun h h' => ?_, fun h h' => ?_⟩
    · have hD : (D env).1 = 1 := a1.resolve_left (fun e => hb ⟨h, e⟩)
      have x1 : x = 1 := (a2 h).mpr hD
      rw [if_neg (fun e => by rw [x1] at e; exact h10 e.1)]
      exact ⟨fun _ => hD, fun _ => rfl⟩
    · rw [b3' (if_neg (fun e => by rw [h] at e; exact h01 e.1)), a3 h]
    · have f1e := a4 h h'
      by_cases c : ask = 1 ∧ x = 0
      · rcases hd2 : (d2 env).2 with _ | _
        · rw [b5' (if_pos c) hd2, f1e]
        · exact b4' (if_pos c) hd2
      · rw [b3' (if_neg c), f1e]
    · have hD : (D env).1 = 1 := a1.resolve_left (fun e => hb ⟨h', e⟩)
      have x1 : x = 1 := (a2 h').mpr hD
      rw [b3' (if_neg (fun e => by rw [x1] at e; exact h10 e.2)), a5 h h']
section
variable {rs : Int32 → Int32 → OS → Option (Int32 × OS)} {o ask : Int32}
theorem al_flt {s : OS} (h : ¬ s.1 0 6 = 0) {x : Int32} (hx : x = 0 ∨ x = 1) (y : Int32) : loop (f6_readAll_l10 rs o ask) (x, y, s) = some (x, s) := by
  refine loop_inr ?_
  unfold f6_readAll_l10 f6_readAll_j68
  show (if (160 : Int32) ≤ y then Option.map Sum.inr (chk (isB x) (some (x, s))) else Option.bind (f6_take 38 s) fun q_21 => if q_21.1 = 0 then Option.map Sum.inr (chk (isB x) (some (x, q_21.2))) else _) = _
  rw [x_take h (show ¬ (38 : Int32) = -1 by decide), Option.bind_some, isB01 hx, chk_p, if_pos rfl]
  by_cases c : (160 : Int32) ≤ y
  · rw [if_pos c]; rfl
  · rw [if_neg c]; rfl
theorem an_flt {s : OS} (h : ¬ s.1 0 6 = 0) {x : Int32} (hx : x = 0 ∨ x = 1) (y : Int32) : loop (f6_readAny_l10 rs o ask) (x, y, s) = some (x, s) := by
  refine loop_inr ?_
  unfold f6_readAny_l10 f6_readAny_j68
  show (if (160 : Int32) ≤ y then Option.map Sum.inr (chk (isB x) (some (x, s))) else Option.bind (f6_take 124 s) fun q_21 => if q_21.1 = 0 then Option.map Sum.inr (chk (isB x) (some (x, q_21.2))) else _) = _
  rw [x_take h (show ¬ (124 : Int32) = -1 by decide), Option.bind_some, isB01 hx, chk_p, if_pos rfl]
  by_cases c : (160 : Int32) ≤ y
  · rw [if_pos c]; rfl
  · rw [if_neg c]; rfl
theorem al_end {T : Nat → Int32} {n p : Nat} {s : OS} (h : RdS T n p s) (hn : n ≤ 160) (hp : p ≤ n) (ht : ¬ hd T n p = 38) {x : Int32} (hx : x = 0 ∨ x = 1) (y : Int32) : loop (f6_readAll_l10 rs o ask) (x, y, s) = some (x, s) := by
  refine loop_inr ?_
  unfold f6_readAll_l10 f6_readAll_j68
  show (if (160 : Int32) ≤ y then Option.map Sum.inr (chk (isB x) (some (x, s))) else Option.bind (f6_take 38 s) fun q_21 => if q_21.1 = 0 then Option.map Sum.inr (chk (isB x) (some (x, q_21.2))) else _) = _
  rcases c_take h hn hp (c := 38) (by decide) (by decide) with ⟨e, _⟩ | ⟨_, e⟩
  · exact absurd e ht
  · rw [e, Option.bind_some, isB01 hx, chk_p, if_pos rfl]
    by_cases c : (160 : Int32) ≤ y
    · rw [if_pos c]; rfl
    · rw [if_neg c]; rfl
theorem an_end {T : Nat → Int32} {n p : Nat} {s : OS} (h : RdS T n p s) (hn : n ≤ 160) (hp : p ≤ n) (ht : ¬ hd T n p = 124) {x : Int32} (hx : x = 0 ∨ x = 1) (y : Int32) : loop (f6_readAny_l10 rs o ask) (x, y, s) = some (x, s) := by
  refine loop_inr ?_
  unfold f6_readAny_l10 f6_readAny_j68
  show (if (160 : Int32) ≤ y then Option.map Sum.inr (chk (isB x) (some (x, s))) else Option.bind (f6_take 124 s) fun q_21 => if q_21.1 = 0 then Option.map Sum.inr (chk (isB x) (some (x, q_21.2))) else _) = _
  rcases c_take h hn hp (c := 124) (by decide) (by decide) with ⟨e, _⟩ | ⟨_, e⟩
  · exact absurd e ht
  · rw [e, Option.bind_some, isB01 hx, chk_p, if_pos rfl]
    by_cases c : (160 : Int32) ≤ y
    · rw [if_pos c]; rfl
    · rw [if_neg c]; rfl
theorem al_go {s s1 s2 : OS} {cnt : Nat} {x y : Int32} (hc : cnt < 160) (ht : f6_take 38 s = some (1, s1)) (ha : ask = 0 ∨ ask = 1) (hx : x = 0 ∨ x = 1) (hr : rs o (if ask = 0 ∨ x = 0 then 0 else 1) s1 = some (y, s2)) : f6_readAll_l10 rs o ask (x, nI cnt, s) = some (.inl (if x = 0 ∨ y = 0 then 0 else 1, nI (cnt + 1), s2)) := by
  have h10 : ¬ (1 : Int32) = 0 := by decide
  unfold f6_readAll_l10 f6_readAll_j41 f6_readAll_j42 f6_readAll_j60 f6_readAll_j61
  show (if (160 : Int32) ≤ nI cnt then _ else Option.bind (f6_take 38 s) fun q_21 => if q_21.1 = 0 then _ else _) = _
  rw [if_neg (show ¬ (160 : Int32) ≤ nI cnt from nI_ge (a := cnt) (b := 160) hc (by omega)), ht, Option.bind_some, if_neg h10]
  by_cases c1 : ask = 0
  · rw [if_pos (Or.inl c1)] at hr
    rw [if_pos c1, hr, Option.bind_some]
    by_cases c2 : x = 0
    · rw [if_pos c2, if_pos (Or.inl c2), nm_p, nI_1]
    · rw [if_neg c2]
      by_cases c3 : y = 0
      · rw [if_pos c3, if_pos (Or.inr c3), nm_p, nI_1]
      · rw [if_neg c3, if_neg (fun e => e.elim c2 c3), nm_p, nI_1]
  · rw [if_neg c1]
    by_cases c2 : x = 0
    · rw [if_pos (Or.inr c2)] at hr
      rw [if_pos c2, hr, Option.bind_some, if_pos c2, if_pos (Or.inl c2), nm_p, nI_1]
    · rw [if_neg (fun e => e.elim c1 c2)] at hr
      rw [if_neg c2, hr, Option.bind_some, if_neg c2]
      by_cases c3 : y = 0
      · rw [if_pos c3, if_pos (Or.inr c3), nm_p, nI_1]
      · rw [if_neg c3, if_neg (fun e => e.elim c2 c3), nm_p, nI_1]
theorem an_go {s s1 s2 : OS} {cnt : Nat} {x y : Int32} (hc : cnt < 160) (ht : f6_take 124 s = some (1, s1)) (ha : ask = 0 ∨ ask = 1) (hx : x = 0 ∨ x = 1) (hr : f6_readAll rs o (if ask = 1 ∧ x = 0 then 1 else 0) s1 = some (y, s2)) : f6_readAny_l10 rs o ask (x, nI cnt, s) = some (.inl (if x = 0 ∧ y = 0 then 0 else 1, nI (cnt + 1), s2)) := by
  have h10 : ¬ (1 : Int32) = 0 := by decide
  unfold f6_readAny_l10 f6_readAny_j41 f6_readAny_j42 f6_readAny_j56 f6_readAny_j61
  show (if (160 : Int32) ≤ nI cnt then _ else Option.bind (f6_take 124 s) fun q_21 => if q_21.1 = 0 then _ else _) = _
  rw [if_neg (show ¬ (160 : Int32) ≤ nI cnt from nI_ge (a := cnt) (b := 160) hc (by omega)), ht, Option.bind_some, if_neg h10]
  by_cases c1 : ask = 0
  · rw [if_neg (fun e => by rw [c1] at e; exact absurd e.1 (by decide))] at hr
    rw [if_pos c1, hr, Option.bind_some]
    by_cases c2 : x = 0
    · rw [if_pos c2]
      by_cases c3 : y = 0
      · rw [if_pos c3, if_pos ⟨c2, c3⟩, nm_p, nI_1]
      · rw [if_neg c3, if_neg (fun e => c3 e.2), nm_p, nI_1]
    · rw [if_neg c2, if_neg (fun e => c2 e.1), nm_p, nI_1]
  · have c1' := ha.resolve_left c1
    rw [if_neg c1]
    by_cases c2 : x = 0
    · rw [if_pos ⟨c1', c2⟩] at hr
      rw [if_pos c2, hr, Option.bind_some, if_pos c2]
      by_cases c3 : y = 0
      · rw [if_pos c3, if_pos ⟨c2, c3⟩, nm_p, nI_1]
      · rw [if_neg c3, if_neg (fun e => c3 e.2), nm_p, nI_1]
    · rw [if_neg (fun e => c2 e.2)] at hr
      rw [if_neg c2, hr, Option.bind_some, if_neg c2, if_neg (fun e => c2 e.1), nm_p, nI_1]
end
section
variable {T : Nat → Int32} {n r b p o : Nat} {m0 m : OS} {σ : List Int32} {C : List (Int32 × Int32)} {bh : Int32} {pe : List Int32}
theorem gb_and (h : Yd T n r m0 p o (pe ++ σ) C bh m) (hn : n ≤ 160) (hr : r < 20) (hσ : ¬ tpS σ = 38) (hpe : ∀ c ∈ pe, c = 38) (hc : hd T n p = 38) : ∃ m1, f11_goesBehind m = some (1, m1) ∧ Yd T n r m0 (p + 1) o (38 :: σ) (C ++ emC pe) bh m1 := by
  have hpn := (y_len h).2
  have hlt : p < n := hd_lt (fun e => by rw [e] at hc; exact absurd hc (by decide))
  obtain ⟨m1, k1, k2⟩ := y_joins0 hr (show p ≤ 160 by omega) hσ pe C m hpe h
  obtain ⟨m2, k3, k4⟩ := y_puts k2 (show p ≤ 190 by omega) hlt 38
  refine ⟨m2, ?_, k4⟩
  unfold f11_goesBehind f11_goesBehind_j17 f11_goesBehind_j29
  rw [y_here h hn, Option.bind_some, if_pos hc, if_neg (show ¬ hd T n p = 124 by rw [hc]; decide), k1, Option.bind_some, hc, k3, Option.bind_some]
theorem gb_or (h : Yd T n r m0 p o (pe ++ σ) C bh m) (hn : n ≤ 160) (hr : r < 20) (hσ : ¬ tpS σ = 38 ∧ ¬ tpS σ = 124) (hpe : ∀ c ∈ pe, c = 38 ∨ c = 124) (hc : hd T n p = 124) : ∃ m1, f11_goesBehind m = some (1, m1) ∧ Yd T n r m0 (p + 1) o (124 :: σ) (C ++ emC pe) bh m1 := by
  have hpn := (y_len h).2
  have hlt : p < n := hd_lt (fun e => by rw [e] at hc; exact absurd hc (by decide))
  obtain ⟨m1, k1, k2⟩ := y_joins1 hr (show p ≤ 160 by omega) hσ pe C m hpe h
  obtain ⟨m2, k3, k4⟩ := y_puts k2 (show p ≤ 190 by omega) hlt 124
  refine ⟨m2, ?_, k4⟩
  unfold f11_goesBehind f11_goesBehind_j17 f11_goesBehind_j29
  rw [y_here h hn, Option.bind_some, if_neg (show ¬ hd T n p = 38 by rw [hc]; decide), if_pos hc, if_pos hc, k1, Option.bind_some, hc, k3, Option.bind_some]
theorem gb_bad (h : Yd T n r m0 p o σ C bh m) (hn : n ≤ 160) (hc : ¬ isJn (hd T n p)) : ∃ m1, f11_goesBehind m = some (0, m1) ∧ Bd r 1 p m0 m1 := by
  have hpn := (y_len h).2
  have hb := y_bd h (k := 1) (pl := p) (by omega) (by omega) (by omega)
  have hw : f11_wrongs 1 (m.1 0 43) m = some (wI m 0 45 (-1000 * nI 1 - nI p)) := by rw [h.2.2.1.1]; exact y_wrongs h (nI 1) (nI p)
  refine ⟨_, ?_, hb⟩
  unfold f11_goesBehind
  rw [y_here h hn, Option.bind_some, if_neg (fun e => hc (Or.inl e)), if_neg (fun e => hc (Or.inr (Or.inl e))), if_neg (fun e => hc (Or.inr (Or.inr e))), hw, Option.bind_some]
theorem StE_bad {R : Option OS} (h : StE T n r m0 p o σ C R) (hn : n ≤ 160) (hc : ¬ isJn (hd T n p)) : ∃ m', R = some m' ∧ Bd r 1 p m0 m' := by
  rcases h with ⟨_, h⟩ | ⟨m', h1, h2⟩
  · exact h
  · obtain ⟨m1, q1, q2⟩ := gb_bad h2 hn hc
    refine ⟨m1, ?_, q2⟩
    rw [h1, loop_inl (s' := (0, m1)) (by rw [f47_0 h2, j69_good h2, q1, Option.bind_some])]
    exact f47_bad q2 0
theorem StE_real {R : Option OS} (h : StE T n r m0 p o σ C R) (hc : isJn (hd T n p)) : ∃ m', R = loop (f11_condition_l47) ((0 : Int32), m') ∧ Yd T n r m0 p o σ C 0 m' := h.resolve_left (fun e => e.1 hc)
theorem f47_opens (h : Yd T n r m0 p o σ C bh m) (hn : n ≤ 160) (ho : o < 6) (hc : hd T n p = 33 ∨ hd T n p = 40) : ∃ m1, loop (f11_condition_l47) ((1 : Int32), m) = loop (f11_condition_l47) ((1 : Int32), m1) ∧ Yd T n r m0 (p + 1) (o + 1) (hd T n p :: σ) C bh m1 := by
  have hpn := (y_len h).2
  have hlt : p < n := hd_lt (fun e => by rw [e] at hc; rcases hc with c | c <;> exact absurd c (by decide))
  obtain ⟨m1, k1, k2⟩ := y_opens h hn (show p ≤ 190 by omega) hlt ho
  refine ⟨m1, loop_same ?_, k2⟩
  rw [f47_1 h, f47_1 k2]
  have hb : f11_pieceOfC m = f11_pieceOfC m1 := by
    unfold f11_pieceOfC
    refine loop_inl ?_
    unfold f11_pieceOfC_l0 f11_pieceOfC_j25
    rw [y_good h, Option.bind_some, if_neg (show ¬ (1 : Int32) = 0 by decide), y_here h hn, Option.bind_some, k1, Option.bind_some, Option.bind_some]
    rcases hc with c | c
    · rw [if_pos c]
    · rw [if_neg (show ¬ hd T n p = 33 by rw [c]; decide), if_pos c]
  rw [hb]
theorem f47_open6 (h : Yd T n r m0 p 6 σ C bh m) (hn : n ≤ 160) (hc : hd T n p = 33 ∨ hd T n p = 40) : ∃ m', loop (f11_condition_l47) ((1 : Int32), m) = some m' ∧ Bd r 5 p m0 m' := by
  have hpn := (y_len h).2
  obtain ⟨m1, k1, k2⟩ := y_opens6 h hn (show p ≤ 190 by omega)
  have k3 : Bd r 5 p m0 (wI m1 0 51 0) := k2.slot (by omega) (by omega)
  refine f47_pbad h (m1 := wI m1 0 51 0) ?_ k3
  unfold f11_pieceOfC
  have hb : f11_pieceOfC_l0 m = some (.inl m1) := by
    unfold f11_pieceOfC_l0 f11_pieceOfC_j25
    rw [y_good h, Option.bind_some, if_neg (show ¬ (1 : Int32) = 0 by decide), y_here h hn, Option.bind_some, k1, Option.bind_some, Option.bind_some]
    rcases hc with c | c
    · rw [if_pos c]
    · rw [if_neg (show ¬ hd T n p = 33 by rw [c]; decide), if_pos c]
  rw [loop_inl hb]
  refine loop_inr ?_
  unfold f11_pieceOfC_l0 f11_pieceOfC_j32
  rw [b_good k2, Option.bind_some, if_pos rfl, nm_p, p39_bad k3]; rfl
theorem gb_close (h : Yd T n r m0 p (o + 1) (pe ++ 40 :: σ) C bh m) (hn : n ≤ 160) (hr : r < 20) (hpe : ∀ c ∈ pe, c = 38 ∨ c = 124) (hc : hd T n p = 41) : ∃ m1, f11_goesBehind m = (if m1.1 0 49 = 0 then f11_goesBehind_j104 1 m1 else f11_goesBehind_j104 0 m1) ∧ Yd T n r m0 (p + 1) o σ (C ++ emC pe) bh m1 := by
  have hpn := (y_len h).2
  have hlt : p < n := hd_lt (fun e => by rw [e] at hc; exact absurd hc (by decide))
  obtain ⟨m1, k1, k2⟩ := y_joins1 (σ := 40 :: σ) hr (show p ≤ 160 by omega) ⟨show ¬ (40 : Int32) = 38 by decide, show ¬ (40 : Int32) = 124 by decide⟩ pe C m hpe h
  have k3 := y_drop (k2.wk (show p ≤ p + 1 by omega))
  have k4 := k3.opn (o' := o) (v := (wI m1 0 49 (m1.1 0 49 - 1)).1 0 48 - 1) (by rw [k3.2.2.1.2.2.2.1, ← nI_1, add_sub1])
  have k5 := (k4.place (q := 0) hlt).wk (show p ≤ p + 1 by omega)
  refine ⟨_, ?_, k5⟩
  unfold f11_goesBehind
  rw [y_here h hn, Option.bind_some, if_neg (show ¬ hd T n p = 38 by rw [hc]; decide), if_neg (show ¬ hd T n p = 124 by rw [hc]; decide), if_pos hc, k1, Option.bind_some]
  simp only [nm_p]
theorem YB.over (h : YB T n r m0 b p o σ C bh m) : YB T n r m0 b p o σ C bh (wI m 0 50 0) := by
  obtain ⟨hF, h1, ⟨g1, g2, g3, g4, g5, g6, g7⟩, h3, h4, h5, h6⟩ := h
  exact ⟨hF.slot (by omega), h1, ⟨g1, g2, g3, g4, g5, rfl, g7⟩, h3, h4, h5, h6⟩
end
theorem all_loop {T : Nat → Int32} {n r o : Nat} {rs : Int32 → Int32 → OS → Option (Int32 × OS)} (hn : n ≤ 160) (hr : r < 20) (hsin : ∀ q, q ≤ n → SinL T n r (fun ask s => rs (nI o) ask s) q o) : ∀ (N p : Nat) (cs0 : List (Int32 × Int32)) (pe : List Int32) (D : (Nat → Int64) → Int64 × Bool), n - p ≤ N → p ≤ n → (∀ c ∈ pe, c = 38) → 0 < (cs0 ++ emC pe).length → EvS (cs0 ++ emC pe) D →
    (∃ k pl, 0 < k ∧ k < 6 ∧ pl ≤ 200 ∧ LBF T n (fun ask t => loop (f6_readAll_l10 rs (nI o) ask) t) p D k pl ∧ YJF T n r clAll p o cs0 pe k pl) ∨ ∃ p' cs1 pe1 D', p ≤ p' ∧ p' ≤ n ∧ 0 < (cs1 ++ emC pe1).length ∧ EvS (cs1 ++ emC pe1) D' ∧ (∀ c ∈ pe1, c = 38) ∧ ¬ hd T n p' = 38 ∧ LBO T n (fun ask t => loop (f6_readAll_l10 rs (nI o) ask) t) p p' D D' ∧ YJO T n r clAll p o cs0 pe p' cs1 pe1 := by
  intro N
  induction N with
  | zero =>
    intro p cs0 pe D hN hp hpe h0 hE
    have ht : ¬ hd T n p = 38 := fun e => by have := hd_lt (T := T) (n := n) (p := p) (by rw [e]; decide); omega
    exact Or.inr ⟨p, cs0, pe, D, Nat.le_refl _, hp, h0, hE, hpe, ht, fun ask s cnt x f0 ha hc hs hv => ⟨x, s, al_end hs hn hp ht hv.1 _, hs, FrR.refl s, hv⟩, fun m0 σ C R _ hm => hm⟩
  | succ N ih =>
    intro p cs0 pe D hN hp hpe h0 hE
    by_cases ht : hd T n p = 38
    · have hlt := hd_lt (T := T) (n := n) (p := p) (by rw [ht]; decide)
      have goR : ∀ (m0 : OS) (σ : List Int32) (C : List (Int32 × Int32)) (R : Option OS), clAll σ → StE T n r m0 p o (pe ++ σ) (C ++ cs0) R → ∃ m1, R = loop (f11_condition_l47) ((1 : Int32), m1) ∧ Yd T n r m0 (p + 1) o (List.replicate 0 33 ++ (38 :: σ)) (C ++ (cs0 ++ emC pe)) 0 m1 := by
        intro m0 σ C R hσ hm
        obtain ⟨m, e1, e2⟩ := StE_real hm (Or.inl ht)
        obtain ⟨m1, q1, q2⟩ := gb_and e2 hn hr (fun e => by rcases hσ with c | c <;> rw [c] at e <;> exact absurd e (by decide)) hpe ht
        exact ⟨m1, e1.trans (loop_inl (by rw [f47_0 e2, j69_good e2, q1, Option.bind_some])), by rw [List.append_assoc] at q2; exact q2⟩
      rcases hsin (p + 1) (by omega) with ⟨k, pl, k1, k2, k3, k4, k5⟩ | ⟨p2, cs2, d2, k1, k2, k3, k4, k5, k6⟩
      · refine Or.inl ⟨k, pl, k1, k2, k3, fun ask s cnt x f0 ha hc hs hv => ?_, fun m0 σ C R hσ hm => ?_⟩
        · rcases c_take hs hn hp (c := 38) (by decide) (by decide) with ⟨_, _, s1, t1, t2, t3, t4⟩ | ⟨e, _⟩
          · obtain ⟨y, s2, e1, e2, e3⟩ := k4 (if ask = 0 ∨ x = 0 then 0 else 1) s1 (by
              by_cases c : ask = 0 ∨ x = 0
              · exact Or.inl (if_pos c)
              · exact Or.inr (if_neg c)) t2
            have w1 := al_go (show cnt < 160 by omega) t1 ha hv.1 (show rs (nI o) _ s1 = some (y, s2) from e1)
            have hF3 : Flt k pl s s2 := e3.fr t3
            have hx01 : (if x = 0 ∨ y = 0 then (0 : Int32) else 1) = 0 ∨ (if x = 0 ∨ y = 0 then (0 : Int32) else 1) = 1 := by
              by_cases c : x = 0 ∨ y = 0
              · exact Or.inl (if_pos c)
              · exact Or.inr (if_neg c)
            refine ⟨if x = 0 ∨ y = 0 then 0 else 1, s2, ?_, hx01, hF3⟩
            show loop _ _ = _
            rw [loop_inl w1]
            exact al_flt hF3.2.2.1 hx01 _
          · exact absurd ht e
        · obtain ⟨m1, q1, q2⟩ := goR m0 σ C R hσ hm
          rw [q1]
          exact k5 m0 0 o (38 :: σ) _ 0 m1 rfl (Or.inr (Or.inl rfl)) q2
      · have hE2 := EvS_bo (y := 38) k3 hE k4 (Or.inl rfl)
        have hl : cs0 ++ emC pe ++ cs2 ++ [((38 : Int32), (0 : Int32))] = (cs0 ++ emC pe ++ cs2) ++ emC [38] := rfl
        rw [hl] at hE2
        have clsT : ∀ ask s cnt x f0, (ask = 0 ∨ ask = 1) → cnt ≤ p → RdS T n p s → EvB ask f0 x (s.1 0 11) (D (s.2 3)) → ∃ x' s3, f6_readAll_l10 rs (nI o) ask (x, nI cnt, s) = some (.inl (x', nI (cnt + 1), s3)) ∧ RdS T n p2 s3 ∧ FrR s s3 ∧ EvB ask f0 x' (s3.1 0 11) (boD 38 D d2 (s3.2 3)) := by
          intro ask s cnt x f0 ha hc hs hv
          rcases c_take hs hn hp (c := 38) (by decide) (by decide) with ⟨_, _, s1, t1, t2, t3, t4⟩ | ⟨e, _⟩
          · obtain ⟨y, s2, e1, e2, e3, e4⟩ := k5 (if ask = 0 ∨ x = 0 then 0 else 1) s1 (by
              by_cases c : ask = 0 ∨ x = 0
              · exact Or.inl (if_pos c)
              · exact Or.inr (if_neg c)) t2
            have w1 := al_go (show cnt < 160 by omega) t1 ha hv.1 (show rs (nI o) _ s1 = some (y, s2) from e1)
            refine ⟨_, s2, w1, e2, t3.trans e3, ?_⟩
            rw [t4, congrFun t3.2.1 3] at e4
            rw [congrFun (t3.trans e3).2.1 3]
            exact EvB_and ha hv e4
          · exact absurd ht e
        rcases ih p2 (cs0 ++ emC pe ++ cs2) [38] _ (by omega) k2 (fun c hc => by rw [List.mem_singleton] at hc; exact hc) (by rw [List.length_append]; show 0 < _ + 1; omega) hE2 with ⟨k, pl, l1, l2, l3, l4, l5⟩ | ⟨p3, cs3, pe3, D3, l1, l2, l3, l4, l5, l6, l7, l8⟩
        · refine Or.inl ⟨k, pl, l1, l2, l3, fun ask s cnt x f0 ha hc hs hv => ?_, fun m0 σ C R hσ hm => ?_⟩
          · obtain ⟨x', s3, w1, w2, w3, w4⟩ := clsT ask s cnt x f0 ha hc hs hv
            obtain ⟨v, s4, z1, z2, z3⟩ := l4 ask s3 (cnt + 1) x' f0 ha (by omega) w2 w4
            exact ⟨v, s4, (loop_inl w1).trans z1, z2, z3.fr w3⟩
          · obtain ⟨m1, q1, q2⟩ := goR m0 σ C R hσ hm
            have q3 := k6 m0 0 o (38 :: σ) _ 0 m1 rfl (Or.inr (Or.inl rfl)) q2
            rw [q1]
            refine l5 m0 σ C _ hσ ?_
            have e : C ++ (cs0 ++ emC pe) ++ cs2 ++ List.replicate 0 (2, 0) = C ++ (cs0 ++ emC pe ++ cs2) := by
              show C ++ (cs0 ++ emC pe) ++ cs2 ++ [] = _
              rw [List.append_nil, List.append_assoc C]
            rw [e] at q3; exact q3
        · refine Or.inr ⟨p3, cs3, pe3, D3, by omega, l2, l3, l4, l5, l6, fun ask s cnt x f0 ha hc hs hv => ?_, fun m0 σ C R hσ hm => ?_⟩
          · obtain ⟨x', s3, w1, w2, w3, w4⟩ := clsT ask s cnt x f0 ha hc hs hv
            obtain ⟨v, s4, z1, z2, z3, z4⟩ := l7 ask s3 (cnt + 1) x' f0 ha (by omega) w2 w4
            rw [congrFun w3.2.1 3] at z4
            exact ⟨v, s4, (loop_inl w1).trans z1, z2, w3.trans z3, z4⟩
          · obtain ⟨m1, q1, q2⟩ := goR m0 σ C R hσ hm
            have q3 := k6 m0 0 o (38 :: σ) _ 0 m1 rfl (Or.inr (Or.inl rfl)) q2
            rw [q1]
            refine l8 m0 σ C _ hσ ?_
            have e : C ++ (cs0 ++ emC pe) ++ cs2 ++ List.replicate 0 (2, 0) = C ++ (cs0 ++ emC pe ++ cs2) := by
              show C ++ (cs0 ++ emC pe) ++ cs2 ++ [] = _
              rw [List.append_nil, List.append_assoc C]
            rw [e] at q3; exact q3
    · exact Or.inr ⟨p, cs0, pe, D, Nat.le_refl _, hp, h0, hE, hpe, ht, fun ask s cnt x f0 ha hc hs hv => ⟨x, s, al_end hs hn hp ht hv.1 _, hs, FrR.refl s, hv⟩, fun m0 σ C R _ hm => hm⟩
theorem all_do {T : Nat → Int32} {n r p o : Nat} {rs : Int32 → Int32 → OS → Option (Int32 × OS)} (hn : n ≤ 160) (hr : r < 20) (hp : p ≤ n) (hsin : ∀ q, q ≤ n → SinL T n r (fun ask s => rs (nI o) ask s) q o) : AllL T n r (fun ask s => f6_readAll rs (nI o) ask s) p o := by
  have hcC : ∀ σ : List Int32, clAll σ → clC σ := fun σ h => h.elim Or.inl (fun h => Or.inr (Or.inr h))
  rcases hsin p hp with ⟨k, pl, k1, k2, k3, k4, k5⟩ | ⟨p1, cs1, d1, k1, k2, k3, k4, k5, k6⟩
  · refine Or.inl ⟨k, pl, k1, k2, k3, fun ask s ha hs => ?_, fun m0 σ C bh m hσ hm => k5 m0 0 o σ C bh m rfl (hcC σ hσ) hm⟩
    obtain ⟨x, s', e1, e2, e3⟩ := k4 ask s ha hs
    refine ⟨x, s', ?_, e2, e3⟩
    show f6_readAll rs (nI o) ask s = _
    unfold f6_readAll
    rw [show rs (nI o) ask s = some (x, s') from e1, Option.bind_some]
    exact al_flt e3.2.2.1 e2 _
  · have hl : cs1 = cs1 ++ emC [] := (List.append_nil cs1).symm
    have hst : ∀ (m0 : OS) (σ : List Int32) (C : List (Int32 × Int32)) (bh : Int32) (m : OS), clAll σ → Yd T n r m0 p o σ C bh m → StE T n r m0 p1 o ([] ++ σ) (C ++ cs1) (loop (f11_condition_l47) ((1 : Int32), m)) := by
      intro m0 σ C bh m hσ hm
      have q := k6 m0 0 o σ C bh m rfl (hcC σ hσ) hm
      have e : C ++ cs1 ++ List.replicate 0 (2, 0) = C ++ cs1 := List.append_nil _
      rw [e] at q; exact q
    rcases all_loop hn hr hsin n p1 cs1 [] d1 (by omega) k2 (fun c hc => by cases hc) (by rw [← hl]; exact k3) (by rw [← hl]; exact k4) with ⟨k, pl, l1, l2, l3, l4, l5⟩ | ⟨p3, cs3, pe3, D3, l1, l2, l3, l4, l5, l6, l7, l8⟩
    · refine Or.inl ⟨k, pl, l1, l2, l3, fun ask s ha hs => ?_, fun m0 σ C bh m hσ hm => l5 m0 σ C _ hσ (hst m0 σ C bh m hσ hm)⟩
      obtain ⟨x, s1, e1, e2, e3, e4⟩ := k5 ask s ha hs
      obtain ⟨v', s', z1, z2, z3⟩ := l4 ask s1 0 x (s.1 0 11) ha (Nat.zero_le _) e2 (by rw [congrFun e3.2.1 3]; exact e4)
      refine ⟨v', s', ?_, z2, z3.fr e3⟩
      show f6_readAll rs (nI o) ask s = _
      unfold f6_readAll
      rw [show rs (nI o) ask s = some (x, s1) from e1, Option.bind_some]
      exact z1
    · refine Or.inr ⟨p3, cs3, pe3, D3, by omega, l2, l3, l4, l5, l6, fun ask s ha hs => ?_, fun m0 σ C bh m hσ hm => l8 m0 σ C _ hσ (hst m0 σ C bh m hσ hm)⟩
      obtain ⟨x, s1, e1, e2, e3, e4⟩ := k5 ask s ha hs
      obtain ⟨v', s', z1, z2, z3, z4⟩ := l7 ask s1 0 x (s.1 0 11) ha (Nat.zero_le _) e2 (by rw [congrFun e3.2.1 3]; exact e4)
      rw [congrFun e3.2.1 3] at z4
      refine ⟨v', s', ?_, z2, e3.trans z3, z4⟩
      show f6_readAll rs (nI o) ask s = _
      unfold f6_readAll
      rw [show rs (nI o) ask s = some (x, s1) from e1, Option.bind_some]
      exact z1
theorem any_loop {T : Nat → Int32} {n r o : Nat} {rs : Int32 → Int32 → OS → Option (Int32 × OS)} (hn : n ≤ 160) (hr : r < 20) (hall : ∀ q, q ≤ n → AllL T n r (fun ask s => f6_readAll rs (nI o) ask s) q o) : ∀ (N p : Nat) (cs0 : List (Int32 × Int32)) (pe : List Int32) (D : (Nat → Int64) → Int64 × Bool), n - p ≤ N → p ≤ n → (∀ c ∈ pe, c = 38 ∨ c = 124) → ¬ hd T n p = 38 → 0 < (cs0 ++ emC pe).length → EvS (cs0 ++ emC pe) D →
    (∃ k pl, 0 < k ∧ k < 6 ∧ pl ≤ 200 ∧ LBF T n (fun ask t => loop (f6_readAny_l10 rs (nI o) ask) t) p D k pl ∧ YJF T n r clAny p o cs0 pe k pl) ∨ ∃ p' cs1 pe1 D', p ≤ p' ∧ p' ≤ n ∧ 0 < (cs1 ++ emC pe1).length ∧ EvS (cs1 ++ emC pe1) D' ∧ (∀ c ∈ pe1, c = 38 ∨ c = 124) ∧ ¬ hd T n p' = 38 ∧ ¬ hd T n p' = 124 ∧ LBO T n (fun ask t => loop (f6_readAny_l10 rs (nI o) ask) t) p p' D D' ∧ YJO T n r clAny p o cs0 pe p' cs1 pe1 := by
  intro N
  induction N with
  | zero =>
    intro p cs0 pe D hN hp hpe h38 h0 hE
    have ht : ¬ hd T n p = 124 := fun e => by have := hd_lt (T := T) (n := n) (p := p) (by rw [e]; decide); omega
    exact Or.inr ⟨p, cs0, pe, D, Nat.le_refl _, hp, h0, hE, hpe, h38, ht, fun ask s cnt x f0 ha hc hs hv => ⟨x, s, an_end hs hn hp ht hv.1 _, hs, FrR.refl s, hv⟩, fun m0 σ C R _ hm => hm⟩
  | succ N ih =>
    intro p cs0 pe D hN hp hpe h38 h0 hE
    by_cases ht : hd T n p = 124
    · have hlt := hd_lt (T := T) (n := n) (p := p) (by rw [ht]; decide)
      have goR : ∀ (m0 : OS) (σ : List Int32) (C : List (Int32 × Int32)) (R : Option OS), clAny σ → StE T n r m0 p o (pe ++ σ) (C ++ cs0) R → ∃ m1, R = loop (f11_condition_l47) ((1 : Int32), m1) ∧ Yd T n r m0 (p + 1) o (124 :: σ) (C ++ (cs0 ++ emC pe)) 0 m1 := by
        intro m0 σ C R hσ hm
        obtain ⟨m, e1, e2⟩ := StE_real hm (Or.inr (Or.inl ht))
        have hσ : tpS σ = 40 := hσ
        obtain ⟨m1, q1, q2⟩ := gb_or e2 hn hr ⟨by rw [hσ]; decide, by rw [hσ]; decide⟩ hpe ht
        exact ⟨m1, e1.trans (loop_inl (by rw [f47_0 e2, j69_good e2, q1, Option.bind_some])), by rw [List.append_assoc] at q2; exact q2⟩
      have ha01 : ∀ ask x : Int32, (if ask = 1 ∧ x = 0 then (1 : Int32) else 0) = 0 ∨ (if ask = 1 ∧ x = 0 then (1 : Int32) else 0) = 1 := fun ask x => by
        by_cases c : ask = 1 ∧ x = 0
        · exact Or.inr (if_pos c)
        · exact Or.inl (if_neg c)
      rcases hall (p + 1) (by omega) with ⟨k, pl, k1, k2, k3, k4, k5⟩ | ⟨p2, cs2, pe2, d2, k1, k2, k3, k4, k5, k5', k6, k7⟩
      · refine Or.inl ⟨k, pl, k1, k2, k3, fun ask s cnt x f0 ha hc hs hv => ?_, fun m0 σ C R hσ hm => ?_⟩
        · rcases c_take hs hn hp (c := 124) (by decide) (by decide) with ⟨_, _, s1, t1, t2, t3, t4⟩ | ⟨e, _⟩
          · obtain ⟨y, s2, e1, e2, e3⟩ := k4 (if ask = 1 ∧ x = 0 then 1 else 0) s1 (ha01 ask x) t2
            have w1 := an_go (show cnt < 160 by omega) t1 ha hv.1 (show f6_readAll rs (nI o) _ s1 = some (y, s2) from e1)
            have hF3 : Flt k pl s s2 := e3.fr t3
            have hx01 : (if x = 0 ∧ y = 0 then (0 : Int32) else 1) = 0 ∨ (if x = 0 ∧ y = 0 then (0 : Int32) else 1) = 1 := by
              by_cases c : x = 0 ∧ y = 0
              · exact Or.inl (if_pos c)
              · exact Or.inr (if_neg c)
            refine ⟨if x = 0 ∧ y = 0 then 0 else 1, s2, ?_, hx01, hF3⟩
            show loop _ _ = _
            rw [loop_inl w1]
            exact an_flt hF3.2.2.1 hx01 _
          · exact absurd ht e
        · obtain ⟨m1, q1, q2⟩ := goR m0 σ C R hσ hm
          rw [q1]
          exact k5 m0 (124 :: σ) _ 0 m1 (Or.inr rfl) q2
      · have hE2 := EvS_bo (y := 124) k3 hE k4 (Or.inr rfl)
        have hl : cs0 ++ emC pe ++ (cs2 ++ emC pe2) ++ [((124 : Int32), (0 : Int32))] = (cs0 ++ emC pe ++ cs2) ++ emC (pe2 ++ [124]) := by
          rw [emC_app, ← List.append_assoc, ← List.append_assoc]; rfl
        rw [hl] at hE2
        have clsT : ∀ ask s cnt x f0, (ask = 0 ∨ ask = 1) → cnt ≤ p → RdS T n p s → EvB ask f0 x (s.1 0 11) (D (s.2 3)) → ∃ x' s3, f6_readAny_l10 rs (nI o) ask (x, nI cnt, s) = some (.inl (x', nI (cnt + 1), s3)) ∧ RdS T n p2 s3 ∧ FrR s s3 ∧ EvB ask f0 x' (s3.1 0 11) (boD 124 D d2 (s3.2 3)) := by
          intro ask s cnt x f0 ha hc hs hv
          rcases c_take hs hn hp (c := 124) (by decide) (by decide) with ⟨_, _, s1, t1, t2, t3, t4⟩ | ⟨e, _⟩
          · obtain ⟨y, s2, e1, e2, e3, e4⟩ := k6 (if ask = 1 ∧ x = 0 then 1 else 0) s1 (ha01 ask x) t2
            have w1 := an_go (show cnt < 160 by omega) t1 ha hv.1 (show f6_readAll rs (nI o) _ s1 = some (y, s2) from e1)
            refine ⟨_, s2, w1, e2, t3.trans e3, ?_⟩
            rw [t4, congrFun t3.2.1 3] at e4
            rw [congrFun (t3.trans e3).2.1 3]
            exact EvB_or ha hv e4
          · exact absurd ht e
        rcases ih p2 (cs0 ++ emC pe ++ cs2) (pe2 ++ [124]) _ (by omega) k2 (fun c hc => by
            rw [List.mem_append, List.mem_singleton] at hc
            rcases hc with hc | hc
            · exact Or.inl (k5 c hc)
            · exact Or.inr hc) k5' (by rw [← hl, List.length_append]; show 0 < _ + 1; omega) hE2 with ⟨k, pl, l1, l2, l3, l4, l5⟩ | ⟨p3, cs3, pe3, D3, l1, l2, l3, l4, l5, l6, l6', l7, l8⟩
        · refine Or.inl ⟨k, pl, l1, l2, l3, fun ask s cnt x f0 ha hc hs hv => ?_, fun m0 σ C R hσ hm => ?_⟩
          · obtain ⟨x', s3, w1, w2, w3, w4⟩ := clsT ask s cnt x f0 ha hc hs hv
            obtain ⟨v, s4, z1, z2, z3⟩ := l4 ask s3 (cnt + 1) x' f0 ha (by omega) w2 w4
            exact ⟨v, s4, (loop_inl w1).trans z1, z2, z3.fr w3⟩
          · obtain ⟨m1, q1, q2⟩ := goR m0 σ C R hσ hm
            have q3 := k7 m0 (124 :: σ) _ 0 m1 (Or.inr rfl) q2
            rw [q1]
            refine l5 m0 σ C _ hσ ?_
            rw [List.append_assoc C] at q3; rw [List.append_assoc pe2]; exact q3
        · refine Or.inr ⟨p3, cs3, pe3, D3, by omega, l2, l3, l4, l5, l6, l6', fun ask s cnt x f0 ha hc hs hv => ?_, fun m0 σ C R hσ hm => ?_⟩
          · obtain ⟨x', s3, w1, w2, w3, w4⟩ := clsT ask s cnt x f0 ha hc hs hv
            obtain ⟨v, s4, z1, z2, z3, z4⟩ := l7 ask s3 (cnt + 1) x' f0 ha (by omega) w2 w4
            rw [congrFun w3.2.1 3] at z4
            exact ⟨v, s4, (loop_inl w1).trans z1, z2, w3.trans z3, z4⟩
          · obtain ⟨m1, q1, q2⟩ := goR m0 σ C R hσ hm
            have q3 := k7 m0 (124 :: σ) _ 0 m1 (Or.inr rfl) q2
            rw [q1]
            refine l8 m0 σ C _ hσ ?_
            rw [List.append_assoc C] at q3; rw [List.append_assoc pe2]; exact q3
    · exact Or.inr ⟨p, cs0, pe, D, Nat.le_refl _, hp, h0, hE, hpe, h38, ht, fun ask s cnt x f0 ha hc hs hv => ⟨x, s, an_end hs hn hp ht hv.1 _, hs, FrR.refl s, hv⟩, fun m0 σ C R _ hm => hm⟩
theorem any_do {T : Nat → Int32} {n r p o : Nat} {rs : Int32 → Int32 → OS → Option (Int32 × OS)} (hn : n ≤ 160) (hr : r < 20) (hp : p ≤ n) (hall : ∀ q, q ≤ n → AllL T n r (fun ask s => f6_readAll rs (nI o) ask s) q o) : AnyL T n r (fun ask s => f6_readAny rs (nI o) ask s) p o := by
  rcases hall p hp with ⟨k, pl, k1, k2, k3, k4, k5⟩ | ⟨p1, cs1, pe1, d1, k1, k2, k3, k4, k5, k5', k6, k7⟩
  · refine Or.inl ⟨k, pl, k1, k2, k3, fun ask s ha hs => ?_, fun m0 σ C bh m hσ hm => k5 m0 σ C bh m (Or.inl hσ) hm⟩
    obtain ⟨x, s', e1, e2, e3⟩ := k4 ask s ha hs
    refine ⟨x, s', ?_, e2, e3⟩
    show f6_readAny rs (nI o) ask s = _
    unfold f6_readAny
    rw [show f6_readAll rs (nI o) ask s = some (x, s') from e1, Option.bind_some]
    exact an_flt e3.2.2.1 e2 _
  · rcases any_loop hn hr hall n p1 cs1 pe1 d1 (by omega) k2 (fun c hc => Or.inl (k5 c hc)) k5' k3 k4 with ⟨k, pl, l1, l2, l3, l4, l5⟩ | ⟨p3, cs3, pe3, D3, l1, l2, l3, l4, l5, l6, l6', l7, l8⟩
    · refine Or.inl ⟨k, pl, l1, l2, l3, fun ask s ha hs => ?_, fun m0 σ C bh m hσ hm => l5 m0 σ C _ hσ (k7 m0 σ C bh m (Or.inl hσ) hm)⟩
      obtain ⟨x, s1, e1, e2, e3, e4⟩ := k6 ask s ha hs
      obtain ⟨v', s', z1, z2, z3⟩ := l4 ask s1 0 x (s.1 0 11) ha (Nat.zero_le _) e2 (by rw [congrFun e3.2.1 3]; exact e4)
      refine ⟨v', s', ?_, z2, z3.fr e3⟩
      show f6_readAny rs (nI o) ask s = _
      unfold f6_readAny
      rw [show f6_readAll rs (nI o) ask s = some (x, s1) from e1, Option.bind_some]
      exact z1
    · refine Or.inr ⟨p3, cs3, pe3, D3, by omega, l2, l3, l4, l5, l6, l6', fun ask s ha hs => ?_, fun m0 σ C bh m hσ hm => l8 m0 σ C _ hσ (k7 m0 σ C bh m (Or.inl hσ) hm)⟩
      obtain ⟨x, s1, e1, e2, e3, e4⟩ := k6 ask s ha hs
      obtain ⟨v', s', z1, z2, z3, z4⟩ := l7 ask s1 0 x (s.1 0 11) ha (Nat.zero_le _) e2 (by rw [congrFun e3.2.1 3]; exact e4)
      rw [congrFun e3.2.1 3] at z4
      refine ⟨v', s', ?_, z2, e3.trans z3, z4⟩
      show f6_readAny rs (nI o) ask s = _
      unfold f6_readAny
      rw [show f6_readAll rs (nI o) ask s = some (x, s1) from e1, Option.bind_some]
      exact z1
