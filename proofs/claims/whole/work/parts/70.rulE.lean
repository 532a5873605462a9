-- rules: factors on both sides
theorem loop_same {S R : Type} {f : S → Option (S ⊕ R)} {s s' : S} (h : f s = f s') : loop f s = loop f s' := by
  have hn : ∀ n, loopN f n s = loopN f n s' := fun n => by
    cases n with
    | zero => rfl
    | succ n => unfold loopN; rw [h]
  unfold loop
  simp only [hn]
theorem wI_2' (s : OS) (r i : Nat) (v w : Int32) : wI (wI s r i v) r i w = wI s r i w := by
  unfold wI
  refine Prod.ext (funext fun r' => ?_) rfl
  show (if r' = r then (fun i' => if i' = i then w else (if r = r then (fun i' => if i' = i then v else s.1 r i') else s.1 r) i') else (if r' = r then (fun i' => if i' = i then v else s.1 r i') else s.1 r')) = (if r' = r then (fun i' => if i' = i then w else s.1 r i') else s.1 r')
  by_cases c : r' = r
  · rw [if_pos c, if_pos c]
    funext i'
    by_cases c2 : i' = i
    · rw [if_pos c2, if_pos c2]
    · rw [if_neg c2, if_neg c2, if_pos rfl, if_neg c2]
  · rw [if_neg c, if_neg c, if_neg c]
/-- what the class's value and its refusal have to do with what is due -/
def Ev (ask f : Int32) (v : Int64) (f' : Int32) (d : Int64 × Bool) : Prop := (d.2 = false → v = d.1) ∧ (ask = 0 → f' = f) ∧ (ask = 1 → d.2 = true → f' = 1) ∧ (ask = 1 → d.2 = false → f' = f)
theorem Ev_ar {c ask f0 f1 f2 f3 : Int32} {val v2 val' : Int64} {D d2 : Int64 × Bool} (h1 : Ev ask f0 val f1 D) (h2 : Ev ask f1 v2 f2 d2) (h01 : f2 = 0 ∨ f2 = 1) (hv : ((c = 47 ∨ c = 37) ∧ v2 = 0 ∧ f3 = (if f2 = 0 ∧ ask = 0 then 0 else 1)) ∨ (¬ ((c = 47 ∨ c = 37) ∧ v2 = 0) ∧ val' = wk c val v2 ∧ f3 = f2)) : Ev ask f0 val' f3 (wk c D.1 d2.1, opR c d2.1 D.2 d2.2) := by
  obtain ⟨a1, a2, a3, a4⟩ := h1
  obtain ⟨b1', b2', b3', b4'⟩ := h2
  have hop : opR c d2.1 D.2 d2.2 = false → D.2 = false ∧ d2.2 = false ∧ ¬ ((c = 47 ∨ c = 37) ∧ d2.1 = 0) := by
    intro h
    unfold opR at h
    rw [Bool.or_eq_false_iff, Bool.or_eq_false_iff, Bool.and_eq_false_iff] at h
    refine ⟨h.1, h.2.1, fun e => ?_⟩
    rcases h.2.2 with z | z
    · exact (of_decide_eq_false z) e.1
    · exact (of_decide_eq_false z) e.2
  have hop1 : opR c d2.1 D.2 d2.2 = true → D.2 = true ∨ d2.2 = true ∨ ((c = 47 ∨ c = 37) ∧ d2.1 = 0) := by
    intro h
    unfold opR at h
    rw [Bool.or_eq_true, Bool.or_eq_true, Bool.and_eq_true, decide_eq_true_eq, decide_eq_true_eq] at h
    exact h
  refine ⟨fun h => ?_, fun h => ?_, fun h hr => ?_, fun h hr => ?_⟩
  · obtain ⟨z1, z2, z3⟩ := hop h
    have e1 := a1 z1
    have e2 := b1' z2
    rcases hv with ⟨w1, w2, _⟩ | ⟨_, w2, _⟩
    · exact absurd ⟨w1, by rw [← e2]; exact w2⟩ z3
    · rw [w2, e1, e2]
  · rcases hv with ⟨_, _, w3⟩ | ⟨_, _, w3⟩
    · rw [w3]
      rcases h01 with z | z
      · rw [if_pos ⟨z, h⟩, ← a2 h, ← b2' h, z]
      · rw [if_neg (fun e => by rw [z] at e; exact absurd e.1 (by decide)), ← a2 h, ← b2' h, z]
    · rw [w3, b2' h, a2 h]
  · have hf2 : (D.2 = true ∨ d2.2 = true) → f2 = 1 := by
      rintro (z | z)
      · have e1 := a3 h z
        rcases hd2 : d2.2 with _ | _
        · rw [b4' h hd2, e1]
        · exact b3' h hd2
      · exact b3' h z
    rcases hop1 hr with z | z | z
    · rcases hv with ⟨_, _, w3⟩ | ⟨_, _, w3⟩
      · rw [w3, if_neg (fun e => by rw [h] at e; exact absurd e.2 (by decide))]
      · rw [w3]; exact hf2 (Or.inl z)
    · rcases hv with ⟨_, _, w3⟩ | ⟨_, _, w3⟩
      · rw [w3, if_neg (fun e => by rw [h] at e; exact absurd e.2 (by decide))]
      · rw [w3]; exact hf2 (Or.inr z)
    · rcases hv with ⟨_, _, w3⟩ | ⟨w1, _, w3⟩
      · rw [w3, if_neg (fun e => by rw [h] at e; exact absurd e.2 (by decide))]
      · rcases hd2 : d2.2 with _ | _
        · exact absurd ⟨z.1, by rw [b1' hd2]; exact z.2⟩ w1
        · rw [w3]; exact b3' h hd2
  · obtain ⟨z1, z2, z3⟩ := hop hr
    rcases hv with ⟨w1, w2, _⟩ | ⟨_, _, w3⟩
    · exact absurd ⟨w1, by rw [← b1' z2]; exact w2⟩ z3
    · rw [w3, b4' h z2, a4 h z1]
def NF (T : Nat → Int32) (n : Nat) (g : Int32 → OS → Option (Int64 × OS)) (p k pl : Nat) : Prop := ∀ (ask : Int32) (s : OS), (ask = 0 ∨ ask = 1) → RdS T n p s → ∃ v s', g ask s = some (v, s') ∧ Flt k pl s s'
def NO (T : Nat → Int32) (n : Nat) (g : Int32 → OS → Option (Int64 × OS)) (p p' : Nat) (den : (Nat → Int64) → Int64 × Bool) : Prop := ∀ (ask : Int32) (s : OS), (ask = 0 ∨ ask = 1) → RdS T n p s → ∃ v s', g ask s = some (v, s') ∧ RdS T n p' s' ∧ FrR s s' ∧ Ev ask (s.1 0 11) v (s'.1 0 11) (den (s.2 3))
def YF (T : Nat → Int32) (n r : Nat) (cond : List Int32 → Prop) (p o k pl : Nat) : Prop := ∀ (m0 : OS) (σ : List Int32) (C : List (Int32 × Int32)) (m : OS), cond σ → Yd T n r m0 p o σ C 0 m → ∃ m', loop (f11_pieceOfC_l39) ((1 : Int32), m) = some m' ∧ Bd r k pl m0 m'
def YO (T : Nat → Int32) (n r : Nat) (cond : List Int32 → Prop) (p o p' : Nat) (cs0 : List (Int32 × Int32)) (pe : List Int32) : Prop := ∀ (m0 : OS) (σ : List Int32) (C : List (Int32 × Int32)) (m : OS), cond σ → Yd T n r m0 p o σ C 0 m → ∃ m', loop (f11_pieceOfC_l39) ((1 : Int32), m) = loop (f11_pieceOfC_l39) ((1 : Int32), m') ∧ Yd T n r m0 p' o (pe ++ σ) (C ++ cs0) 1 m'
def clT (σ : List Int32) : Prop := ¬ isTm (tpS σ)
def clP (σ : List Int32) : Prop := ¬ isTm (tpS σ) ∧ ¬ isPm (tpS σ)
def clA (_ : List Int32) : Prop := True
/-- a factor, a product, a sum, read from p on with o open -/
def FacL (T : Nat → Int32) (n r : Nat) (g : Int32 → OS → Option (Int64 × OS)) (p o : Nat) : Prop :=
  (∃ k pl, 0 < k ∧ k < 6 ∧ pl ≤ 200 ∧ NF T n g p k pl ∧ YF T n r clA p o k pl) ∨ ∃ p' cs den, p < p' ∧ p' ≤ n ∧ 0 < cs.length ∧ EvS cs den ∧ NO T n g p p' den ∧ YO T n r clA p o p' cs []
def ProL (T : Nat → Int32) (n r : Nat) (g : Int32 → OS → Option (Int64 × OS)) (p o : Nat) : Prop :=
  (∃ k pl, 0 < k ∧ k < 6 ∧ pl ≤ 200 ∧ NF T n g p k pl ∧ YF T n r clT p o k pl) ∨ ∃ p' cs0 pe den, p < p' ∧ p' ≤ n ∧ 0 < (cs0 ++ emC pe).length ∧ EvS (cs0 ++ emC pe) den ∧ (∀ c ∈ pe, isTm c) ∧ ¬ isTm (hd T n p') ∧ NO T n g p p' den ∧ YO T n r clT p o p' cs0 pe
def SumL (T : Nat → Int32) (n r : Nat) (g : Int32 → OS → Option (Int64 × OS)) (p o : Nat) : Prop :=
  (∃ k pl, 0 < k ∧ k < 6 ∧ pl ≤ 200 ∧ NF T n g p k pl ∧ YF T n r clP p o k pl) ∨ ∃ p' cs0 pe den, p < p' ∧ p' ≤ n ∧ 0 < (cs0 ++ emC pe).length ∧ EvS (cs0 ++ emC pe) den ∧ (∀ c ∈ pe, isTm c ∨ isPm c) ∧ ¬ isTm (hd T n p') ∧ ¬ isPm (hd T n p') ∧ NO T n g p p' den ∧ YO T n r clP p o p' cs0 pe
-- one turn of a piece's loop
section
variable {T : Nat → Int32} {n r b p o : Nat} {m0 m : OS} {σ : List Int32} {C : List (Int32 × Int32)} {bh : Int32}
theorem p39_bad {k pl : Nat} (h : Bd r k pl m0 m) (x : Int32) : loop (f11_pieceOfC_l39) (x, m) = some m := by
  have hj : f11_pieceOfC_j89 m = some m := by
    unfold f11_pieceOfC_j89 f11_pieceOfC_j100
    rw [b_good h, Option.bind_some, if_pos rfl]
  refine loop_inr ?_
  unfold f11_pieceOfC_l39
  show (if x = 0 then Option.map Sum.inr (f11_pieceOfC_j89 m) else Option.bind (f11_isGood m) fun q_44 => if q_44 = 0 then Option.map Sum.inr (f11_pieceOfC_j89 m) else _) = _
  by_cases c : x = 0
  · rw [if_pos c, hj]; rfl
  · rw [if_neg c, b_good h, Option.bind_some, if_pos rfl, hj]; rfl
theorem p39_0 (h : YB T n r m0 b p o σ C 0 m) : f11_pieceOfC_l39 ((1 : Int32), m) = Option.bind (f11_factor m) fun q => f11_pieceOfC_j61 q := by
  unfold f11_pieceOfC_l39
  show (if (1 : Int32) = 0 then _ else Option.bind (f11_isGood m) fun q_44 => if q_44 = 0 then _ else if m.1 0 51 = 0 then Option.bind (f11_factor m) fun q_58 => f11_pieceOfC_j61 q_58 else _) = _
  rw [if_neg (show ¬ (1 : Int32) = 0 by decide), y_good h, Option.bind_some, if_neg (show ¬ (1 : Int32) = 0 by decide), if_pos h.2.2.1.2.2.2.2.2.2]
theorem p39_1 (h : YB T n r m0 b p o σ C 1 m) : f11_pieceOfC_l39 ((1 : Int32), m) = f11_pieceOfC_j61 m := by
  unfold f11_pieceOfC_l39
  show (if (1 : Int32) = 0 then _ else Option.bind (f11_isGood m) fun q_44 => if q_44 = 0 then _ else if m.1 0 51 = 0 then _ else f11_pieceOfC_j61 m) = _
  rw [if_neg (show ¬ (1 : Int32) = 0 by decide), y_good h, Option.bind_some, if_neg (show ¬ (1 : Int32) = 0 by decide), if_neg (show ¬ m.1 0 51 = 0 by rw [h.2.2.1.2.2.2.2.2.2]; decide)]
theorem j61_bad {k pl : Nat} (h : Bd r k pl m0 m) : ∃ x m', f11_pieceOfC_j61 m = some (Sum.inl (x, m')) ∧ Bd r k pl m0 m' := by
  have h2 : Bd r k pl m0 (wI m 0 51 0) := h.slot (by omega) (by omega)
  unfold f11_pieceOfC_j61 f11_pieceOfC_j84 f11_pieceOfC_j85
  rw [nm_p, b_good h2, Option.bind_some, if_pos rfl]
  exact ⟨_, _, rfl, h2⟩
theorem j61_go (h : YB T n r m0 b p o σ C bh m) {x : Int32} {m' : OS} (hg : f11_goesOn (wI m 0 51 0) = some (x, m')) (hx : x = 0 ∨ x = 1) : f11_pieceOfC_j61 m = some (Sum.inl (x, m')) := by
  have h2 := h.setB (x := 0)
  unfold f11_pieceOfC_j61 f11_pieceOfC_j84 f11_pieceOfC_j85
  rw [nm_p, y_good h2, Option.bind_some, if_neg (show ¬ (1 : Int32) = 0 by decide), hg, Option.bind_some]
  rcases hx with rfl | rfl
  · rw [if_pos rfl]
  · rw [if_neg (show ¬ (1 : Int32) = 0 by decide)]
/-- behind a factor -/
theorem p39_behind {m1 : OS} {C' : List (Int32 × Int32)} {p' : Nat} (h : YB T n r m0 b p o σ C 0 m) (hf : f11_factor m = some m1) (h1 : YB T n r m0 b p' o σ C' 0 m1) : loop (f11_pieceOfC_l39) ((1 : Int32), m) = loop (f11_pieceOfC_l39) ((1 : Int32), wI m1 0 51 1) := by
  have h2 := h1.setB (x := 1)
  refine loop_same ?_
  rw [p39_0 h, p39_1 h2, hf, Option.bind_some]
  unfold f11_pieceOfC_j61
  rw [wI_2']
theorem p39_fbad {k pl : Nat} {m1 : OS} (h : YB T n r m0 b p o σ C 0 m) (hf : f11_factor m = some m1) (h1 : Bd r k pl m0 m1) : ∃ m', loop (f11_pieceOfC_l39) ((1 : Int32), m) = some m' ∧ Bd r k pl m0 m' := by
  obtain ⟨x, m', k1, k2⟩ := j61_bad h1
  refine ⟨m', ?_, k2⟩
  rw [loop_inl (s' := (x, m')) (by rw [p39_0 h, hf, Option.bind_some]; exact k1)]
  exact p39_bad k2 x
-- the ways on
variable {pe : List Int32}
theorem go_pre (h : YB T n r m0 b p o (pe ++ σ) C 0 m) (hr : r < 20) (hb : b ≤ 160) (hσ : clP σ) (hpe : ∀ c ∈ pe, isTm c ∨ isPm c) : ∃ m1, f11_sums 1 m = some m1 ∧ YB T n r m0 b p o σ (C ++ emC pe) 0 m1 := y_sums1 hr hb hσ pe C m hpe h
theorem go_times (h : Yd T n r m0 p o (pe ++ σ) C 0 m) (hn : n ≤ 160) (hr : r < 20) (hσ : clT σ) (hpe : ∀ c ∈ pe, isTm c) (hc : isTm (hd T n p)) : ∃ m1, f11_goesOn m = some (1, m1) ∧ Yd T n r m0 (p + 1) o (hd T n p :: σ) (C ++ emC pe) 0 m1 := by
  have hpn := (y_len h).2
  have hnp : ¬ isPm (hd T n p) := fun e => by
    rcases hc with c | c | c <;> rcases e with e | e <;> rw [c] at e <;> exact absurd e (by decide)
  have hlt : p < n := hd_lt (fun e => by rw [e] at hc; rcases hc with c | c | c <;> exact absurd c (by decide))
  obtain ⟨m1, k1, k2⟩ := y_sums0 hr (show p ≤ 160 by omega) hσ pe C m hpe h
  obtain ⟨m2, k3, k4⟩ := y_puts k2 (show p ≤ 190 by omega) hlt (hd T n p)
  refine ⟨m2, ?_, k4⟩
  unfold f11_goesOn f11_goesOn_j19
  rw [y_here h hn, Option.bind_some, tm_t hc, Option.bind_some, if_neg (show ¬ (1 : Int32) = 0 by decide), pl_f hnp, Option.bind_some, k1, Option.bind_some, k3, Option.bind_some]
theorem go_plus (h : Yd T n r m0 p o (pe ++ σ) C 0 m) (hn : n ≤ 160) (hr : r < 20) (hσ : clP σ) (hpe : ∀ c ∈ pe, isTm c ∨ isPm c) (hc : isPm (hd T n p)) : ∃ m1, f11_goesOn m = some (1, m1) ∧ Yd T n r m0 (p + 1) o (hd T n p :: σ) (C ++ emC pe) 0 m1 := by
  have hpn := (y_len h).2
  have hnt : ¬ isTm (hd T n p) := fun e => by
    rcases e with c | c | c <;> rcases hc with e | e <;> rw [c] at e <;> exact absurd e (by decide)
  have hlt : p < n := hd_lt (fun e => by rw [e] at hc; rcases hc with c | c <;> exact absurd c (by decide))
  obtain ⟨m1, k1, k2⟩ := go_pre h hr (show p ≤ 160 by omega) hσ hpe
  obtain ⟨m2, k3, k4⟩ := y_puts k2 (show p ≤ 190 by omega) hlt (hd T n p)
  refine ⟨m2, ?_, k4⟩
  unfold f11_goesOn f11_goesOn_j19
  rw [y_here h hn, Option.bind_some, tm_f hnt, Option.bind_some, if_pos rfl, pl_t hc, Option.bind_some, if_neg (show ¬ (1 : Int32) = 0 by decide), Option.bind_some, k1, Option.bind_some, k3, Option.bind_some]
theorem go_close {σ' : List Int32} {o' : Nat} (h : Yd T n r m0 p (o' + 1) (pe ++ 91 :: σ') C 0 m) (hn : n ≤ 160) (hr : r < 20) (hpe : ∀ c ∈ pe, isTm c ∨ isPm c) (hc : hd T n p = 93) : ∃ m1, f11_goesOn m = some (1, m1) ∧ Yd T n r m0 (p + 1) o' σ' (C ++ emC pe) 1 m1 := by
  have hpn := (y_len h).2
  have hlt : p < n := hd_lt (fun e => by rw [e] at hc; exact absurd hc (by decide))
  obtain ⟨m1, k1, k2⟩ := go_pre (σ := 91 :: σ') h hr (show p ≤ 160 by omega) ⟨show ¬ isTm 91 by unfold isTm; decide, show ¬ isPm 91 by unfold isPm; decide⟩ hpe
  have k3 := y_drop (k2.wk (show p ≤ p + 1 by omega))
  have k4 := k3.opn (o' := o') (v := (wI m1 0 49 (m1.1 0 49 - 1)).1 0 48 - 1) (by rw [k3.2.2.1.2.2.2.1, ← nI_1, add_sub1])
  have k5 := (k4.place (q := 0) hlt).wk (show p ≤ p + 1 by omega)
  have k6 := k5.setB (x := 1)
  refine ⟨_, ?_, k6⟩
  unfold f11_goesOn
  rw [y_here h hn, Option.bind_some, hc, tm_f (show ¬ isTm 93 by unfold isTm; decide), Option.bind_some, if_pos rfl, pl_f (show ¬ isPm 93 by unfold isPm; decide), Option.bind_some, if_pos rfl, k1, Option.bind_some, if_pos rfl, y_top k2 (by omega), Option.bind_some]
  show (if (91 : Int32) = 91 then _ else _) = _
  rw [if_pos rfl]; rfl
theorem go_bad (h : Yd T n r m0 p o (pe ++ σ) C 0 m) (hn : n ≤ 160) (hr : r < 20) (hσ : clP σ) (hpe : ∀ c ∈ pe, isTm c ∨ isPm c) (ht : ¬ isTm (hd T n p)) (hp : ¬ isPm (hd T n p)) (hbad : (tpS σ = 91 ∧ ¬ hd T n p = 93) ∨ (isCp (tpS σ) ∧ (hd T n p = 93 ∨ isCp (hd T n p)))) : ∃ x m1, f11_goesOn m = some (x, m1) ∧ (x = 0 ∨ x = 1) ∧ Bd r 1 p m0 m1 := by
  have hpn := (y_len h).2
  obtain ⟨m1, k1, k2⟩ := go_pre h hr (show p ≤ 160 by omega) hσ hpe
  obtain ⟨mb, hmb⟩ : ∃ mb, mb = wI m1 0 45 (-1000 * nI 1 - nI p) := ⟨_, rfl⟩
  have hb : Bd r 1 p m0 mb := by rw [hmb]; exact y_bd k2 (k := 1) (pl := p) (by omega) (by omega) (by omega)
  have hb49 : mb.1 0 49 = nI σ.length := by rw [hmb]; exact k2.2.2.1.2.2.2.2.1
  have hw : f11_wrongs 1 (m1.1 0 43) m1 = some mb := by rw [k2.2.2.1.1, hmb]; exact y_wrongs k2 (nI 1) (nI p)
  have hputs : ∀ c : Int32, ∃ m2, f11_puts c mb = some m2 ∧ Bd r 1 p m0 m2 := by
    intro c
    have hl := (y_len k2).1
    unfold f11_puts
    rw [hb49, inb_n (show σ.length < 200 by omega) (by omega), chk_p]
    simp only [nm_p]
    refine ⟨_, rfl, Bd.slot (i := 43) (Bd.slot (i := 49) ?_ (by omega) (by omega)) (by omega) (by omega)⟩
    exact ⟨⟨fun q z1 z2 z3 z4 => (wI_of z4).trans (hb.1.1 q z1 z2 z3 z4), hb.1.2.1, fun i hi => hb.1.2.2.1 i hi, fun i hi => hb.1.2.2.2 i hi⟩, hb.2.1, hb.2.2⟩
  unfold f11_goesOn f11_goesOn_j128 f11_goesOn_j137 f11_goesOn_j185
  rw [y_here h hn, Option.bind_some, tm_f ht, Option.bind_some, if_pos rfl, pl_f hp, Option.bind_some, if_pos rfl, k1, Option.bind_some]
  by_cases c93 : hd T n p = 93
  · rw [if_pos c93, y_top k2 (by omega), Option.bind_some, if_neg (show ¬ tpS σ = 91 from fun e => by
      rcases hbad with z | z
      · exact z.2 c93
      · rw [e] at z
        rcases z.1 with w | w | w <;> exact absurd w (by decide)), hw, Option.bind_some]
    exact ⟨_, _, rfl, Or.inl rfl, hb⟩
  · rw [if_neg c93]
    by_cases cs : isCp (hd T n p)
    · rw [cp_t cs, Option.bind_some, if_neg (show ¬ (1 : Int32) = 0 by decide), y_top k2 (by omega), Option.bind_some]
      obtain ⟨m2, q1, q2⟩ := hputs (hd T n p)
      by_cases c91 : tpS σ = 91
      · rw [if_pos c91, hw, Option.bind_some, q1, Option.bind_some]
        exact ⟨_, _, rfl, Or.inr rfl, q2⟩
      · have ct : isCp (tpS σ) := hbad.elim (fun z => absurd z.1 c91) (fun z => z.1)
        rw [if_neg c91, Option.bind_some, cp_t ct, Option.bind_some, if_neg (show ¬ (1 : Int32) = 0 by decide), hw, Option.bind_some, q1, Option.bind_some]
        exact ⟨_, _, rfl, Or.inr rfl, q2⟩
    · have c91 : tpS σ = 91 := hbad.elim (fun z => z.1) (fun z => by
        rcases z.2 with w | w
        · exact absurd w c93
        · exact absurd w cs)
      rw [cp_f cs, Option.bind_some, if_pos rfl, y_top k2 (by omega), Option.bind_some, c91, cp_f (show ¬ isCp 91 by unfold isCp; decide), Option.bind_some, if_pos rfl, hw, Option.bind_some]
      exact ⟨_, _, rfl, Or.inl rfl, hb⟩
end
-- letters
theorem val_ix (c : Int32) : (∃ j, j < 9 ∧ c = letC j ∧ ixOf c = nI j ∧ f11_isValue c = some 1) ∨ (ixOf c = -1 ∧ f11_isValue c = some 0) := by
  unfold f11_isValue f11_isValue_j54 f11_isValue_j59 ixOf
  by_cases h0 : c = 102
  · exact Or.inl ⟨0, by omega, h0, by rw [if_pos h0]; rfl, by rw [if_pos h0]; rfl⟩
  by_cases h1 : c = 104
  · exact Or.inl ⟨1, by omega, h1, by rw [if_neg h0, if_pos h1]; rfl, by rw [if_neg h0, if_pos h1]; rfl⟩
  by_cases h2 : c = 107
  · exact Or.inl ⟨2, by omega, h2, by rw [if_neg h0, if_neg h1, if_pos h2]; rfl, by rw [if_neg h0, if_neg h1, if_pos h2]; rfl⟩
  by_cases h3 : c = 119
  · exact Or.inl ⟨3, by omega, h3, by rw [if_neg h0, if_neg h1, if_neg h2, if_pos h3]; rfl, by rw [if_neg h0, if_neg h1, if_neg h2, if_pos h3]; rfl⟩
  by_cases h4 : c = 109
  · exact Or.inl ⟨4, by omega, h4, by rw [if_neg h0, if_neg h1, if_neg h2, if_neg h3, if_pos h4]; rfl, by rw [if_neg h0, if_neg h1, if_neg h2, if_neg h3, if_pos h4]; rfl⟩
  by_cases h5 : c = 108
  · exact Or.inl ⟨5, by omega, h5, by rw [if_neg h0, if_neg h1, if_neg h2, if_neg h3, if_neg h4, if_pos h5]; rfl, by rw [if_neg h0, if_neg h1, if_neg h2, if_neg h3, if_neg h4, if_pos h5]; rfl⟩
  by_cases h6 : c = 97
  · exact Or.inl ⟨6, by omega, h6, by rw [if_neg h0, if_neg h1, if_neg h2, if_neg h3, if_neg h4, if_neg h5, if_pos h6]; rfl, by rw [if_neg h0, if_neg h1, if_neg h2, if_neg h3, if_neg h4, if_neg h5, if_pos h6]; rfl⟩
  by_cases h7 : c = 115
  · exact Or.inl ⟨7, by omega, h7, by rw [if_neg h0, if_neg h1, if_neg h2, if_neg h3, if_neg h4, if_neg h5, if_neg h6, if_pos h7]; rfl, by rw [if_neg h0, if_neg h1, if_neg h2, if_neg h3, if_neg h4, if_neg h5, if_neg h6, if_pos h7]; rfl⟩
  by_cases h8 : c = 100
  · exact Or.inl ⟨8, by omega, h8, by rw [if_neg h0, if_neg h1, if_neg h2, if_neg h3, if_neg h4, if_neg h5, if_neg h6, if_neg h7, if_pos h8]; rfl, by rw [if_neg h0, if_neg h1, if_neg h2, if_neg h3, if_neg h4, if_neg h5, if_neg h6, if_neg h7, if_pos h8]; rfl⟩
  refine Or.inr ⟨?_, ?_⟩
  · rw [if_neg h0, if_neg h1, if_neg h2, if_neg h3, if_neg h4, if_neg h5, if_neg h6, if_neg h7, if_neg h8]
  · rw [if_neg h0, if_neg h1, if_neg h2, if_neg h3, if_neg h4, if_neg h5, if_neg h6, if_neg h7, if_neg h8]; rfl
theorem nar_255 {x : Int32} (h : bw 0 255 x) : ((x).toUInt32 % 65536).toInt32 = x := by
  obtain ⟨a, _, h2, rfl⟩ := bw_nat (lo := 0) (hi := 255) h (by omega)
  have : ∀ q : Fin 256, ((nI q.1).toUInt32 % 65536).toInt32 = nI q.1 := by decide +kernel
  exact this ⟨a, by omega⟩
theorem fac_do {T : Nat → Int32} {n r p o : Nat} {rs : Int32 → Int32 → OS → Option (Int64 × OS)} (hn : n ≤ 160) (hr : r < 20) (hT : ∀ i, i < n → bw 0 255 (T i)) (hp : p ≤ n) (ho : o ≤ 6) (hrs : o < 6 → ∀ q, q ≤ n → SumL T n r (fun ask s => rs (nI (o + 1)) ask s) q (o + 1)) : FacL T n r (fun ask s => f6_readFactor rs (nI o) ask s) p o := by
  by_cases hD : isD (hd T n p)
  · -- a number
    obtain ⟨k, h1, h2, h3⟩ := dig_ex T n p
    have hk0 : 0 < k := by
      rcases Nat.eq_zero_or_pos k with c | c
      · subst c; exact absurd hD (h3.resolve_left (by omega))
      · exact c
    have cls : ∀ (ask : Int32) (s : OS), RdS T n p s → f6_readFactor rs (nI o) ask s = Option.bind (f6_readDigits s) fun q => some (q.1.toInt64, q.2) := by
      intro ask s hs
      unfold f6_readFactor
      rw [c_sign hs hn hp, Option.bind_some, dig_t (sg_D.mpr hD), Option.bind_some, if_neg (show ¬ (1 : Int32) = 0 by decide)]
    have hne : ¬ hd T n p = 91 := fun e => by
      rw [e] at hD
      have h9 := hD.2
      have : (91 : Int32).toInt = 91 := rfl
      omega
    have fct : ∀ (m0 : OS) (σ : List Int32) (C : List (Int32 × Int32)) (m : OS), Yd T n r m0 p o σ C 0 m → f11_factor m = Option.bind (f11_reads 999999 m) fun q => Option.bind (f11_emit 0 q.1 q.2) fun q2 => some q2 := by
      intro m0 σ C m hm
      unfold f11_factor
      have hj : f11_factor_j23 m = Option.bind (f11_reads 999999 m) fun q => Option.bind (f11_emit 0 q.1 q.2) fun q2 => some q2 := by
        unfold f11_factor_j23 f11_factor_j94
        rw [y_good hm, Option.bind_some, if_neg (show ¬ (1 : Int32) = 0 by decide), sees_t hm hn hD, Option.bind_some, if_neg (show ¬ (1 : Int32) = 0 by decide)]
      have hb : f11_factor_l0 m = Option.map Sum.inr (f11_factor_j23 m) := by
        unfold f11_factor_l0
        rw [y_good hm, Option.bind_some, if_neg (show ¬ (1 : Int32) = 0 by decide), y_here hm hn, Option.bind_some, if_neg hne]
      obtain ⟨x, m', e1, e2⟩ := r_reads (most := 999999) hm hn (by omega) h1 h2 h3
      have e1 : f11_reads 999999 m = some (x, m') := e1
      have hsome : ∃ z, f11_factor_j23 m = some z := by
        rw [hj, e1, Option.bind_some]
        show ∃ z, Option.bind (f11_emit 0 x m') _ = some z
        rcases e2 with ⟨e2, _⟩ | ⟨_, _, e2⟩ | ⟨_, _, ⟨_, _, e2⟩ | ⟨e2, _⟩⟩
        · omega
        · unfold f11_emit
          rw [b_good e2, Option.bind_some, if_pos rfl]; exact ⟨_, rfl⟩
        · have hl := (y_len e2).1
          have hpp := isD_lt (h2 (k - 1) (by omega))
          obtain ⟨m2, q1, _⟩ := y_emit e2 hr (by omega) 0 x
          rw [q1]; exact ⟨_, rfl⟩
        · have := val_6 h2 h1; omega
      obtain ⟨z, hz⟩ := hsome
      rw [hz] at hb
      rw [loop_inr hb, ← hz, hj]
    by_cases h6 : k = 6 ∧ isD (hd T n (p + 6))
    · refine Or.inl ⟨2, p + 6, by omega, by omega, by have := isD_lt h6.2; omega, fun ask s _ hs => ?_, fun m0 σ C m _ hm => ?_⟩
      · obtain ⟨x, s', e1, e2⟩ := c_digits hs hn hp h1 h2 h3
        refine ⟨x.toInt64, s', by show f6_readFactor rs (nI o) ask s = _; rw [cls ask s hs, e1]; rfl, ?_⟩
        rcases e2 with ⟨e2, _⟩ | ⟨_, _, e2⟩ | ⟨_, e2, _⟩
        · omega
        · exact e2
        · exact absurd h6.2 (by rw [← h6.1]; exact e2)
      · obtain ⟨x, m', e1, e2⟩ := r_reads (most := 999999) hm hn (by omega) h1 h2 h3
        have e1 : f11_reads 999999 m = some (x, m') := e1
        rcases e2 with ⟨e2, _⟩ | ⟨_, _, e2⟩ | ⟨_, e2, _⟩
        · omega
        · refine p39_fbad hm (m1 := m') ?_ e2
          rw [fct m0 σ C m hm, e1, Option.bind_some]
          unfold f11_emit
          rw [b_good e2, Option.bind_some, if_pos rfl, Option.bind_some]
        · exact absurd h6.2 (by rw [← h6.1]; exact e2)
    · have hnd : ¬ isD (hd T n (p + k)) := fun e => by
        rcases h3 with c | c
        · exact h6 ⟨c, by rw [← c]; exact e⟩
        · exact c e
      have hpk : p + k ≤ n := by have := isD_lt (h2 (k - 1) (by omega)); omega
      refine Or.inr ⟨p + k, [(0, nI (valD T n p k))], fun _ => ((nI (valD T n p k)).toInt64, false), by omega, hpk, by show 0 < 1; omega, EvS_num _, fun ask s _ hs => ?_, fun m0 σ C m _ hm => ?_⟩
      · obtain ⟨x, s', e1, e2⟩ := c_digits hs hn hp h1 h2 h3
        rcases e2 with ⟨e2, _⟩ | ⟨e2, e3, _⟩ | ⟨_, _, e3, e4, e5, e6⟩
        · omega
        · exact absurd ⟨e2, e3⟩ h6
        · refine ⟨x.toInt64, s', by show f6_readFactor rs (nI o) ask s = _; rw [cls ask s hs, e1]; rfl, e4, e5, fun _ => by rw [e3], fun _ => e6, fun _ (z : false = true) => (by cases z), fun _ _ => e6⟩
      · obtain ⟨x, m', e1, e2⟩ := r_reads (most := 999999) hm hn (by omega) h1 h2 h3
        have e1 : f11_reads 999999 m = some (x, m') := e1
        rcases e2 with ⟨e2, _⟩ | ⟨e2, e3, _⟩ | ⟨_, _, ⟨_, e3, e4⟩ | ⟨e2, _⟩⟩
        · omega
        · exact absurd ⟨e2, e3⟩ h6
        · have hl := (y_len e4).1
          obtain ⟨m2, q1, q2⟩ := y_emit e4 hr (by omega) 0 x
          have q3 := q2.wk (b' := p + k) (by omega)
          refine ⟨wI m2 0 51 1, ?_, ?_⟩
          · refine p39_behind (b := p + k) (hm.wk (by omega)) (p' := p + k) ?_ q3
            rw [fct m0 σ C m hm, e1, Option.bind_some, q1, Option.bind_some]
          · rw [e3] at q3
            exact q3.setB
        · have := val_6 h2 h1; omega
  · have hdig : ∀ s, RdS T n p s → f6_isDigit (sg T n p) = some 0 := fun s _ => dig_f (fun e => hD (sg_D.mp e))
    by_cases h91 : hd T n p = 91
    · -- [
      have hlt : p < n := hd_lt (fun e => by rw [e] at h91; exact absurd h91 (by decide))
      have hsg : sg T n p = 91 := (sg_hd (by decide) (by decide)).mpr h91
      have cls : ∀ (ask : Int32) (s : OS), RdS T n p s → f6_readFactor rs (nI o) ask s = if nI o < (6 : Int32) then Option.bind (rs (nI o + 1) ask (wI s 0 4 (s.1 0 4 + 1))) fun q_56 => Option.bind (f6_require 93 q_56.2) fun q_64 => some (q_56.1, q_64) else Option.bind (f6_fail 5 (s.1 0 4) s) fun q_36 => some ((0 : Int64), q_36) := by
        intro ask s hs
        unfold f6_readFactor
        rw [c_sign hs hn hp, Option.bind_some, hdig s hs, Option.bind_some, if_pos rfl, if_pos hsg]
        simp only [nm_p]
      by_cases ho6 : o = 6
      · subst ho6
        refine Or.inl ⟨5, p, by omega, by omega, by omega, fun ask s _ hs => ?_, fun m0 σ C m _ hm => ?_⟩
        · obtain ⟨s', g1, g2⟩ := c_flt hs (k := 5) (pl := p) (by omega) (by omega)
          have g1 : f6_fail 5 (s.1 0 4) s = some s' := by rw [hs.2.1]; exact g1
          refine ⟨0, s', ?_, g2⟩
          show f6_readFactor rs (nI 6) ask s = _
          rw [cls ask s hs, if_neg (show ¬ nI 6 < (6 : Int32) by decide), g1]; rfl
        · obtain ⟨m1, k1, k2⟩ := y_opens6 hm hn (by omega)
          refine p39_fbad hm (m1 := m1) ?_ k2
          unfold f11_factor
          have hb : f11_factor_l0 m = some (Sum.inl m1) := by
            unfold f11_factor_l0
            rw [y_good hm, Option.bind_some, if_neg (show ¬ (1 : Int32) = 0 by decide), y_here hm hn, Option.bind_some, if_pos h91, k1, Option.bind_some]
          rw [loop_inl hb]
          refine loop_inr ?_
          unfold f11_factor_l0 f11_factor_j23
          rw [b_good k2, Option.bind_some, if_pos rfl, Option.bind_some, if_pos rfl]; rfl
      · have ho' : o < 6 := by omega
        have hopn : ∀ (m0 : OS) (σ : List Int32) (C : List (Int32 × Int32)) (m : OS), Yd T n r m0 p o σ C 0 m → ∃ m1, loop (f11_pieceOfC_l39) ((1 : Int32), m) = loop (f11_pieceOfC_l39) ((1 : Int32), m1) ∧ Yd T n r m0 (p + 1) (o + 1) (91 :: σ) C 0 m1 := by
          intro m0 σ C m hm
          obtain ⟨m1, k1, k2⟩ := y_opens hm hn (by omega) hlt ho'
          rw [h91] at k2
          refine ⟨m1, loop_same ?_, k2⟩
          rw [p39_0 hm, p39_0 k2]
          have hb : f11_factor m = f11_factor m1 := by
            unfold f11_factor
            refine loop_inl ?_
            unfold f11_factor_l0
            rw [y_good hm, Option.bind_some, if_neg (show ¬ (1 : Int32) = 0 by decide), y_here hm hn, Option.bind_some, if_pos h91, k1, Option.bind_some]
          rw [hb]
        have hcl : ∀ σ : List Int32, clP (91 :: σ) := fun σ => ⟨show ¬ isTm 91 by unfold isTm; decide, show ¬ isPm 91 by unfold isPm; decide⟩
        rcases hrs ho' (p + 1) (by omega) with ⟨k, pl, k1, k2, k3, k4, k5⟩ | ⟨p', cs0, pe, den, k1, k2, k3, k4, k5, k6, k7, k8, k9⟩
        · refine Or.inl ⟨k, pl, k1, k2, k3, fun ask s ha hs => ?_, fun m0 σ C m _ hm => ?_⟩
          · obtain ⟨g1, g2, g3⟩ := c_go hs
            obtain ⟨v, s', e1, e2⟩ := k4 ask _ ha g1
            refine ⟨v, s', ?_, e2.fr g2⟩
            show f6_readFactor rs (nI o) ask s = _
            rw [cls ask s hs, if_pos (show nI o < (6 : Int32) from nI_lt (a := o) (b := 6) ho' (by omega)), nI_1, show rs (nI (o + 1)) ask (wI s 0 4 (s.1 0 4 + 1)) = some (v, s') from e1, Option.bind_some, x_req e2.2.2.1 (by decide), Option.bind_some]
          · obtain ⟨m1, q1, q2⟩ := hopn m0 σ C m hm
            rw [q1]
            exact k5 m0 (91 :: σ) C m1 (hcl σ) q2
        · by_cases h93 : hd T n p' = 93
          · have hlt' : p' < n := hd_lt (fun e => by rw [e] at h93; exact absurd h93 (by decide))
            refine Or.inr ⟨p' + 1, cs0 ++ emC pe, den, by omega, by omega, k3, k4, fun ask s ha hs => ?_, fun m0 σ C m _ hm => ?_⟩
            · obtain ⟨g1, g2, g3⟩ := c_go hs
              obtain ⟨v, s', e1, e2, e3, e4⟩ := k8 ask _ ha g1
              rcases c_req e2 hn (by omega) (c := 93) (by decide) (by decide) with ⟨_, _, s2, w1, w2, w3, w4⟩ | ⟨w, _⟩
              · refine ⟨v, s2, ?_, w2, (g2.trans e3).trans w3, ?_⟩
                · show f6_readFactor rs (nI o) ask s = _
                  rw [cls ask s hs, if_pos (show nI o < (6 : Int32) from nI_lt (a := o) (b := 6) ho' (by omega)), nI_1, show rs (nI (o + 1)) ask (wI s 0 4 (s.1 0 4 + 1)) = some (v, s') from e1, Option.bind_some, w1, Option.bind_some]
                · rw [w4, ← g3]; exact e4
              · exact absurd h93 w
            · obtain ⟨m1, q1, q2⟩ := hopn m0 σ C m hm
              obtain ⟨m2, q3, q4⟩ := k9 m0 (91 :: σ) C m1 (hcl σ) q2
              obtain ⟨m3, q5, q6⟩ := go_close (q4.setB (x := 0)) hn hr k5 h93
              refine ⟨m3, ?_, by rw [List.append_assoc] at q6; exact q6⟩
              rw [q1, q3]
              exact loop_inl (by rw [p39_1 q4]; exact j61_go q4 q5 (Or.inr rfl))
          · refine Or.inl ⟨1, p', by omega, by omega, by omega, fun ask s ha hs => ?_, fun m0 σ C m _ hm => ?_⟩
            · obtain ⟨g1, g2, g3⟩ := c_go hs
              obtain ⟨v, s', e1, e2, e3, e4⟩ := k8 ask _ ha g1
              rcases c_req e2 hn (by omega) (c := 93) (by decide) (by decide) with ⟨w, _⟩ | ⟨_, s2, w1, w2⟩
              · exact absurd w h93
              · refine ⟨v, s2, ?_, w2.fr (g2.trans e3)⟩
                show f6_readFactor rs (nI o) ask s = _
                rw [cls ask s hs, if_pos (show nI o < (6 : Int32) from nI_lt (a := o) (b := 6) ho' (by omega)), nI_1, show rs (nI (o + 1)) ask (wI s 0 4 (s.1 0 4 + 1)) = some (v, s') from e1, Option.bind_some, w1, Option.bind_some]
            · obtain ⟨m1, q1, q2⟩ := hopn m0 σ C m hm
              obtain ⟨m2, q3, q4⟩ := k9 m0 (91 :: σ) C m1 (hcl σ) q2
              obtain ⟨x, m3, q5, q6, q7⟩ := go_bad (q4.setB (x := 0)) hn hr (hcl σ) k5 k6 k7 (Or.inl ⟨rfl, h93⟩)
              refine ⟨m3, ?_, q7⟩
              rw [q1, q3, loop_inl (s' := (x, m3)) (by rw [p39_1 q4]; exact j61_go q4 q5 q6)]
              exact p39_bad q7 x
    · -- a letter, or nothing that can stand there
      have hsg : ¬ sg T n p = 91 := fun e => h91 ((sg_hd (by decide) (by decide)).mp e)
      have hfl : ∀ (m0 : OS) (σ : List Int32) (C : List (Int32 × Int32)) (m m1 : OS), Yd T n r m0 p o σ C 0 m → f11_factor_j23 m = some m1 → f11_factor m = some m1 := by
        intro m0 σ C m m1 hm hj
        unfold f11_factor
        refine loop_inr ?_
        unfold f11_factor_l0
        rw [y_good hm, Option.bind_some, if_neg (show ¬ (1 : Int32) = 0 by decide), y_here hm hn, Option.bind_some, if_neg h91, hj]; rfl
      rcases val_ix (hd T n p) with ⟨j, hj, h1, h2, h3⟩ | ⟨h2, h3⟩
      · have hlt : p < n := hd_lt (fun e => by
          rw [e] at h2
          have : ixOf 0 = -1 := by decide
          rw [this] at h2
          have := congrArg Int32.toInt h2
          rw [nI_toInt (by omega)] at this
          have : (-1 : Int) = (j : Int) := this
          omega)
        have hsg' : sg T n p = hd T n p := sg_lt hlt
        have hTp : bw 0 255 (hd T n p) := by unfold hd; rw [if_pos hlt]; exact hT p hlt
        refine Or.inr ⟨p + 1, [(1, letC j)], fun env => (env j, false), by omega, by omega, by show 0 < 1; omega, EvS_let hj, fun ask s _ hs => ?_, fun m0 σ C m _ hm => ?_⟩
        · obtain ⟨g1, g2, g3⟩ := c_go hs
          refine ⟨s.2 3 j, _, ?_, g1, g2, fun _ => rfl, fun _ => g3, fun _ (z : false = true) => (by cases z), fun _ _ => g3⟩
          show f6_readFactor rs (nI o) ask s = _
          unfold f6_readFactor f6_readFactor_j86
          rw [c_sign hs hn hp, Option.bind_some, hdig s hs, Option.bind_some, if_pos rfl, if_neg hsg, hsg', if_neg (show ¬ hd T n p = -1 from fun e => by
            rw [e] at hTp
            have h9 := hTp.1
            have : (-1 : Int32).toInt = -1 := rfl
            omega), nar_255 hTp, h2, if_neg (nI_pos (n := j) (by omega)), if_pos (show nI j < (9 : Int32) from nI_lt (a := j) (b := 9) hj (by omega)), nm_p, inb_n hj (by omega), chk_p, nI_clamp (by omega)]
          rfl
        · have hl := (y_len hm).1
          obtain ⟨m2, q1, q2⟩ := y_emit hm hr (by omega) 1 (hd T n p)
          have q3 := q2.place (q := 0) hlt
          rw [h1] at q3
          refine ⟨wI (wI m2 0 43 (m2.1 0 43 + 1)) 0 51 1, ?_, q3.setB⟩
          refine p39_behind (b := p + 1) (hm.wk (by omega)) (p' := p + 1) (hfl m0 σ C m _ hm ?_) q3
          unfold f11_factor_j23 f11_factor_j94
          rw [y_good hm, Option.bind_some, if_neg (show ¬ (1 : Int32) = 0 by decide), sees_f hm hn hD, Option.bind_some, if_pos rfl, y_here hm hn, Option.bind_some, h3, Option.bind_some, if_neg (show ¬ (1 : Int32) = 0 by decide), Option.bind_some, q1, Option.bind_some]; rfl
      · refine Or.inl ⟨1, p, by omega, by omega, by omega, fun ask s _ hs => ?_, fun m0 σ C m _ hm => ?_⟩
        · obtain ⟨s', g1, g2⟩ := c_flt hs (k := 1) (pl := p) (by omega) (by omega)
          have g1 : f6_fail 1 (s.1 0 4) s = some s' := by rw [hs.2.1]; exact g1
          refine ⟨0, s', ?_, g2⟩
          show f6_readFactor rs (nI o) ask s = _
          unfold f6_readFactor f6_readFactor_j86 f6_readFactor_j103
          rw [c_sign hs hn hp, Option.bind_some, hdig s hs, Option.bind_some, if_pos rfl, if_neg hsg]
          by_cases cm : sg T n p = -1
          · rw [if_pos cm, if_pos (show (-1 : Int32) < 0 by decide), g1, Option.bind_some]
          · have hlt : p < n := by
              rcases Nat.lt_or_ge p n with c | c
              · exact c
              · exact absurd (show sg T n p = -1 by unfold sg; rw [if_neg (by omega)]) cm
            have hTp : bw 0 255 (hd T n p) := by unfold hd; rw [if_pos hlt]; exact hT p hlt
            rw [if_neg cm, sg_lt hlt, nar_255 hTp, h2, if_pos (show (-1 : Int32) < 0 by decide), g1, Option.bind_some]
        · have hb := y_bd hm (k := 1) (pl := p) (by omega) (by omega) (by omega)
          refine p39_fbad hm (hfl m0 σ C m _ hm ?_) hb
          unfold f11_factor_j23 f11_factor_j94
          rw [y_good hm, Option.bind_some, if_neg (show ¬ (1 : Int32) = 0 by decide), sees_f hm hn hD, Option.bind_some, if_pos rfl, y_here hm hn, Option.bind_some, h3, Option.bind_some, if_pos rfl, hm.2.2.1.1, y_wrongs hm, Option.bind_some]
          rfl
