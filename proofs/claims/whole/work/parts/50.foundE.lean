-- found: what the reference counts
theorem turns_cases {c : Nat} {e : Nat → Nat} (h : ∀ i, i < c → e i < c) : ∀ d k, k + d = c → (∀ i, k ≤ i → i < c → e i = c - 1) ∨ ∃ t, k ≤ t ∧ t < c ∧ e t + 1 < c ∧ ∀ j, t < j → j < c → e j = c - 1
  | 0, k, hk => Or.inl (fun i h1 h2 => by omega)
  | d + 1, k, hk => by
    rcases turns_cases h d (k + 1) (by omega) with h1 | ⟨t, h1, h2, h3⟩
    · have hk' := h k (by omega)
      by_cases c1 : e k = c - 1
      · refine Or.inl (fun i h2 h3 => ?_)
        by_cases c2 : i = k
        · subst c2; exact c1
        · exact h1 i (by omega) h3
      · exact Or.inr ⟨k, Nat.le_refl _, by omega, by omega, fun j h2 h3 => h1 j (by omega) h3⟩
    · exact Or.inr ⟨t, by omega, h2, h3⟩
theorem r_turns {m : OS} {c : Nat} {e : Nat → Nat} (hc : c ≤ 6) (h0 : 0 < c) (h : ∀ i, i < c → m.1 75 i = nI (e i) ∧ e i < c) : ∃ q, f11_turns (nI c) m = some q := by
  unfold f11_turns
  rw [nm_p, show (1 : Int32) = nI 1 from rfl, pk_sub (by omega)]
  rcases turns_cases (fun i hi => (h i hi).2) c 0 (by omega) with h1 | ⟨t, h1, h2, h3, h4⟩
  · obtain ⟨m', e1, _⟩ := turn_end hc h0 (c - 1) m (by omega) (fun j hj => by rw [(h j (by omega)).1, h1 j (by omega) (by omega)])
    exact ⟨_, e1⟩
  · obtain ⟨m', e1, _⟩ := turn_k (k := t) (x := e t) hc h3 (c - 1 - t) m (by omega) (h t h2).1 (fun j h5 h6 => by rw [(h j (by omega)).1, h4 j h5 (by omega)])
    rw [show t + (c - 1 - t) = c - 1 by omega] at e1
    exact ⟨_, e1⟩
theorem marks {st : OS} {c : Nat} {e : Nat → Nat} {B S : Nat → Nat → Bool} (hc : c ≤ 6) (h0 : 0 < c) (h : ∀ i, i < c → st.1 75 i = nI (e i) ∧ e i < c) (hB : ∀ i, i < c → st.1 76 i = nI (mkB (B i) 16)) (hS : ∀ i, i < c → st.1 77 i = nI (mkB (S i) 16)) : ∃ st' q, loop (f11_found_l172 (nI c)) ((0 : Int32), st) = some (Sum.inl q) ∧ f11_turns (nI c) st' = some q ∧ (∀ r, r ≠ 76 → r ≠ 77 → st'.1 r = st.1 r) ∧ st'.2 = st.2 ∧ ∀ i, i < c → st'.1 76 i = nI (mkB (addB (B i) (e i)) 16) ∧ st'.1 77 i = nI (mkB (fun y => S i y && decide (y = e i)) 16) := by
  have key : ∃ r, loop (f11_found_l172 (nI c)) ((0 : Int32), st) = some r ∧ ∃ st' q, r = Sum.inl q ∧ f11_turns (nI c) st' = some q ∧ (∀ r, r ≠ 76 → r ≠ 77 → st'.1 r = st.1 r) ∧ st'.2 = st.2 ∧ ∀ i, i < c → st'.1 76 i = nI (mkB (addB (B i) (e i)) 16) ∧ st'.1 77 i = nI (mkB (fun y => S i y && decide (y = e i)) 16) := by
    refine loop_inv c (fun i t => i ≤ c ∧ t.1 = nI i ∧ (∀ r, r ≠ 76 → r ≠ 77 → t.2.1 r = st.1 r) ∧ t.2.2 = st.2 ∧ ∀ j, j < c → t.2.1 76 j = nI (mkB (if j < i then addB (B j) (e j) else B j) 16) ∧ t.2.1 77 j = nI (mkB (if j < i then (fun y => S j y && decide (y = e j)) else S j) 16)) _ ?_ c 0 _ (by omega) ⟨by omega, rfl, fun _ _ _ => rfl, rfl, fun j hj => by rw [if_neg (by omega), if_neg (by omega)]; exact ⟨hB j hj, hS j hj⟩⟩
    rintro i ⟨x, u⟩ ⟨hi, e1, f1, f2, f3⟩
    have e1 : x = nI i := e1
    subst e1
    have f1 : ∀ r, r ≠ 76 → r ≠ 77 → u.1 r = st.1 r := f1
    have f2 : u.2 = st.2 := f2
    have f3 : ∀ j, j < c → u.1 76 j = nI (mkB (if j < i then addB (B j) (e j) else B j) 16) ∧ u.1 77 j = nI (mkB (if j < i then (fun y => S j y && decide (y = e j)) else S j) 16) := f3
    unfold f11_found_l172 f11_found_j217
    by_cases hic : i = c
    · right
      subst hic
      obtain ⟨q, hq⟩ := r_turns (m := u) hc h0 (fun j hj => by rw [f1 75 (by decide) (by decide)]; exact h j hj)
      refine ⟨Sum.inl q, ?_, u, q, rfl, hq, f1, f2, fun j hj => ?_⟩
      · show (if nI i ≤ nI i then _ else _) = _
        rw [if_pos (show nI i ≤ nI i from nI_le (Nat.le_refl _) (by omega))]
        show Option.map Sum.inr (Option.bind (f11_turns (nI i) u) fun q_219 => some (Sum.inl (q_219.1, q_219.2))) = _
        rw [hq]; rfl
      · have := f3 j hj
        rw [if_pos hj, if_pos hj] at this
        exact this
    · left
      have hlt : i < c := by omega
      refine ⟨hlt, ?_⟩
      obtain ⟨g1, g2⟩ := h i hlt
      obtain ⟨g3, g4⟩ := f3 i hlt
      rw [if_neg (by omega)] at g3 g4
      have g5 : u.1 75 i = nI (e i) := by rw [f1 75 (by decide) (by decide)]; exact g1
      show ∃ t, (if nI c ≤ nI i then _ else _) = some (Sum.inl t) ∧ _
      rw [if_neg (nI_ge hlt (by omega))]
      have r1 : ∀ v, (wI u 76 i v).1 77 i = nI (mkB (S i) 16) := fun v => g4
      have r2 : ∀ v, (wI u 76 i v).1 75 i = nI (e i) := fun v => g5
      simp only [nI_clamp (n := i) (by omega), inb_n (show i < 6 by omega) (by omega : 6 < 2 ^ 31), chk_p, nm_p, g3, g5, r1, r2, nI_1]
      rw [mkB_set (show e i < 16 by omega), one_mk (show e i < 16 by omega), mkB_and]
      refine ⟨_, rfl, by omega, rfl, fun r h6 h7 => ?_, f2, fun j hj => ?_⟩
      · show (if r = 77 then _ else if r = 76 then _ else u.1 r) = st.1 r
        rw [if_neg h7, if_neg h6]; exact f1 r h6 h7
      · show (if j = i then nI (mkB (addB (B i) (e i)) 16) else u.1 76 j) = nI (mkB (if j < i + 1 then addB (B j) (e j) else B j) 16) ∧ (if j = i then nI (mkB (fun v => S i v && decide (v = e i)) 16) else u.1 77 j) = nI (mkB (if j < i + 1 then (fun y => S j y && decide (y = e j)) else S j) 16)
        by_cases c1 : j = i
        · subst c1
          rw [if_pos rfl, if_pos rfl, if_pos (by omega), if_pos (by omega)]; exact ⟨rfl, rfl⟩
        · obtain ⟨z1, z2⟩ := f3 j hj
          rw [if_neg c1, if_neg c1, z1, z2]
          by_cases c2 : j < i
          · rw [if_pos c2, if_pos c2, if_pos (by omega), if_pos (by omega)]; exact ⟨rfl, rfl⟩
          · rw [if_neg c2, if_neg c2, if_neg (by omega), if_neg (by omega)]; exact ⟨rfl, rfl⟩
  obtain ⟨r, k1, st', q, rfl, k2⟩ := key
  exact ⟨st', q, k1, k2⟩
def cntP (F : Nat → Nat → Bool) (c k : Nat) (e : Nat → Nat) : Nat := if ansB F e k = true then cntA F c (c - k) k (usd e k) else 0
def AddP (F : Nat → Nat → Bool) (c k : Nat) (e : Nat → Nat) (x y : Nat) : Prop := ansB F e k = true ∧ ((x < k ∧ y = e x ∧ 0 < cntA F c (c - k) k (usd e k)) ∨ mayA F c (c - k) k (usd e k) x y)
def updN (e : Nat → Nat) (k j : Nat) : Nat → Nat := fun i => if i = k then j else e i
def OdS (m0 : OS) (c : Nat) (e : Nat → Nat) (A : Nat) (B S : Nat → Nat → Bool) (st : OS) : Prop := (∀ r, r ≠ 0 → r ≠ 75 → r ≠ 76 → r ≠ 77 → st.1 r = m0.1 r) ∧ st.2 = m0.2 ∧ (∀ i, i ≠ 69 → st.1 0 i = m0.1 0 i) ∧ st.1 0 69 = nI A ∧ ∀ i, i < c → (st.1 75 i = nI (e i) ∧ e i < c) ∧ st.1 76 i = nI (mkB (B i) 16) ∧ st.1 77 i = nI (mkB (S i) 16)
theorem od_base {m0 st : OS} {c A : Nat} {e : Nat → Nat} {F B S : Nat → Nat → Bool} (hc : c ≤ 6) (h0 : 0 < c) (hfit : ∀ st : OS, (∀ r, r ≠ 0 → r ≠ 75 → r ≠ 76 → r ≠ 77 → st.1 r = m0.1 r) → ∀ i j, i < c → j < c → f11_isFit (nI i) (nI j) st = some (b1 (F i j = true))) (h : OdS m0 c e A B S st) :
    ∃ st' q B' S', f11_turns (nI c) st' = some q ∧ loop (f11_found_l148 (nI c)) ((1 : Int32), st) = loop (f11_found_l148 (nI c)) q ∧ OdS m0 c e (A + cntP F c c e) B' S' st' ∧ (∀ x y, x < c → (B' x y = true ↔ B x y = true ∨ AddP F c c e x y)) ∧ ∀ x y, x < c → (S' x y = true ↔ S x y = true ∧ ∀ y', AddP F c c e x y' → y' = y) := by
  obtain ⟨f1, f2, f3, f4, f5⟩ := h
  have hans := r_isAnswer (m := st) (F := F) hc (fun i hi => (f5 i hi).1) (hfit st f1)
  have h1 : cntA F c (c - c) c (usd e c) = 1 := by rw [Nat.sub_self]; rfl
  have h2 : ∀ x y, ¬ mayA F c (c - c) c (usd e c) x y := fun x y hh => by rw [Nat.sub_self] at hh; exact hh
  by_cases ha : ansB F e c = true
  · obtain ⟨st', q, k1, k2, k3, k4, k5⟩ := marks (st := wI st 0 69 (nI (A + 1))) (e := e) (B := B) (S := S) hc h0 (fun i hi => (f5 i hi).1) (fun i hi => (f5 i hi).2.1) (fun i hi => (f5 i hi).2.2)
    have hcp : cntP F c c e = 1 := by unfold cntP; rw [if_pos ha, h1]
    have hAdd : ∀ x y, x < c → (AddP F c c e x y ↔ y = e x) := fun x y hx => by
      unfold AddP
      rw [h1]
      exact ⟨fun hh => hh.2.elim (fun hh => hh.2.1) (fun hh => absurd hh (h2 x y)), fun hh => ⟨ha, Or.inl ⟨hx, hh, by omega⟩⟩⟩
    refine ⟨st', q, fun x => addB (B x) (e x), fun x y => S x y && decide (y = e x), k2, ?_, ⟨fun r r1 r2 r3 r4 => ?_, by rw [k4]; exact f2, fun i hi => ?_, ?_, fun i hi => ⟨?_, (k5 i hi).1, (k5 i hi).2⟩⟩, fun x y hx => ?_, fun x y hx => ?_⟩
    · refine loop_inl ?_
      unfold f11_found_l148
      show (if (1 : Int32) = 0 then _ else _) = _
      rw [if_neg (by decide)]
      show Option.bind (f11_isAnswer (nI c) st) _ = _
      rw [hans, b1_t ha, Option.bind_some, if_neg (by decide)]
      show loop (f11_found_l172 (nI c)) ((0 : Int32), wI st 0 69 (st.1 0 69 + 1)) = _
      rw [f4, nI_1, k1]
    · rw [k3 r r3 r4]
      show (if r = 0 then _ else st.1 r) = _
      rw [if_neg r1]; exact f1 r r1 r2 r3 r4
    · rw [k3 0 (by decide) (by decide)]
      show (if i = 69 then _ else st.1 0 i) = _
      rw [if_neg hi]; exact f3 i hi
    · rw [k3 0 (by decide) (by decide), hcp]; rfl
    · rw [k3 75 (by decide) (by decide)]; exact (f5 i hi).1
    · show (B x y || decide (y = e x)) = true ↔ _
      rw [Bool.or_eq_true, decide_eq_true_eq, hAdd x y hx]
    · rw [Bool.and_eq_true, decide_eq_true_eq]
      exact ⟨fun hh => ⟨hh.1, fun y' hy' => by rw [(hAdd x y' hx).mp hy', hh.2]⟩, fun hh => ⟨hh.1, (hh.2 (e x) ((hAdd x (e x) hx).mpr rfl)).symm⟩⟩
  · obtain ⟨q, hq⟩ := r_turns (m := st) hc h0 (fun i hi => (f5 i hi).1)
    have hcp : cntP F c c e = 0 := by unfold cntP; rw [if_neg ha]
    refine ⟨st, q, B, S, hq, ?_, ⟨f1, f2, f3, by rw [hcp]; exact f4, f5⟩, fun x y _ => ⟨Or.inl, fun hh => hh.elim id (fun hh => absurd hh.1 ha)⟩, fun x y _ => ⟨fun hh => ⟨hh, fun y' hy' => absurd hy'.1 ha⟩, fun hh => hh.1⟩⟩
    refine loop_inl ?_
    unfold f11_found_l148 f11_found_j217
    show (if (1 : Int32) = 0 then _ else _) = _
    rw [if_neg (by decide)]
    show Option.bind (f11_isAnswer (nI c) st) _ = _
    rw [hans, b1_f ha, Option.bind_some, if_pos rfl]
    show Option.bind (f11_turns (nI c) st) _ = _
    rw [hq]; rfl
