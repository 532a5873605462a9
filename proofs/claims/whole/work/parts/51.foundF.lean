-- found: the odometer's whole run
theorem upd_usd {e : Nat → Nat} {k j : Nat} : usd (updN e k j) (k + 1) = addB (usd e k) j := by
  show addB (usd (updN e k j) k) (updN e k j k) = _
  rw [usd_congr (e := updN e k j) (e' := e) k (fun i hi => if_neg (by omega)), show updN e k j k = j from if_pos rfl]
theorem upd_ans {F : Nat → Nat → Bool} {e : Nat → Nat} {k j : Nat} : ansB F (updN e k j) (k + 1) = (ansB F e k && (F k j && !usd e k j)) := by
  show (ansB F (updN e k j) k && (F k (updN e k j k) && !usd (updN e k j) k (updN e k j k))) = _
  rw [ansB_congr (e := updN e k j) (e' := e) k (fun i hi => if_neg (by omega)), usd_congr (e := updN e k j) (e' := e) k (fun i hi => if_neg (by omega)), show updN e k j k = j from if_pos rfl]
theorem sumB_congr {f g : Nat → Nat} : ∀ n, (∀ i, i < n → f i = g i) → sumB f n = sumB g n
  | 0, _ => rfl
  | n + 1, h => by
    show sumB f n + f n = sumB g n + g n
    rw [sumB_congr n (fun i hi => h i (by omega)), h n (by omega)]
theorem sumB_zero {g : Nat → Nat} : ∀ n, (∀ i, i < n → g i = 0) → sumB g n = 0
  | 0, _ => rfl
  | n + 1, h => by
    show sumB g n + g n = 0
    rw [sumB_zero n (fun i hi => h i (by omega)), h n (by omega)]
theorem sumB_pos {g : Nat → Nat} : ∀ n, 0 < sumB g n → ∃ j, j < n ∧ 0 < g j
  | 0, h => by
    have h : 0 < 0 := h
    omega
  | n + 1, h => by
    have h : 0 < sumB g n + g n := h
    by_cases e : 0 < g n
    · exact ⟨n, by omega, e⟩
    · obtain ⟨j, h1, h2⟩ := sumB_pos (g := g) n (by omega)
      exact ⟨j, by omega, h2⟩
theorem sumB_pos' {g : Nat → Nat} {j : Nat} (h : 0 < g j) : ∀ n, j < n → 0 < sumB g n
  | 0, hj => by omega
  | n + 1, hj => by
    show 0 < sumB g n + g n
    by_cases e : j = n
    · subst e; omega
    · have := sumB_pos' h n (by omega)
      omega
theorem cnt_unfold {F : Nat → Nat → Bool} {c k : Nat} {e : Nat → Nat} (hk : k < c) : cntP F c k e = sumB (fun j => cntP F c (k + 1) (updN e k j)) c := by
  obtain ⟨d, hd⟩ : ∃ d, c - k = d + 1 := ⟨c - k - 1, by omega⟩
  have hd2 : c - (k + 1) = d := by omega
  unfold cntP
  rw [hd, hd2]
  by_cases ha : ansB F e k = true
  · rw [if_pos ha]
    refine sumB_congr c (fun j _ => ?_)
    rw [upd_ans, upd_usd, ha]
    cases h1 : F k j
    · rw [if_neg (fun hh => by cases hh.1), if_neg (by simp)]
    · cases h2 : usd e k j
      · rw [if_pos ⟨rfl, rfl⟩, if_pos (by simp)]
      · rw [if_neg (fun hh => by cases hh.2), if_neg (by simp)]
  · rw [if_neg ha]
    refine (sumB_zero c (fun j _ => ?_)).symm
    rw [upd_ans, if_neg (fun hh => ha (by rw [Bool.and_eq_true] at hh; exact hh.1))]
theorem add_unfold {F : Nat → Nat → Bool} {c k : Nat} {e : Nat → Nat} (hk : k < c) (x y : Nat) : AddP F c k e x y ↔ ∃ j, j < c ∧ AddP F c (k + 1) (updN e k j) x y := by
  obtain ⟨d, hd⟩ : ∃ d, c - k = d + 1 := ⟨c - k - 1, by omega⟩
  have hd2 : c - (k + 1) = d := by omega
  unfold AddP
  rw [hd, hd2]
  have pos : ∀ j, j < c → F k j = true → usd e k j = false → 0 < cntA F c d (k + 1) (addB (usd e k) j) → 0 < cntA F c (d + 1) k (usd e k) := fun j hj h1 h2 h3 => by
    refine sumB_pos' (j := j) (n := c) ?_ hj
    rw [if_pos ⟨h1, h2⟩]; exact h3
  constructor
  · rintro ⟨ha, h⟩
    rcases h with ⟨h1, h2, h3⟩ | ⟨j, h1, h2, h3, h4⟩
    · obtain ⟨j, hj, hp⟩ := sumB_pos c h3
      by_cases hc : F k j = true ∧ usd e k j = false
      · rw [if_pos hc] at hp
        refine ⟨j, hj, ?_, Or.inl ⟨by omega, ?_, by rw [upd_usd]; exact hp⟩⟩
        · rw [upd_ans, ha, hc.1, hc.2]; rfl
        · rw [h2]; exact (if_neg (by omega)).symm
      · rw [if_neg hc] at hp; omega
    · refine ⟨j, h1, ?_, ?_⟩
      · rw [upd_ans, ha, h2, h3]; rfl
      · rw [upd_usd]
        rcases h4 with ⟨e1, e2, e3⟩ | h4
        · exact Or.inl ⟨by omega, by rw [e2, e1]; exact (if_pos rfl).symm, e3⟩
        · exact Or.inr h4
  · rintro ⟨j, hj, h1, h2⟩
    rw [upd_ans, Bool.and_eq_true, Bool.and_eq_true, Bool.not_eq_true'] at h1
    obtain ⟨ha, hF, hU⟩ := h1
    rw [upd_usd] at h2
    refine ⟨ha, ?_⟩
    rcases h2 with ⟨e1, e2, e3⟩ | h2
    · by_cases hx : x = k
      · subst hx
        exact Or.inr ⟨j, hj, hF, hU, Or.inl ⟨rfl, by rw [e2]; exact if_pos rfl, e3⟩⟩
      · exact Or.inl ⟨by omega, by rw [e2]; exact if_neg hx, pos j hj hF hU e3⟩
    · exact Or.inr ⟨j, hj, hF, hU, Or.inr h2⟩
theorem od {m0 : OS} {c : Nat} {F : Nat → Nat → Bool} (hc : c ≤ 6) (h0 : 0 < c) (hfit : ∀ st : OS, (∀ r, r ≠ 0 → r ≠ 75 → r ≠ 76 → r ≠ 77 → st.1 r = m0.1 r) → ∀ i j, i < c → j < c → f11_isFit (nI i) (nI j) st = some (b1 (F i j = true))) : ∀ (d k : Nat) (e : Nat → Nat) (st : OS) (A : Nat) (B S : Nat → Nat → Bool), k + d = c → OdS m0 c e A B S st → (∀ i, k ≤ i → i < c → e i = 0) →
    ∃ st' e' q B' S', f11_turns (nI c) st' = some q ∧ loop (f11_found_l148 (nI c)) ((1 : Int32), st) = loop (f11_found_l148 (nI c)) q ∧ OdS m0 c e' (A + cntP F c k e) B' S' st' ∧ (∀ i, i < k → e' i = e i) ∧ (∀ i, k ≤ i → i < c → e' i = c - 1) ∧ (∀ x y, x < c → (B' x y = true ↔ B x y = true ∨ AddP F c k e x y)) ∧ ∀ x y, x < c → (S' x y = true ↔ S x y = true ∧ ∀ y', AddP F c k e x y' → y' = y) := by
  intro d
  induction d with
  | zero =>
    intro k e st A B S hk hO hz
    have hk : k = c := hk
    subst hk
    obtain ⟨st', q, B', S', k1, k2, k3, k4, k5⟩ := od_base hc h0 hfit hO
    exact ⟨st', e, q, B', S', k1, k2, k3, fun _ _ => rfl, fun i h1 h2 => by omega, k4, k5⟩
  | succ d ih =>
    intro k e st0 A B S hk hO hz
    have hkc : k < c := by omega
    obtain ⟨g, hg⟩ : ∃ g : Nat → Nat, g = fun j => cntP F c (k + 1) (updN e k j) := ⟨_, rfl⟩
    have G : ∀ (r x : Nat) (st : OS) (B1 S1 : Nat → Nat → Bool), x + r + 1 = c → OdS m0 c (updN e k x) (A + sumB g x) B1 S1 st → (∀ u y, u < c → (B1 u y = true ↔ B u y = true ∨ ∃ j, j < x ∧ AddP F c (k + 1) (updN e k j) u y)) → (∀ u y, u < c → (S1 u y = true ↔ S u y = true ∧ ∀ y', (∃ j, j < x ∧ AddP F c (k + 1) (updN e k j) u y') → y' = y)) →
        ∃ st' e' q B' S', f11_turns (nI c) st' = some q ∧ loop (f11_found_l148 (nI c)) ((1 : Int32), st) = loop (f11_found_l148 (nI c)) q ∧ OdS m0 c e' (A + sumB g c) B' S' st' ∧ (∀ i, i < k → e' i = e i) ∧ (∀ i, k ≤ i → i < c → e' i = c - 1) ∧ (∀ u y, u < c → (B' u y = true ↔ B u y = true ∨ ∃ j, j < c ∧ AddP F c (k + 1) (updN e k j) u y)) ∧ ∀ u y, u < c → (S' u y = true ↔ S u y = true ∧ ∀ y', (∃ j, j < c ∧ AddP F c (k + 1) (updN e k j) u y') → y' = y) := by
      intro r
      induction r with
      | zero =>
        intro x st B1 S1 hx hO1 hB1 hS1
        obtain ⟨st', e', q, B2, S2, k1, k2, k3, k4, k5, k6, k7⟩ := ih (k + 1) (updN e k x) st _ B1 S1 (by omega) hO1 (fun i h1 h2 => by
          show (if i = k then x else e i) = 0
          rw [if_neg (by omega)]; exact hz i (by omega) h2)
        refine ⟨st', e', q, B2, S2, k1, k2, ?_, fun i hi => ?_, fun i h1 h2 => ?_, fun u y hu => ?_, fun u y hu => ?_⟩
        · have e1 : A + sumB g x + cntP F c (k + 1) (updN e k x) = A + sumB g c := by
            have hgx : g x = cntP F c (k + 1) (updN e k x) := by rw [hg]
            have hcx : x + 1 = c := by omega
            have hs : sumB g c = sumB g x + g x := by rw [← hcx]; rfl
            rw [hs, hgx, Nat.add_assoc]
          rw [← e1]; exact k3
        · rw [k4 i (by omega)]; exact if_neg (by omega)
        · by_cases c1 : i = k
          · rw [k4 i (by omega), c1]
            show (if k = k then x else e k) = _
            rw [if_pos rfl]; omega
          · exact k5 i (by omega) h2
        · rw [k6 u y hu, hB1 u y hu]
          constructor
          · rintro ((h | ⟨j, h1, h2⟩) | h)
            · exact Or.inl h
            · exact Or.inr ⟨j, by omega, h2⟩
            · exact Or.inr ⟨x, by omega, h⟩
          · rintro (h | ⟨j, h1, h2⟩)
            · exact Or.inl (Or.inl h)
            · by_cases c1 : j = x
              · subst c1; exact Or.inr h2
              · exact Or.inl (Or.inr ⟨j, by omega, h2⟩)
        · rw [k7 u y hu, hS1 u y hu]
          constructor
          · rintro ⟨⟨h1, h2⟩, h3⟩
            refine ⟨h1, fun y' ⟨j, h4, h5⟩ => ?_⟩
            by_cases c1 : j = x
            · subst c1; exact h3 y' h5
            · exact h2 y' ⟨j, by omega, h5⟩
          · rintro ⟨h1, h2⟩
            exact ⟨⟨h1, fun y' ⟨j, h4, h5⟩ => h2 y' ⟨j, by omega, h5⟩⟩, fun y' h5 => h2 y' ⟨x, by omega, h5⟩⟩
      | succ r ihr =>
        intro x st B1 S1 hx hO1 hB1 hS1
        obtain ⟨st', e', q, B2, S2, k1, k2, k3, k4, k5, k6, k7⟩ := ih (k + 1) (updN e k x) st _ B1 S1 (by omega) hO1 (fun i h1 h2 => by
          show (if i = k then x else e i) = 0
          rw [if_neg (by omega)]; exact hz i (by omega) h2)
        obtain ⟨f1, f2, f3, f4, f5⟩ := k3
        have ek : e' k = x := by rw [k4 k (by omega)]; exact if_pos rfl
        obtain ⟨st2, t1, t2, t3, t4, t5⟩ := turn_k (k := k) (x := x) hc (by omega) (c - 1 - k) st' (by omega) (by rw [(f5 k hkc).1.1, ek]) (fun j h1 h2 => by rw [(f5 j (by omega)).1.1, k5 j (by omega) (by omega)])
        have hq : q = (1, st2) := by
          have hk1 := k1
          unfold f11_turns at hk1
          rw [nm_p, show (1 : Int32) = nI 1 from rfl, pk_sub (by omega), show c - 1 = k + (c - 1 - k) by omega, t1] at hk1
          exact (Option.some.inj hk1).symm
        subst hq
        have hO2 : OdS m0 c (updN e k (x + 1)) (A + sumB g (x + 1)) B2 S2 st2 := by
          refine ⟨fun r r1 r2 r3 r4 => (t2.1 r r2).trans (f1 r r1 r2 r3 r4), t2.2.trans f2, fun i hi => by rw [t2.1 0 (by decide)]; exact f3 i hi, ?_, fun i hi => ⟨⟨?_, ?_⟩, by rw [t2.1 76 (by decide)]; exact (f5 i hi).2.1, by rw [t2.1 77 (by decide)]; exact (f5 i hi).2.2⟩⟩
          · rw [t2.1 0 (by decide), f4]
            show nI (A + sumB g x + cntP F c (k + 1) (updN e k x)) = nI (A + (sumB g x + g x))
            rw [hg, Nat.add_assoc]
          · show st2.1 75 i = nI (if i = k then x + 1 else e i)
            by_cases c1 : i = k
            · rw [if_pos c1, c1]; exact t3
            · rw [if_neg c1]
              by_cases c2 : k < i
              · rw [t4 i c2 (by omega), hz i (by omega) hi]
              · rw [t5 i (by omega), (f5 i hi).1.1, k4 i (by omega)]
                show nI (if i = k then x else e i) = _
                rw [if_neg c1]
          · show (if i = k then x + 1 else e i) < c
            by_cases c1 : i = k
            · rw [if_pos c1]; omega
            · rw [if_neg c1]
              by_cases c2 : k < i
              · rw [hz i (by omega) hi]; omega
              · have := (f5 i hi).1.2
                rw [k4 i (by omega)] at this
                have this : (if i = k then x else e i) < c := this
                rw [if_neg c1] at this; exact this
        have hB2 : ∀ u y, u < c → (B2 u y = true ↔ B u y = true ∨ ∃ j, j < x + 1 ∧ AddP F c (k + 1) (updN e k j) u y) := by
          intro u y hu
          rw [k6 u y hu, hB1 u y hu]
          constructor
          · rintro ((h | ⟨j, h1, h2⟩) | h)
            · exact Or.inl h
            · exact Or.inr ⟨j, by omega, h2⟩
            · exact Or.inr ⟨x, by omega, h⟩
          · rintro (h | ⟨j, h1, h2⟩)
            · exact Or.inl (Or.inl h)
            · by_cases c1 : j = x
              · subst c1; exact Or.inr h2
              · exact Or.inl (Or.inr ⟨j, by omega, h2⟩)
        have hS2 : ∀ u y, u < c → (S2 u y = true ↔ S u y = true ∧ ∀ y', (∃ j, j < x + 1 ∧ AddP F c (k + 1) (updN e k j) u y') → y' = y) := by
          intro u y hu
          rw [k7 u y hu, hS1 u y hu]
          constructor
          · rintro ⟨⟨h1, h2⟩, h3⟩
            refine ⟨h1, fun y' ⟨j, h4, h5⟩ => ?_⟩
            by_cases c1 : j = x
            · subst c1; exact h3 y' h5
            · exact h2 y' ⟨j, by omega, h5⟩
          · rintro ⟨h1, h2⟩
            exact ⟨⟨h1, fun y' ⟨j, h4, h5⟩ => h2 y' ⟨j, by omega, h5⟩⟩, fun y' h5 => h2 y' ⟨x, by omega, h5⟩⟩
        obtain ⟨st3, e3, q3, B3, S3, l1, l2, l3⟩ := ihr (x + 1) st2 B2 S2 (by omega) hO2 hB2 hS2
        exact ⟨st3, e3, q3, B3, S3, l1, k2.trans l2, l3⟩
    have hup : updN e k 0 = e := by
      funext i
      show (if i = k then 0 else e i) = e i
      by_cases c1 : i = k
      · rw [if_pos c1, c1, hz k (Nat.le_refl _) hkc]
      · rw [if_neg c1]
    obtain ⟨st', e', q, B', S', k1, k2, k3, k4, k5, k6, k7⟩ := G (c - 1) 0 st0 B S (by omega) (by rw [hup]; exact hO) (fun u y _ => ⟨Or.inl, fun h => h.elim id (fun ⟨j, hj, _⟩ => by omega)⟩) (fun u y _ => ⟨fun h => ⟨h, fun y' ⟨j, hj, _⟩ => by omega⟩, fun h => h.1⟩)
    refine ⟨st', e', q, B', S', k1, k2, ?_, k4, k5, fun u y hu => ?_, fun u y hu => ?_⟩
    · rw [cnt_unfold hkc, ← hg]; exact k3
    · rw [k6 u y hu, add_unfold hkc]
    · rw [k7 u y hu]
      exact ⟨fun h => ⟨h.1, fun y' hy' => h.2 y' ((add_unfold hkc u y').mp hy')⟩, fun h => ⟨h.1, fun y' hy' => h.2 y' ((add_unfold hkc u y').mpr hy')⟩⟩
