-- found: the reference's run from digits 0
theorem od_all {m0 : OS} {c : Nat} {F B S : Nat → Nat → Bool} {st : OS} (hc : c ≤ 6) (h0 : 0 < c) (hfit : ∀ st : OS, (∀ r, r ≠ 0 → r ≠ 75 → r ≠ 76 → r ≠ 77 → st.1 r = m0.1 r) → ∀ i j, i < c → j < c → f11_isFit (nI i) (nI j) st = some (b1 (F i j = true))) (hO : OdS m0 c (fun _ => 0) 0 B S st) :
    ∃ (m' : OS) (B' S' : Nat → Nat → Bool), loop (f11_found_l148 (nI c)) ((1 : Int32), st) = some (nI (cntA F c c 0 (fun _ => false)), m') ∧ (∀ r, r ≠ 0 → r ≠ 75 → r ≠ 76 → r ≠ 77 → m'.1 r = m0.1 r) ∧ m'.2 = m0.2 ∧ (∀ i, i ≠ 69 → m'.1 0 i = m0.1 0 i) ∧ m'.1 0 69 = nI (cntA F c c 0 (fun _ => false)) ∧ (∀ i, i < c → m'.1 76 i = nI (mkB (B' i) 16) ∧ m'.1 77 i = nI (mkB (S' i) 16)) ∧ (∀ x y, x < c → (B' x y = true ↔ B x y = true ∨ mayA F c c 0 (fun _ => false) x y)) ∧ ∀ x y, x < c → (S' x y = true ↔ S x y = true ∧ ∀ y', mayA F c c 0 (fun _ => false) x y' → y' = y) := by
  obtain ⟨st', e', q, B', S', k1, k2, ⟨f1, f2, f3, f4, f5⟩, k4, k5, k6, k7⟩ := od hc h0 hfit c 0 (fun _ => 0) st 0 B S (by omega) hO (fun _ _ _ => rfl)
  have hA : cntP F c 0 (fun _ => 0) = cntA F c c 0 (fun _ => false) := by
    unfold cntP
    rw [show ansB F (fun _ => 0) 0 = true from rfl, if_pos rfl]; rfl
  have hP : ∀ x y, AddP F c 0 (fun _ => 0) x y ↔ mayA F c c 0 (fun _ => false) x y := fun x y =>
    ⟨fun h => h.2.elim (fun h => by omega) id, fun h => ⟨rfl, Or.inr h⟩⟩
  rw [hA, Nat.zero_add] at f4
  obtain ⟨m', t1, t2⟩ := turn_end hc h0 (c - 1) st' (by omega) (fun j hj => by rw [(f5 j (by omega)).1.1, k5 j (by omega) (by omega)])
  have hq : q = (0, m') := by
    have hk1 := k1
    unfold f11_turns at hk1
    rw [nm_p, show (1 : Int32) = nI 1 from rfl, pk_sub (by omega), t1] at hk1
    exact (Option.some.inj hk1).symm
  subst hq
  refine ⟨m', B', S', ?_, fun r r1 r2 r3 r4 => (t2.1 r r2).trans (f1 r r1 r2 r3 r4), t2.2.trans f2, fun i hi => by rw [t2.1 0 (by decide)]; exact f3 i hi, by rw [t2.1 0 (by decide)]; exact f4, fun i hi => ⟨by rw [t2.1 76 (by decide)]; exact (f5 i hi).2.1, by rw [t2.1 77 (by decide)]; exact (f5 i hi).2.2⟩, fun x y hx => ?_, fun x y hx => ?_⟩
  · rw [k2]
    refine loop_inr ?_
    unfold f11_found_l148
    show (if (0 : Int32) = 0 then _ else _) = _
    rw [if_pos rfl]
    show Option.map Sum.inr (some (m'.1 0 69, m')) = _
    rw [t2.1 0 (by decide), f4]; rfl
  · rw [k6 x y hx, hP]
  · rw [k7 x y hx]
    exact ⟨fun h => ⟨h.1, fun y' hy' => h.2 y' ((hP x y').mpr hy')⟩, fun h => ⟨h.1, fun y' hy' => h.2 y' ((hP x y').mp hy')⟩⟩
