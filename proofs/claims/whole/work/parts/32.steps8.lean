-- steps: feed, was, sum; loops side by side
theorem loop_sim {S R S' R' : Type} {f : S → Option (S ⊕ R)} {f' : S' → Option (S' ⊕ R')} (N : Nat) (I : Nat → S → S' → Prop) (Q : R → R' → Prop)
    (hs : ∀ i s s', I i s s' → (∃ t t', f s = some (.inl t) ∧ f' s' = some (.inl t') ∧ i < N ∧ I (i + 1) t t') ∨ (∃ r r', f s = some (.inr r) ∧ f' s' = some (.inr r') ∧ Q r r')) : ∀ m i s s', N ≤ i + m → I i s s' → ∃ r r', loop f s = some r ∧ loop f' s' = some r' ∧ Q r r'
  | 0, i, s, s', hm, h => by
    rcases hs i s s' h with ⟨t, t', e1, e2, hi, h'⟩ | ⟨r, r', e1, e2, hq⟩
    · omega
    · exact ⟨r, r', loop_inr e1, loop_inr e2, hq⟩
  | m + 1, i, s, s', hm, h => by
    rcases hs i s s' h with ⟨t, t', e1, e2, hi, h'⟩ | ⟨r, r', e1, e2, hq⟩
    · obtain ⟨r, r', g1, g2, hq⟩ := loop_sim N I Q hs m (i + 1) t t' (by omega) h'
      exact ⟨r, r', (loop_inl e1).trans g1, (loop_inl e2).trans g2, hq⟩
    · exact ⟨r, r', loop_inr e1, loop_inr e2, hq⟩
theorem loop_seq {S R : Type} {f : S → Option (S ⊕ R)} (st : Nat → S) (n : Nat) (r : R) (hs : ∀ i, i < n → f (st i) = some (.inl (st (i + 1)))) (he : f (st n) = some (.inr r)) : loop f (st 0) = some r := by
  have h : ∀ j, j ≤ n → loop f (st (n - j)) = some r := by
    intro j
    induction j with
    | zero => intro _; exact loop_inr he
    | succ j ih =>
      intro hj
      rw [loop_inl (hs (n - (j + 1)) (by omega)), show n - (j + 1) + 1 = n - j by omega]
      exact ih (by omega)
  have := h n (Nat.le_refl n)
  rwa [Nat.sub_self] at this
theorem st_was {k : Nat} {s0 s1 s2 s3 s4 s5 s6 s7 s8 s9 s10 s11 : OS} (h : Rel k s0 s1 s2 s3 s4 s5 s6 s7 s8 s9 s10 s11) (hk : k < 512) (a1 : Int32) (a2 : Int32) (a3 : Int32) : ∃ (rc : Int32) (rr : Int32), f10_was a1 a2 a3 s1 s4 s10 = some rc ∧ f11_was a1 a2 a3 s11 = some rr ∧ rc = rr ∧ Rel (k + 1) s0 s1 s2 s3 s4 s5 s6 s7 s8 s9 s10 s11 := by
  obtain ⟨n, ⟨hg, ht, htr, hgr⟩, hP, hD, hA⟩ := id h
  obtain ⟨p1, p2, p3, p4⟩ := id hP
  obtain ⟨d, d1, d2, d3, d4, d5, d6, d7, d8⟩ := id hD
  unfold f10_was f10_was_j23 f11_was f11_was_j22
  rw [c_has p1 p2, r_isPiece p1 p3]
  simp only [Option.bind_some, c_isWithin, r_lies, if_b1, Int32.toInt_toInt64]
  by_cases h1 : 0 ≤ a1.toInt ∧ a1.toInt < n
  · simp only [if_pos h1]
    by_cases h2 : (0 : Int32).toInt ≤ a2.toInt ∧ a2.toInt ≤ (s10.1 0 9).toInt
    · rw [if_pos h2, if_pos (show (0 : Int64).toInt ≤ a2.toInt ∧ a2.toInt ≤ (s11.1 0 2).toInt by rw [← ht]; exact h2)]
      unfold f4_tellPast f1_tell f1_tell_j22 f1_latest
      have key : ∃ r r', loop (f1_latest_l5 a1 a2 s1) ((-1 : Int32), (0 : Int32)) = some r ∧ loop (f11_was_l30 a1 a2 a3 s11) ((-1 : Int32), (0 : Int32)) = some r' ∧ ((r = -1 ∧ r' = -1) ∨ ∃ j, j < d ∧ r = nI j ∧ r' = if a3 = 2 then s11.1 28 j else if a3 = 3 then s11.1 29 j else if a3 = 4 then s11.1 30 j else -1) := by
        refine loop_sim d (fun i s s' => s = s' ∧ i ≤ d ∧ s.2 = nI i ∧ (s.1 = -1 ∨ ∃ j, j < i ∧ s.1 = nI j)) _ ?_ d 0 _ _ (by omega) ⟨rfl, by omega, rfl, Or.inl rfl⟩
        rintro i ⟨x, y⟩ s' ⟨rfl, hi, e, hx⟩
        have e : y = nI i := e
        subst e
        unfold f1_latest_l5 f1_latest_j53 f1_latest_j47 f11_was_l30 f11_was_j66 f11_was_j68 f11_was_j130
        simp only [d2, d3]
        by_cases hid : i = d
        · right
          subst hid
          rw [if_pos (show nI i ≤ nI i from nI_le (Nat.le_refl _) (by omega)), if_pos (show nI i ≤ nI i from nI_le (Nat.le_refl _) (by omega))]
          rcases hx with hx | ⟨j, hj, hx⟩
          · have hx : x = -1 := hx
            subst hx
            exact ⟨_, _, rfl, rfl, Or.inl ⟨rfl, rfl⟩⟩
          · have hx : x = nI j := hx
            subst hx
            have hjc := nI_clamp (n := j) (by omega)
            rw [if_neg (show ¬ nI j = -1 from fun e => by have e := congrArg Int32.toInt e; rw [nI_toInt (by omega)] at e; have e : (j : Int) = -1 := e; omega)]
            simp only [hjc, inb_n (show j < 4800 by omega) (by omega : 4800 < 2 ^ 31), chk_p, nm_p]
            by_cases e2 : a3 = 2
            · rw [if_pos e2]; exact ⟨_, _, rfl, rfl, Or.inr ⟨j, hj, rfl, by rw [if_pos e2]⟩⟩
            · rw [if_neg e2]
              by_cases e3 : a3 = 3
              · rw [if_pos e3]; exact ⟨_, _, rfl, rfl, Or.inr ⟨j, hj, rfl, by rw [if_neg e2, if_pos e3]⟩⟩
              · rw [if_neg e3]
                by_cases e4 : a3 = 4
                · rw [if_pos e4]; exact ⟨_, _, rfl, rfl, Or.inr ⟨j, hj, rfl, by rw [if_neg e2, if_neg e3, if_pos e4]⟩⟩
                · rw [if_neg e4]; exact ⟨_, _, rfl, rfl, Or.inr ⟨j, hj, rfl, by rw [if_neg e2, if_neg e3, if_neg e4]⟩⟩
        · left
          have hlt : i < d := by omega
          have hic := nI_clamp (n := i) (by omega)
          have hx' : x = -1 ∨ ∃ j, j < i + 1 ∧ x = nI j := hx.imp id (fun ⟨j, h1, h2⟩ => ⟨j, by omega, h2⟩)
          rw [if_neg (nI_ge hlt (by omega)), if_neg (nI_ge hlt (by omega)), if_neg (show ¬ (662 : Int32) ≤ nI i from nI_ge (a := i) (b := 662) (by omega) (by omega))]
          simp only [hic, inb_n (show i < 4800 by omega) (by omega : 4800 < 2 ^ 31), inb_n (show i < 662 by omega) (by omega : 662 < 2 ^ 31), chk_p, nm_p, d4, d5, nI_1]
          by_cases e1 : s11.1 26 i = a1
          · simp only [if_pos e1]
            by_cases e2 : a2 < s11.1 27 i
            · simp only [if_pos e2]
              exact ⟨_, _, rfl, rfl, hlt, rfl, hlt, rfl, hx'⟩
            · simp only [if_neg e2]
              exact ⟨_, _, rfl, rfl, hlt, rfl, hlt, rfl, Or.inr ⟨i, by omega, rfl⟩⟩
          · simp only [if_neg e1]
            exact ⟨_, _, rfl, rfl, hlt, rfl, hlt, rfl, hx'⟩
      obtain ⟨r, r', k1, k2, k3⟩ := key
      rw [k1, k2]
      simp only [Option.bind_some]
      rcases k3 with ⟨rfl, rfl⟩ | ⟨j, hj, rfl, rfl⟩
      · exact ⟨_, _, rfl, rfl, rfl, h.same⟩
      · have hjc := nI_clamp (n := j) (by omega)
        rw [if_neg (nI_pos (n := j) (by omega)), d2, if_pos (nI_lt hj (by omega))]
        simp only [hjc, inb_n (show j < 662 by omega) (by omega : 662 < 2 ^ 31), chk_p, nm_p, d6, d7, d8]
        by_cases e2 : a3 = 2
        · simp only [if_pos e2]; exact ⟨_, _, rfl, rfl, rfl, h.same⟩
        · simp only [if_neg e2]
          by_cases e3 : a3 = 3
          · simp only [if_pos e3]; exact ⟨_, _, rfl, rfl, rfl, h.same⟩
          · simp only [if_neg e3]
            by_cases e4 : a3 = 4
            · simp only [if_pos e4]; exact ⟨_, _, rfl, rfl, rfl, h.same⟩
            · simp only [if_neg e4]; exact ⟨_, _, rfl, rfl, rfl, h.same⟩
    · rw [if_neg h2, if_neg (show ¬ ((0 : Int64).toInt ≤ a2.toInt ∧ a2.toInt ≤ (s11.1 0 2).toInt) by rw [← ht]; exact h2)]
      exact ⟨_, _, rfl, rfl, rfl, h.same⟩
  · simp only [if_neg h1]
    exact ⟨_, _, rfl, rfl, rfl, h.same⟩
