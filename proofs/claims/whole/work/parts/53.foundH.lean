-- found: the class sorts what is mixed
def SrtS (s : OS) (c : Nat) (sp0 : Nat → Nat) (u : OS) (sp σ τ : Nat → Nat) : Prop := (∀ r, r ≠ 1 → u.1 r = s.1 r) ∧ u.2 = s.2 ∧ (∀ i, i < c → u.1 1 i = nI (sp i) ∧ sp i < 150) ∧ Prm c σ τ ∧ ∀ i, i < c → sp (σ i) = sp0 i
def swN2 (j i : Nat) : Nat := if i = j then j + 1 else if i = j + 1 then j else i
theorem swN2_2 {j i : Nat} : swN2 j (swN2 j i) = i := by
  unfold swN2
  by_cases e1 : i = j
  · rw [if_pos e1, if_neg (by omega), if_pos rfl, e1]
  · rw [if_neg e1]
    by_cases e2 : i = j + 1
    · rw [if_pos e2, if_pos rfl, e2]
    · rw [if_neg e2, if_neg e1, if_neg e2]
theorem swN2_lt {j i c : Nat} (hj : j + 1 < c) (hi : i < c) : swN2 j i < c := by
  unfold swN2
  by_cases e1 : i = j
  · rw [if_pos e1]; exact hj
  · rw [if_neg e1]
    by_cases e2 : i = j + 1
    · rw [if_pos e2]; omega
    · rw [if_neg e2]; exact hi
theorem srt_in {s : OS} {c i : Nat} {sp0 : Nat → Nat} (hc : c ≤ 6) (hi : i < c) (hd : ∀ a b, a < c → b < c → sp0 a = sp0 b → a = b) : ∀ (j : Nat) (u : OS), j ≤ i → (∃ sp σ τ, SrtS s c sp0 u sp σ τ ∧ ∀ a b, a < b → b ≤ i → b ≠ j → sp a < sp b) → ∃ u', loop (f3_sortMixed_l18 (nI i)) (nI j, u) = some (Sum.inl (nI (i + 1), u')) ∧ ∃ sp σ τ, SrtS s c sp0 u' sp σ τ ∧ ∀ a b, a < b → b ≤ i → sp a < sp b
  | 0, u, _, ⟨sp, σ, τ, h1, h2⟩ => by
    refine ⟨u, loop_inr ?_, sp, σ, τ, h1, fun a b h3 h4 => h2 a b h3 h4 (by omega)⟩
    unfold f3_sortMixed_l18 f3_sortMixed_j75
    show (if nI 0 ≤ 0 then _ else _) = _
    rw [if_pos (by decide), nm_p, nI_1]; rfl
  | j + 1, u, hj, ⟨sp, σ, τ, h1, h2⟩ => by
    obtain ⟨f1, f2, f3, f4, f5⟩ := id h1
    obtain ⟨g1, g2⟩ := f3 j (by omega)
    obtain ⟨g3, g4⟩ := f3 (j + 1) (by omega)
    have hdd : ∀ a b, a < c → b < c → sp a = sp b → a = b := by
      intro a b ha hb e
      have ea := f5 (τ a) (f4 a ha).2.1
      have eb := f5 (τ b) (f4 b hb).2.1
      rw [(f4 a ha).2.2.1] at ea
      rw [(f4 b hb).2.2.1] at eb
      have := hd _ _ (f4 a ha).2.1 (f4 b hb).2.1 (by rw [← ea, ← eb, e])
      rw [← (f4 a ha).2.2.1, this, (f4 b hb).2.2.1]
    have ix : nI (j + 1) - (1 : Int32) = nI j := by rw [show (1 : Int32) = nI 1 from rfl, pk_sub (by omega)]; rfl
    have body : f3_sortMixed_l18 (nI i) (nI (j + 1), u) = if sp j ≤ sp (j + 1) then some (.inr (Sum.inl (nI (i + 1), u))) else some (.inl (nI j, wI (wI u 1 (j + 1) (nI (sp j))) 1 j (nI (sp (j + 1))))) := by
      unfold f3_sortMixed_l18 f3_sortMixed_j75
      show (if nI (j + 1) ≤ 0 then _ else _) = _
      rw [if_neg (show ¬ nI (j + 1) ≤ 0 from nI_ge (a := 0) (b := j + 1) (by omega) (by omega))]
      simp only [ix, nI_clamp (n := j) (by omega), nI_clamp (n := j + 1) (by omega), inb_n (show j < 6 by omega) (by omega : 6 < 2 ^ 31), inb_n (show j + 1 < 6 by omega) (by omega : 6 < 2 ^ 31), chk_p, nm_p, g1, g3, nI_1, pk_m1]
      by_cases e : sp j ≤ sp (j + 1)
      · rw [if_pos (nI_le e (by omega)), if_pos e]; rfl
      · rw [if_neg (nI_ge (by omega) (by omega)), if_neg e]
    by_cases e : sp j ≤ sp (j + 1)
    · rw [if_pos e] at body
      refine ⟨u, loop_inr body, sp, σ, τ, h1, fun a b h3 h4 => ?_⟩
      by_cases hb : b = j + 1
      · subst hb
        by_cases ha : a = j
        · subst ha
          have : ¬ sp a = sp (a + 1) := fun e2 => by have := hdd _ _ (by omega) (by omega) e2; omega
          omega
        · have := h2 a j (by omega) (by omega) (by omega)
          omega
      · exact h2 a b h3 h4 hb
    · rw [if_neg e] at body
      have lt := srt_in hc hi hd j (wI (wI u 1 (j + 1) (nI (sp j))) 1 j (nI (sp (j + 1)))) (by omega) ⟨fun x => sp (swN2 j x), fun x => swN2 j (σ x), fun x => τ (swN2 j x), ⟨fun r hr => ?_, f2, fun x hx => ⟨?_, (f3 _ (swN2_lt (by omega) hx)).2⟩, fun x hx => ?_, fun x hx => ?_⟩, fun a b h3 h4 h5 => ?_⟩
      · obtain ⟨u', k1, k2⟩ := lt
        exact ⟨u', (loop_inl body).trans k1, k2⟩
      · show (if r = 1 then _ else if r = 1 then _ else u.1 r) = s.1 r
        rw [if_neg hr, if_neg hr]; exact f1 r hr
      · show (if x = j then nI (sp (j + 1)) else if x = j + 1 then nI (sp j) else u.1 1 x) = nI (sp (swN2 j x))
        unfold swN2
        by_cases e1 : x = j
        · rw [if_pos e1, if_pos e1]
        · rw [if_neg e1, if_neg e1]
          by_cases e2 : x = j + 1
          · rw [if_pos e2, if_pos e2]
          · rw [if_neg e2, if_neg e2]; exact (f3 x hx).1
      · have h6 := f4 x hx
        have h7 := f4 (swN2 j x) (swN2_lt (by omega) hx)
        exact ⟨swN2_lt (by omega) h6.1, h7.2.1, by show swN2 j (σ (τ (swN2 j x))) = x; rw [h7.2.2.1, swN2_2], by show τ (swN2 j (swN2 j (σ x))) = x; rw [swN2_2]; exact h6.2.2.2⟩
      · show sp (swN2 j (swN2 j (σ x))) = sp0 x
        rw [swN2_2]; exact f5 x hx
      · show sp (swN2 j a) < sp (swN2 j b)
        unfold swN2
        rw [if_neg h5]
        by_cases e2 : b = j + 1
        · rw [if_pos e2]
          by_cases e3 : a = j
          · rw [if_pos e3]; omega
          · rw [if_neg e3, if_neg (by omega)]
            exact h2 a j (by omega) (by omega) (by omega)
        · rw [if_neg e2]
          by_cases e3 : a = j
          · rw [if_pos e3]; exact h2 (j + 1) b (by omega) h4 e2
          · rw [if_neg e3]
            by_cases e4 : a = j + 1
            · rw [if_pos e4]; exact h2 j b (by omega) h4 e2
            · rw [if_neg e4]; exact h2 a b h3 h4 e2
theorem c_sort {s : OS} {c : Nat} {sp0 : Nat → Nat} (hc : c ≤ 6) (h3 : s.1 0 3 = nI c) (hs : ∀ i, i < c → s.1 1 i = nI (sp0 i) ∧ sp0 i < 150) (hd : ∀ a b, a < c → b < c → sp0 a = sp0 b → a = b) : ∃ s', f3_sortMixed s = some s' ∧ ∃ sp σ τ, SrtS s c sp0 s' sp σ τ ∧ ∀ a b, a < b → b < c → sp a < sp b := by
  unfold f3_sortMixed
  refine loop_inv c (fun k t => ∃ i, t.1 = nI i ∧ i = k + 1 ∧ k ≤ c ∧ ∃ sp σ τ, SrtS s c sp0 t.2 sp σ τ ∧ ∀ a b, a < b → b < i → b < c → sp a < sp b) _ ?_ c 0 _ (by omega) ⟨1, rfl, rfl, by omega, sp0, id, id, ⟨fun _ _ => rfl, rfl, hs, fun i hi => ⟨hi, hi, rfl, rfl⟩, fun _ _ => rfl⟩, fun a b h1 h2 _ => by omega⟩
  rintro k ⟨x, u⟩ ⟨i, e1, e2, hkc, sp, σ, τ, h1, h2⟩
  have e1 : x = nI i := e1
  subst e1
  have h1 : SrtS s c sp0 u sp σ τ := h1
  unfold f3_sortMixed_l2 f3_sortMixed_j81
  by_cases hic : c ≤ i
  · right
    refine ⟨u, ?_, sp, σ, τ, h1, fun a b h3 h4 => h2 a b h3 (by omega) h4⟩
    show (if u.1 0 3 ≤ nI i then _ else _) = _
    rw [h1.1 0 (by decide), h3]
    rw [if_pos (nI_le hic (by omega))]; rfl
  · left
    obtain ⟨u', k1, sp', σ', τ', k2, k3⟩ := srt_in (s := s) (sp0 := sp0) hc (show i < c by omega) hd i u (Nat.le_refl _) ⟨sp, σ, τ, h1, fun a b h3 h4 h5 => h2 a b h3 (by omega) (by omega)⟩
    refine ⟨by omega, (nI (i + 1), u'), ?_, i + 1, rfl, by omega, by omega, sp', σ', τ', k2, fun a b h3 h4 _ => k3 a b h3 (by omega)⟩
    show (if u.1 0 3 ≤ nI i then _ else _) = _
    rw [h1.1 0 (by decide), h3, if_neg (nI_ge (by omega) (by omega)), if_neg (show ¬ (6 : Int32) ≤ nI i from nI_ge (a := i) (b := 6) (by omega) (by omega))]
    exact k1
