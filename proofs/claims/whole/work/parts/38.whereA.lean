-- where: ways as sums, the reference's measures
/-- from i to j within L, through places below k -/
def Ck (w : Nat → Nat → Nat) : Nat → Nat → Nat → Nat → Prop
  | 0, i, j, L => i = j ∨ w i j ≤ L
  | k + 1, i, j, L => Ck w k i j L ∨ ∃ a b, Ck w k i k a ∧ Ck w k k j b ∧ a + b ≤ L
theorem Ck_mono {w : Nat → Nat → Nat} : ∀ {k i j L L' : Nat}, Ck w k i j L → L ≤ L' → Ck w k i j L'
  | 0, _, _, _, _, h, hl => h.imp id (fun h => Nat.le_trans h hl)
  | _ + 1, _, _, _, _, h, hl => h.imp (fun h => Ck_mono h hl) (fun ⟨a, b, h1, h2, h3⟩ => ⟨a, b, h1, h2, Nat.le_trans h3 hl⟩)
theorem Ck_self {w : Nat → Nat → Nat} : ∀ {k i L : Nat}, Ck w k i i L
  | 0, _, _ => Or.inl rfl
  | _ + 1, _, _ => Or.inl Ck_self
theorem Ck_row {w : Nat → Nat → Nat} {k i L : Nat} : Ck w (k + 1) i k L ↔ Ck w k i k L :=
  ⟨fun h => h.elim id (fun ⟨_, _, h1, _, h3⟩ => Ck_mono h1 (by omega)), Or.inl⟩
theorem Ck_col {w : Nat → Nat → Nat} {k j L : Nat} : Ck w (k + 1) k j L ↔ Ck w k k j L :=
  ⟨fun h => h.elim id (fun ⟨_, _, _, h2, h3⟩ => Ck_mono h2 (by omega)), Or.inl⟩
theorem Ck_trans {w : Nat → Nat → Nat} : ∀ {k m i j a b : Nat}, m < k → Ck w k i m a → Ck w k m j b → Ck w k i j (a + b)
  | 0, _, _, _, _, _, hm, _, _ => absurd hm (by omega)
  | k + 1, m, i, j, a, b, hm, h1, h2 => by
    by_cases e : m = k
    · subst e
      exact Or.inr ⟨a, b, Ck_row.mp h1, Ck_col.mp h2, Nat.le_refl _⟩
    · have hm' : m < k := by omega
      rcases h1 with h1 | ⟨a1, a2, h1, h1', h1s⟩
      · rcases h2 with h2 | ⟨b1, b2, h2, h2', h2s⟩
        · exact Or.inl (Ck_trans hm' h1 h2)
        · exact Or.inr ⟨a + b1, b2, Ck_trans hm' h1 h2, h2', by omega⟩
      · rcases h2 with h2 | ⟨b1, b2, h2, h2', h2s⟩
        · exact Or.inr ⟨a1, a2 + b, h1, Ck_trans hm' h1' h2, by omega⟩
        · exact Or.inr ⟨a1, b2, h1, h2', by omega⟩
theorem Ck_up {w : Nat → Nat → Nat} {i j L : Nat} (h : Ck w 0 i j L) : ∀ k, Ck w k i j L
  | 0 => h
  | k + 1 => Or.inl (Ck_up h k)
/-- a walk of n ways -/
def Wn (w : Nat → Nat → Nat) : Nat → Nat → Nat → Nat → Prop
  | 0, x, z, _ => x = z
  | n + 1, x, z, L => ∃ y b, y < 16 ∧ Wn w n x y b ∧ b + w y z ≤ L
theorem Wn_mono {w : Nat → Nat → Nat} : ∀ {n x z L L' : Nat}, Wn w n x z L → L ≤ L' → Wn w n x z L'
  | 0, _, _, _, _, h, _ => h
  | _ + 1, _, _, _, _, ⟨y, b, h1, h2, h3⟩, hl => ⟨y, b, h1, h2, Nat.le_trans h3 hl⟩
theorem Wn_comp {w : Nat → Nat → Nat} {n x y a : Nat} (h : Wn w n x y a) : ∀ {m z b : Nat}, Wn w m y z b → Wn w (n + m) x z (a + b)
  | 0, z, b, h2 => by
    have h2 : y = z := h2
    subst h2
    exact Wn_mono h (by omega)
  | m + 1, z, b, ⟨u, c, h1, h2, h3⟩ => ⟨u, a + c, h1, Wn_comp h h2, by omega⟩
theorem Ck_walk {w : Nat → Nat → Nat} : ∀ {k i j L : Nat}, k ≤ 16 → i < 16 → j < 16 → Ck w k i j L → ∃ n, Wn w n i j L
  | 0, i, j, L, _, hi, _, h => by
    rcases h with rfl | h
    · exact ⟨0, rfl⟩
    · exact ⟨1, i, 0, hi, rfl, by omega⟩
  | k + 1, i, j, L, hk, hi, hj, h => by
    rcases h with h | ⟨a, b, h1, h2, h3⟩
    · exact Ck_walk (by omega) hi hj h
    · obtain ⟨n, hn⟩ := Ck_walk (by omega) hi (by omega) h1
      obtain ⟨m, hm⟩ := Ck_walk (by omega) (by omega) hj h2
      exact ⟨n + m, Wn_mono (Wn_comp hn hm) h3⟩
theorem walk_Ck {w : Nat → Nat → Nat} : ∀ {n i j L : Nat}, Wn w n i j L → Ck w 16 i j L
  | 0, i, j, L, h => by
    have h : i = j := h
    subst h; exact Ck_self
  | n + 1, i, j, L, ⟨y, b, h1, h2, h3⟩ => Ck_mono (Ck_trans h1 (walk_Ck h2) (Ck_up (Or.inr (Nat.le_refl (w y j))) 16)) h3
theorem Ck_sym {w : Nat → Nat → Nat} (hw : ∀ x y, x < 16 → y < 16 → w x y = w y x) : ∀ {k i j L : Nat}, k ≤ 16 → i < 16 → j < 16 → Ck w k i j L → Ck w k j i L
  | 0, i, j, L, _, hi, hj, h => h.imp Eq.symm (fun h => by rw [hw j i hj hi]; exact h)
  | k + 1, i, j, L, hk, hi, hj, h => h.imp (Ck_sym hw (by omega) hi hj) (fun ⟨a, b, h1, h2, h3⟩ => ⟨b, a, Ck_sym hw (by omega) (by omega) hj h2, Ck_sym hw (by omega) hi (by omega) h1, by omega⟩)
theorem loop_inv {S R : Type} {f : S → Option (S ⊕ R)} (N : Nat) (I : Nat → S → Prop) (Q : R → Prop)
    (hs : ∀ i s, I i s → (i < N ∧ ∃ t, f s = some (.inl t) ∧ I (i + 1) t) ∨ ∃ r, f s = some (.inr r) ∧ Q r) : ∀ m i s, N ≤ i + m → I i s → ∃ r, loop f s = some r ∧ Q r
  | 0, i, s, hm, h => by
    rcases hs i s h with ⟨hi, _⟩ | ⟨r, e, hq⟩
    · omega
    · exact ⟨r, loop_inr e, hq⟩
  | m + 1, i, s, hm, h => by
    rcases hs i s h with ⟨hi, t, e, h'⟩ | ⟨r, e, hq⟩
    · obtain ⟨r, g, hq⟩ := loop_inv N I Q hs m (i + 1) t (by omega) h'
      exact ⟨r, (loop_inl e).trans g, hq⟩
    · exact ⟨r, loop_inr e, hq⟩
/-- the reference with measures d -/
def St79 (m um : OS) (d : Nat → Nat → Nat) : Prop := (∀ r, r ≠ 79 → um.1 r = m.1 r) ∧ um.2 = m.2 ∧ ∀ i j, i < 16 → j < 16 → um.1 79 (16 * i + j) = nI (d i j) ∧ d i j ≤ 1000000
def In60 (w : Nat → Nat → Nat) (m : OS) (k i j : Nat) (um : OS) : Prop := ∃ d, St79 m um d ∧ ∀ i' j' L, i' < 16 → j' < 16 → (d i' j' ≤ L ↔ Ck w (if i' < i ∨ (i' = i ∧ j' < j) then k + 1 else k) i' j' L)
theorem in60_j {w : Nat → Nat → Nat} {m um : OS} {k i : Nat} (h : In60 w m k i 16 um) : In60 w m k (i + 1) 0 um := by
  obtain ⟨d, h1, h2⟩ := h
  refine ⟨d, h1, fun i' j' L hi hj => ?_⟩
  rw [h2 i' j' L hi hj]
  by_cases e : i' < i ∨ (i' = i ∧ j' < 16)
  · rw [if_pos e, if_pos (by omega)]
  · rw [if_neg e, if_neg (by omega)]
theorem in60_i {w : Nat → Nat → Nat} {m um : OS} {k : Nat} (h : In60 w m k 16 0 um) : In60 w m (k + 1) 0 0 um := by
  obtain ⟨d, h1, h2⟩ := h
  refine ⟨d, h1, fun i' j' L hi hj => ?_⟩
  rw [h2 i' j' L hi hj, if_pos (by omega), if_neg (by omega)]
theorem r_l60 {w : Nat → Nat → Nat} {m um : OS} {k i : Nat} (hk : k < 16) (hi : i < 16) (h : In60 w m k i 0 um) : ∃ r, loop (f11_measures_l60 (nI k) (nI i)) ((0 : Int32), um) = some r ∧ ∃ um', r = Sum.inl (nI (i + 1), um') ∧ In60 w m k (i + 1) 0 um' := by
  refine loop_inv 16 (fun j s => j ≤ 16 ∧ s.1 = nI j ∧ In60 w m k i j s.2) _ ?_ 16 0 _ (by omega) ⟨by omega, rfl, h⟩
  rintro j ⟨x, u⟩ ⟨hj, e, hI⟩
  have e : x = nI j := e
  subst e
  have hI : In60 w m k i j u := hI
  unfold f11_measures_l60 f11_measures_j120
  by_cases hj16 : j = 16
  · right
    subst hj16
    refine ⟨_, ?_, u, rfl, in60_j hI⟩
    show (if (16 : Int32) ≤ nI 16 then _ else _) = _
    rw [if_pos (show (16 : Int32) ≤ nI 16 from by decide), nm_p, nI_1]; rfl
  · left
    have hlt : j < 16 := by omega
    refine ⟨hlt, ?_⟩
    obtain ⟨d, ⟨h1, h2, h3⟩, h4⟩ := hI
    obtain ⟨a1, a2⟩ := h3 i k hi hk
    obtain ⟨b1', b2'⟩ := h3 k j hk hlt
    obtain ⟨c1, c2⟩ := h3 i j hi hlt
    have ea : ∀ L, d i k ≤ L ↔ Ck w k i k L := fun L => by
      rw [h4 i k L hi hk]
      by_cases e : i < i ∨ (i = i ∧ k < j)
      · rw [if_pos e]; exact Ck_row
      · rw [if_neg e]
    have eb : ∀ L, d k j ≤ L ↔ Ck w k k j L := fun L => by
      rw [h4 k j L hk hlt]
      by_cases e : k < i ∨ (k = i ∧ j < j)
      · rw [if_pos e]; exact Ck_col
      · rw [if_neg e]
    have ec : ∀ L, d i j ≤ L ↔ Ck w k i j L := fun L => by
      rw [h4 i j L hi hlt, if_neg (by omega)]
    have key : ∀ (v : Nat) (_ : ∀ L, v ≤ L ↔ Ck w (k + 1) i j L) (d' : Nat → Nat → Nat) (_ : d' i j = v) (_ : ∀ i' j', ¬ (i' = i ∧ j' = j) → d' i' j' = d i' j'), ∀ i' j' L, i' < 16 → j' < 16 → (d' i' j' ≤ L ↔ Ck w (if i' < i ∨ (i' = i ∧ j' < j + 1) then k + 1 else k) i' j' L) := by
      intro v hv d' hd hd' i' j' L hi' hj'
      by_cases e : i' = i ∧ j' = j
      · obtain ⟨e1, e2⟩ := e
        subst e1 e2
        rw [hd, if_pos (by omega)]; exact hv L
      · rw [hd' i' j' e, h4 i' j' L hi' hj']
        by_cases e2 : i' < i ∨ (i' = i ∧ j' < j)
        · rw [if_pos e2, if_pos (by omega)]
        · rw [if_neg e2, if_neg (by omega)]
    have hmin : ∀ L, min (d i j) (d i k + d k j) ≤ L ↔ Ck w (k + 1) i j L := by
      intro L
      constructor
      · intro hL
        by_cases e : d i j ≤ L
        · exact Or.inl ((ec L).mp e)
        · exact Or.inr ⟨d i k, d k j, (ea _).mp (Nat.le_refl _), (eb _).mp (Nat.le_refl _), by omega⟩
      · rintro (e | ⟨a, b, e1, e2, e3⟩)
        · have := (ec L).mpr e; omega
        · have := (ea a).mpr e1
          have := (eb b).mpr e2
          omega
    have ix : ∀ a b, (16 : Int32) * nI a + nI b = nI (16 * a + b) := fun a b => by rw [show (16 : Int32) = nI 16 from rfl, pk_mul, nI_add]
    simp only [ix, nI_clamp (n := 16 * i + k) (by omega), nI_clamp (n := 16 * k + j) (by omega), nI_clamp (n := 16 * i + j) (by omega), inb_n (show 16 * i + k < 256 by omega) (by omega : 256 < 2 ^ 31), inb_n (show 16 * k + j < 256 by omega) (by omega : 256 < 2 ^ 31), inb_n (show 16 * i + j < 256 by omega) (by omega : 256 < 2 ^ 31), chk_p, nm_p, a1, b1', c1, nI_add, nI_1]
    rw [if_neg (show ¬ (16 : Int32) ≤ nI j from nI_ge (a := j) (b := 16) hlt (by omega))]
    by_cases hle : d i j ≤ d i k + d k j
    · rw [if_pos (nI_le hle (by omega))]
      refine ⟨_, rfl, by omega, rfl, d, ⟨h1, h2, h3⟩, ?_⟩
      exact key (min (d i j) (d i k + d k j)) hmin d (by omega) (fun _ _ _ => rfl)
    · rw [if_neg (nI_ge (by omega) (by omega))]
      refine ⟨_, rfl, by omega, rfl, fun i' j' => if i' = i ∧ j' = j then d i k + d k j else d i' j', ⟨fun r hr => ?_, h2, fun i' j' hi' hj' => ?_⟩, ?_⟩
      · show (if r = 79 then _ else u.1 r) = m.1 r
        rw [if_neg hr]; exact h1 r hr
      · show (if 16 * i' + j' = 16 * i + j then nI (d i k + d k j) else u.1 79 (16 * i' + j')) = nI (if i' = i ∧ j' = j then d i k + d k j else d i' j') ∧ (if i' = i ∧ j' = j then d i k + d k j else d i' j') ≤ 1000000
        by_cases e : i' = i ∧ j' = j
        · rw [if_pos e, if_pos (by omega)]; exact ⟨rfl, by omega⟩
        · rw [if_neg e, if_neg (by omega)]; exact h3 i' j' hi' hj'
      · exact key (min (d i j) (d i k + d k j)) hmin _ (by show (if i = i ∧ j = j then _ else _) = _; rw [if_pos ⟨rfl, rfl⟩]; omega) (fun i' j' e => if_neg e)
theorem r_l52 {w : Nat → Nat → Nat} {m um : OS} {k : Nat} (hk : k < 16) (h : In60 w m k 0 0 um) : ∃ r, loop (f11_measures_l52 (nI k)) ((0 : Int32), um) = some r ∧ ∃ um', r = Sum.inl (nI (k + 1), um') ∧ In60 w m (k + 1) 0 0 um' := by
  refine loop_inv 16 (fun i s => i ≤ 16 ∧ s.1 = nI i ∧ In60 w m k i 0 s.2) _ ?_ 16 0 _ (by omega) ⟨by omega, rfl, h⟩
  rintro i ⟨x, u⟩ ⟨hi, e, hI⟩
  have e : x = nI i := e
  subst e
  have hI : In60 w m k i 0 u := hI
  unfold f11_measures_l52
  by_cases hi16 : i = 16
  · right
    subst hi16
    refine ⟨_, ?_, u, rfl, in60_i hI⟩
    show (if (16 : Int32) ≤ nI 16 then _ else _) = _
    rw [if_pos (show (16 : Int32) ≤ nI 16 from by decide), nm_p, nI_1]; rfl
  · left
    have hlt : i < 16 := by omega
    obtain ⟨r, e1, um', e2, h'⟩ := r_l60 hk hlt hI
    refine ⟨hlt, (nI (i + 1), um'), ?_, by omega, rfl, h'⟩
    show (if (16 : Int32) ≤ nI i then _ else _) = _
    rw [if_neg (show ¬ (16 : Int32) ≤ nI i from nI_ge (a := i) (b := 16) hlt (by omega)), e1, e2]
theorem r_l44 {w : Nat → Nat → Nat} {m um : OS} (h : In60 w m 0 0 0 um) : ∃ r, loop f11_measures_l44 ((0 : Int32), um) = some r ∧ In60 w m 16 0 0 r := by
  refine loop_inv 16 (fun i s => i ≤ 16 ∧ s.1 = nI i ∧ In60 w m i 0 0 s.2) _ ?_ 16 0 _ (by omega) ⟨by omega, rfl, h⟩
  rintro i ⟨x, u⟩ ⟨hi, e, hI⟩
  have e : x = nI i := e
  subst e
  have hI : In60 w m i 0 0 u := hI
  unfold f11_measures_l44
  by_cases hi16 : i = 16
  · right
    subst hi16
    refine ⟨u, ?_, hI⟩
    show (if (16 : Int32) ≤ nI 16 then _ else _) = _
    rw [if_pos (show (16 : Int32) ≤ nI 16 from by decide)]; rfl
  · left
    have hlt : i < 16 := by omega
    obtain ⟨r, e1, um', e2, h'⟩ := r_l52 hlt hI
    refine ⟨hlt, (nI (i + 1), um'), ?_, by omega, rfl, h'⟩
    show (if (16 : Int32) ≤ nI i then _ else _) = _
    rw [if_neg (show ¬ (16 : Int32) ≤ nI i from nI_ge (a := i) (b := 16) hlt (by omega)), e1, e2]
theorem r_measures {w : Nat → Nat → Nat} {m : OS} (hw : ∀ i j, i < 16 → j < 16 → m.1 78 (16 * i + j) = nI (w i j) ∧ w i j ≤ 1000000) : ∃ m', f11_measures m = some m' ∧ ∃ d, St79 m m' d ∧ ∀ i j L, i < 16 → j < 16 → (d i j ≤ L ↔ Ck w 16 i j L) := by
  unfold f11_measures
  have key : ∃ r, loop f11_measures_l2 ((0 : Int32), m) = some r ∧ In60 w m 16 0 0 r := by
    refine loop_inv 256 (fun x s => x ≤ 256 ∧ s.1 = nI x ∧ (∀ r, r ≠ 79 → s.2.1 r = m.1 r) ∧ s.2.2 = m.2 ∧ ∀ i j, i < 16 → j < 16 → 16 * i + j < x → s.2.1 79 (16 * i + j) = nI (if i = j then 0 else w i j)) _ ?_ 256 0 _ (by omega) ⟨by omega, rfl, fun _ _ => rfl, rfl, fun _ _ _ _ h => by omega⟩
    rintro x ⟨y, u⟩ ⟨hx, e, f1, f2, f3⟩
    have e : y = nI x := e
    subst e
    have f1 : ∀ r, r ≠ 79 → u.1 r = m.1 r := f1
    have f2 : u.2 = m.2 := f2
    have f3 : ∀ i j, i < 16 → j < 16 → 16 * i + j < x → u.1 79 (16 * i + j) = nI (if i = j then 0 else w i j) := f3
    unfold f11_measures_l2 f11_measures_j35
    by_cases hx6 : x = 256
    · right
      subst hx6
      obtain ⟨r, e1, h'⟩ := r_l44 (w := w) (m := m) (um := u) ⟨fun i j => if i = j then 0 else w i j, ⟨f1, f2, fun i j hi hj => ⟨f3 i j hi hj (by omega), by
        show (if i = j then 0 else w i j) ≤ 1000000
        by_cases e : i = j
        · rw [if_pos e]; omega
        · rw [if_neg e]; exact (hw i j hi hj).2⟩⟩, fun i j L hi hj => by
        rw [if_neg (by omega)]
        show (if i = j then 0 else w i j) ≤ L ↔ (i = j ∨ w i j ≤ L)
        by_cases e : i = j
        · rw [if_pos e]; exact ⟨fun _ => Or.inl e, fun _ => by omega⟩
        · rw [if_neg e]; exact ⟨Or.inr, fun h => h.elim (fun h => absurd h e) id⟩⟩
      refine ⟨r, ?_, h'⟩
      show (if (256 : Int32) ≤ nI 256 then _ else _) = _
      rw [if_pos (show (256 : Int32) ≤ nI 256 from by decide), e1]; rfl
    · left
      have hlt : x < 256 := by omega
      refine ⟨hlt, ?_⟩
      have hdm := Nat.div_add_mod x 16
      have hml := Nat.mod_lt x (show 0 < 16 by omega)
      have hdl : x / 16 < 16 := by omega
      have hrm : nI x - nI (x / 16) * nI 16 = nI (x % 16) := by
        rw [pk_mul, pk_sub (by omega), show x - x / 16 * 16 = x % 16 by omega]
      have g1 : u.1 78 x = nI (w (x / 16) (x % 16)) := by
        rw [f1 78 (by decide)]
        have := (hw (x / 16) (x % 16) hdl hml).1
        rw [show 16 * (x / 16) + x % 16 = x by omega] at this
        exact this
      show ∃ t, (if (256 : Int32) ≤ nI x then _ else _) = some (Sum.inl t) ∧ _
      simp only [show (16 : Int32) = nI 16 from rfl, hrm, pk_div (a := x) (d := 16) (by omega) (by omega) (by omega), nI_clamp (n := x) (by omega), inb_n hlt (by omega : 256 < 2 ^ 31), chk_p, nm_p, nI_1, g1]
      rw [if_neg (show ¬ (256 : Int32) ≤ nI x from nI_ge (a := x) (b := 256) hlt (by omega))]
      have fin : ∀ v : Int32, v = nI (if x / 16 = x % 16 then 0 else w (x / 16) (x % 16)) → (x + 1 ≤ 256 ∧ nI (x + 1) = nI (x + 1) ∧ (∀ r, r ≠ 79 → (wI u 79 x v).1 r = m.1 r) ∧ (wI u 79 x v).2 = m.2 ∧ ∀ i j, i < 16 → j < 16 → 16 * i + j < x + 1 → (wI u 79 x v).1 79 (16 * i + j) = nI (if i = j then 0 else w i j)) := by
        intro v hv
        refine ⟨by omega, rfl, fun r hr => ?_, f2, fun i j hi hj hij => ?_⟩
        · show (if r = 79 then _ else u.1 r) = m.1 r
          rw [if_neg hr]; exact f1 r hr
        · show (if 16 * i + j = x then v else u.1 79 (16 * i + j)) = _
          by_cases e : 16 * i + j = x
          · rw [if_pos e, hv, show x / 16 = i by omega, show x % 16 = j by omega]
          · rw [if_neg e]; exact f3 i j hi hj (by omega)
      by_cases e : x % 16 = x / 16
      · rw [if_pos (congrArg nI e)]
        exact ⟨_, rfl, fin 0 (by rw [if_pos e.symm]; rfl)⟩
      · rw [if_neg (fun e2 => e ((nI_eq (by omega) (by omega)).mp e2))]
        exact ⟨_, rfl, fin _ (by rw [if_neg (fun e2 => e e2.symm)])⟩
  obtain ⟨r, e1, d, h1, h2⟩ := key
  refine ⟨r, e1, d, h1, fun i j L hi hj => ?_⟩
  rw [h2 i j L hi hj, if_neg (by omega)]
