-- where: what is told
def told (p : Nat → Prop) (y z : Nat → Nat) (n a c : Nat) : Prop := ∃ i, i < n ∧ p i ∧ y i = a ∧ z i = c
theorem told_s {p : Nat → Prop} {y z : Nat → Nat} {n a c : Nat} : told p y z (n + 1) a c ↔ told p y z n a c ∨ (p n ∧ y n = a ∧ z n = c) := by
  constructor
  · rintro ⟨i, h1, h2, h3, h4⟩
    by_cases e : i = n
    · subst e; exact Or.inr ⟨h2, h3, h4⟩
    · exact Or.inl ⟨i, by omega, h2, h3, h4⟩
  · rintro (⟨i, h1, h2⟩ | h)
    · exact ⟨i, by omega, h2⟩
    · exact ⟨n, by omega, h⟩
theorem told_no {p : Nat → Prop} {y z : Nat → Nat} {n : Nat} (h : ¬ p n) : ∀ a c, told p y z (n + 1) a c ↔ told p y z n a c := fun a c => by
  rw [told_s]; exact ⟨fun e => e.elim id (fun e => absurd e.1 h), Or.inl⟩
theorem told_yes {p : Nat → Prop} {y z : Nat → Nat} {n : Nat} (h : p n) : ∀ a c, told p y z (n + 1) a c ↔ told p y z n a c ∨ (a = y n ∧ c = z n) := fun a c => by
  rw [told_s]; exact ⟨fun e => e.imp id (fun e => ⟨e.2.1.symm, e.2.2.symm⟩), fun e => e.imp id (fun e => ⟨h, e.1.symm, e.2.symm⟩)⟩
def LatS (T : Nat → Nat → Prop) (day : Nat) (r : Int32) : Prop := (r = -1 ∧ ∀ a c, T a c → day < c) ∨ ∃ L, r = nI L ∧ L ≤ day ∧ (∃ a, T a L) ∧ ∀ a c, T a c → c ≤ day → c ≤ L
def NexS (T : Nat → Nat → Prop) (day : Nat) (r : Int32) : Prop := (r = -1 ∧ ∀ a c, T a c → c ≤ day) ∨ ∃ M, r = nI M ∧ day < M ∧ M ≤ 99999 ∧ (∃ a, T a M) ∧ ∀ a c, T a c → day < c → M ≤ c
def PlaS (T : Nat → Nat → Prop) (d : Nat) (r : Int32) : Prop := (r = -1 ∧ ∀ a, ¬ T a d) ∨ (∃ q, r = nI q ∧ q < 16 ∧ T q d ∧ ∀ a, T a d → a = q) ∨ (r = -2 ∧ ∃ a b, a ≠ b ∧ T a d ∧ T b d)
theorem LatS.congr {T T' : Nat → Nat → Prop} {day : Nat} {r : Int32} (h : ∀ a c, T a c ↔ T' a c) (hl : LatS T day r) : LatS T' day r := by
  have : T = T' := by funext a c; exact propext (h a c)
  subst this; exact hl
theorem NexS.congr {T T' : Nat → Nat → Prop} {day : Nat} {r : Int32} (h : ∀ a c, T a c ↔ T' a c) (hl : NexS T day r) : NexS T' day r := by
  have : T = T' := by funext a c; exact propext (h a c)
  subst this; exact hl
theorem PlaS.congr {T T' : Nat → Nat → Prop} {day : Nat} {r : Int32} (h : ∀ a c, T a c ↔ T' a c) (hl : PlaS T day r) : PlaS T' day r := by
  have : T = T' := by funext a c; exact propext (h a c)
  subst this; exact hl
theorem nI_m1 {n : Nat} (h : n < 2 ^ 30) : ¬ nI n = -1 := fun e => by
  have e := congrArg Int32.toInt e
  rw [nI_toInt (by omega)] at e
  have e : (n : Int) = -1 := e
  omega
theorem nI_m2 {n : Nat} (h : n < 2 ^ 30) : ¬ nI n = -2 := fun e => by
  have e := congrArg Int32.toInt e
  rw [nI_toInt (by omega)] at e
  have e : (n : Int) = -2 := e
  omega
theorem m1_lt {n : Nat} (h : n < 2 ^ 30) : (-1 : Int32) < nI n := Int32.lt_iff_toInt_lt.mpr (by
  rw [nI_toInt (by omega)]
  have e : (-1 : Int32).toInt = -1 := rfl
  omega)
/-- what the class has told -/
def TlC (s : OS) (N : Nat) (y z : Nat → Nat) : Prop := N ≤ 140 ∧ s.1 0 7 = nI N ∧ ∀ i, i < N → s.1 5 i = nI (y i) ∧ y i ≤ 15 ∧ s.1 6 i = nI (z i) ∧ z i ≤ 99999
section
variable {s : OS} {N day d : Nat} {y z : Nat → Nat} {X : Int32}
theorem c_latest (h : TlC s N y z) (hd : day ≤ 99999) : ∃ r, f9_latestTold X (nI day) s = some r ∧ LatS (told (fun i => s.1 4 i = X) y z N) day r := by
  obtain ⟨hN, h7, hz⟩ := h
  unfold f9_latestTold
  refine loop_inv N (fun i t => i ≤ N ∧ t.2 = nI i ∧ LatS (told (fun i => s.1 4 i = X) y z i) day t.1) _ ?_ N 0 _ (by omega) ⟨by omega, rfl, Or.inl ⟨rfl, fun a c ⟨i, hi, _⟩ => by omega⟩⟩
  rintro i ⟨x, w⟩ ⟨hi, e, hx⟩
  have e : w = nI i := e
  subst e
  have hx : LatS (told (fun i => s.1 4 i = X) y z i) day x := hx
  unfold f9_latestTold_l5 f9_latestTold_j56 f9_latestTold_j62
  by_cases hiN : i = N
  · right
    subst hiN
    refine ⟨x, ?_, hx⟩
    show (if s.1 0 7 ≤ nI i then _ else _) = _
    rw [h7, if_pos (show nI i ≤ nI i from nI_le (Nat.le_refl _) (by omega))]; rfl
  · left
    have hlt : i < N := by omega
    refine ⟨hlt, ?_⟩
    obtain ⟨g1, g2, g3, g4⟩ := hz i hlt
    show ∃ t, (if s.1 0 7 ≤ nI i then _ else _) = some (Sum.inl t) ∧ _
    rw [h7, if_neg (nI_ge hlt (by omega)), if_neg (show ¬ (140 : Int32) ≤ nI i from nI_ge (a := i) (b := 140) (by omega) (by omega))]
    simp only [nI_clamp (n := i) (by omega), inb_n (show i < 140 by omega) (by omega : 140 < 2 ^ 31), chk_p, nm_p, g3, nI_1]
    by_cases hp : s.1 4 i = X
    · rw [if_pos hp]
      by_cases hdz : day < z i
      · rw [if_pos (nI_lt hdz (by omega))]
        refine ⟨_, rfl, by omega, rfl, LatS.congr (fun a c => (told_yes hp a c).symm) ?_⟩
        rcases hx with ⟨e1, e2⟩ | ⟨L, e1, e2, ⟨a0, e3⟩, e4⟩
        · exact Or.inl ⟨e1, fun a c h => h.elim (e2 a c) (fun h => by rw [h.2]; exact hdz)⟩
        · exact Or.inr ⟨L, e1, e2, ⟨a0, Or.inl e3⟩, fun a c h hc => h.elim (fun h => e4 a c h hc) (fun h => by omega)⟩
      · rw [if_neg (nI_nlt (by omega) (by omega))]
        refine ⟨_, rfl, by omega, rfl, LatS.congr (fun a c => (told_yes hp a c).symm) (Or.inr ?_)⟩
        rcases hx with ⟨e1, e2⟩ | ⟨L, e1, e2, ⟨a0, e3⟩, e4⟩
        · refine ⟨z i, ?_, by omega, ⟨y i, Or.inr ⟨rfl, rfl⟩⟩, fun a c h hc => h.elim (fun h => by have := e2 a c h; omega) (fun h => by omega)⟩
          show (if x < nI (z i) then nI (z i) else x) = _
          rw [e1, if_pos (m1_lt (by omega))]
        · by_cases hL : L < z i
          · refine ⟨z i, ?_, by omega, ⟨y i, Or.inr ⟨rfl, rfl⟩⟩, fun a c h hc => h.elim (fun h => by have := e4 a c h hc; omega) (fun h => by omega)⟩
            show (if x < nI (z i) then nI (z i) else x) = _
            rw [e1, if_pos (nI_lt hL (by omega))]
          · refine ⟨L, ?_, e2, ⟨a0, Or.inl e3⟩, fun a c h hc => h.elim (fun h => e4 a c h hc) (fun h => by omega)⟩
            show (if x < nI (z i) then nI (z i) else x) = _
            rw [e1, if_neg (nI_nlt (by omega) (by omega))]
    · rw [if_neg hp]
      exact ⟨_, rfl, by omega, rfl, LatS.congr (fun a c => (told_no (y := y) (z := z) hp a c).symm) hx⟩
theorem c_next (h : TlC s N y z) (hd : day ≤ 99999) : ∃ r, f9_nextTold X (nI day) s = some r ∧ NexS (told (fun i => s.1 4 i = X) y z N) day r := by
  obtain ⟨hN, h7, hz⟩ := h
  unfold f9_nextTold
  refine loop_inv N (fun i t => i ≤ N ∧ t.2 = nI i ∧ NexS (told (fun i => s.1 4 i = X) y z i) day t.1) _ ?_ N 0 _ (by omega) ⟨by omega, rfl, Or.inl ⟨rfl, fun a c ⟨i, hi, _⟩ => by omega⟩⟩
  rintro i ⟨x, w⟩ ⟨hi, e, hx⟩
  have e : w = nI i := e
  subst e
  have hx : NexS (told (fun i => s.1 4 i = X) y z i) day x := hx
  unfold f9_nextTold_l5 f9_nextTold_j70 f9_nextTold_j71 f9_nextTold_j77
  by_cases hiN : i = N
  · right
    subst hiN
    refine ⟨x, ?_, hx⟩
    show (if s.1 0 7 ≤ nI i then _ else _) = _
    rw [h7, if_pos (show nI i ≤ nI i from nI_le (Nat.le_refl _) (by omega))]; rfl
  · left
    have hlt : i < N := by omega
    refine ⟨hlt, ?_⟩
    obtain ⟨g1, g2, g3, g4⟩ := hz i hlt
    show ∃ t, (if s.1 0 7 ≤ nI i then _ else _) = some (Sum.inl t) ∧ _
    rw [h7, if_neg (nI_ge hlt (by omega)), if_neg (show ¬ (140 : Int32) ≤ nI i from nI_ge (a := i) (b := 140) (by omega) (by omega))]
    simp only [nI_clamp (n := i) (by omega), inb_n (show i < 140 by omega) (by omega : 140 < 2 ^ 31), chk_p, nm_p, g3, nI_1]
    by_cases hp : s.1 4 i = X
    · rw [if_pos hp]
      by_cases hdz : z i ≤ day
      · rw [if_pos (nI_le hdz (by omega))]
        refine ⟨_, rfl, by omega, rfl, NexS.congr (fun a c => (told_yes hp a c).symm) ?_⟩
        rcases hx with ⟨e1, e2⟩ | ⟨L, e1, e2, e9, ⟨a0, e3⟩, e4⟩
        · exact Or.inl ⟨e1, fun a c h => h.elim (e2 a c) (fun h => by rw [h.2]; exact hdz)⟩
        · exact Or.inr ⟨L, e1, e2, e9, ⟨a0, Or.inl e3⟩, fun a c h hc => h.elim (fun h => e4 a c h hc) (fun h => by omega)⟩
      · rw [if_neg (nI_ge (by omega) (by omega))]
        rcases hx with ⟨e1, e2⟩ | ⟨L, e1, e2, e9, ⟨a0, e3⟩, e4⟩
        · rw [if_pos e1]
          refine ⟨_, rfl, by omega, rfl, NexS.congr (fun a c => (told_yes hp a c).symm) (Or.inr ⟨z i, rfl, by omega, g4, ⟨y i, Or.inr ⟨rfl, rfl⟩⟩, fun a c h hc => h.elim (fun h => by have := e2 a c h; omega) (fun h => by omega)⟩)⟩
        · rw [if_neg (by rw [e1]; exact nI_m1 (by omega))]
          refine ⟨_, rfl, by omega, rfl, NexS.congr (fun a c => (told_yes hp a c).symm) (Or.inr ?_)⟩
          by_cases hL : z i < L
          · refine ⟨z i, ?_, by omega, g4, ⟨y i, Or.inr ⟨rfl, rfl⟩⟩, fun a c h hc => h.elim (fun h => by have := e4 a c h hc; omega) (fun h => by omega)⟩
            show (if nI (z i) < x then nI (z i) else x) = _
            rw [e1, if_pos (nI_lt hL (by omega))]
          · refine ⟨L, ?_, e2, e9, ⟨a0, Or.inl e3⟩, fun a c h hc => h.elim (fun h => e4 a c h hc) (fun h => by omega)⟩
            show (if nI (z i) < x then nI (z i) else x) = _
            rw [e1, if_neg (nI_nlt (by omega) (by omega))]
    · rw [if_neg hp]
      exact ⟨_, rfl, by omega, rfl, NexS.congr (fun a c => (told_no (y := y) (z := z) hp a c).symm) hx⟩
theorem c_place (h : TlC s N y z) (hd : d ≤ 99999) : ∃ r, f9_placeTold X (nI d) s = some r ∧ PlaS (told (fun i => s.1 4 i = X) y z N) d r := by
  obtain ⟨hN, h7, hz⟩ := h
  unfold f9_placeTold
  refine loop_inv N (fun i t => i ≤ N ∧ t.2 = nI i ∧ PlaS (told (fun i => s.1 4 i = X) y z i) d t.1) _ ?_ N 0 _ (by omega) ⟨by omega, rfl, Or.inl ⟨rfl, fun a ⟨i, hi, _⟩ => by omega⟩⟩
  rintro i ⟨x, w⟩ ⟨hi, e, hx⟩
  have e : w = nI i := e
  subst e
  have hx : PlaS (told (fun i => s.1 4 i = X) y z i) d x := hx
  unfold f9_placeTold_l5 f9_placeTold_j72 f9_placeTold_j73 f9_placeTold_j79
  by_cases hiN : i = N
  · right
    subst hiN
    refine ⟨x, ?_, hx⟩
    show (if s.1 0 7 ≤ nI i then _ else _) = _
    rw [h7, if_pos (show nI i ≤ nI i from nI_le (Nat.le_refl _) (by omega))]; rfl
  · left
    have hlt : i < N := by omega
    refine ⟨hlt, ?_⟩
    obtain ⟨g1, g2, g3, g4⟩ := hz i hlt
    show ∃ t, (if s.1 0 7 ≤ nI i then _ else _) = some (Sum.inl t) ∧ _
    rw [h7, if_neg (nI_ge hlt (by omega)), if_neg (show ¬ (140 : Int32) ≤ nI i from nI_ge (a := i) (b := 140) (by omega) (by omega))]
    simp only [nI_clamp (n := i) (by omega), inb_n (show i < 140 by omega) (by omega : 140 < 2 ^ 31), chk_p, nm_p, g1, g3, nI_1]
    by_cases hp : s.1 4 i = X
    · rw [if_pos hp]
      by_cases hdz : z i = d
      · rw [if_pos (congrArg nI hdz)]
        have hT : ∀ a, told (fun i => s.1 4 i = X) y z (i + 1) a d ↔ told (fun i => s.1 4 i = X) y z i a d ∨ a = y i := fun a => by
          rw [told_yes hp]; exact ⟨fun e => e.imp id (fun e => e.1), fun e => e.imp id (fun e => ⟨e, hdz.symm⟩)⟩
        by_cases hxy : nI (y i) = x
        · rw [if_pos hxy]
          refine ⟨_, rfl, by omega, rfl, ?_⟩
          rcases hx with ⟨e1, e2⟩ | ⟨q, e1, e2, e3, e4⟩ | ⟨e1, e2⟩
          · rw [e1] at hxy; exact absurd hxy (nI_m1 (by omega))
          · rw [e1] at hxy
            have hq := (nI_eq (a := y i) (b := q) (by omega) (by omega)).mp hxy
            exact Or.inr (Or.inl ⟨q, e1, e2, (hT q).mpr (Or.inl e3), fun a h => ((hT a).mp h).elim (e4 a) (fun h => by omega)⟩)
          · rw [e1] at hxy; exact absurd hxy (nI_m2 (by omega))
        · rw [if_neg hxy]
          rcases hx with ⟨e1, e2⟩ | ⟨q, e1, e2, e3, e4⟩ | ⟨e1, a, b, e2, e3, e4⟩
          · rw [if_pos e1]
            exact ⟨_, rfl, by omega, rfl, Or.inr (Or.inl ⟨y i, rfl, by omega, (hT _).mpr (Or.inr rfl), fun a h => ((hT a).mp h).elim (fun h => absurd h (e2 a)) id⟩)⟩
          · rw [if_neg (by rw [e1]; exact nI_m1 (by omega))]
            exact ⟨_, rfl, by omega, rfl, Or.inr (Or.inr ⟨rfl, q, y i, fun e => hxy (by rw [e1, e]), (hT q).mpr (Or.inl e3), (hT _).mpr (Or.inr rfl)⟩)⟩
          · rw [if_neg (by rw [e1]; decide)]
            exact ⟨_, rfl, by omega, rfl, Or.inr (Or.inr ⟨rfl, a, b, e2, (hT a).mpr (Or.inl e3), (hT b).mpr (Or.inl e4)⟩)⟩
      · rw [if_neg (fun e => hdz ((nI_eq (by omega) (by omega)).mp e))]
        refine ⟨_, rfl, by omega, rfl, ?_⟩
        have hT : ∀ a, told (fun i => s.1 4 i = X) y z (i + 1) a d ↔ told (fun i => s.1 4 i = X) y z i a d := fun a => by
          rw [told_yes hp]; exact ⟨fun e => e.elim id (fun e => absurd e.2.symm hdz), Or.inl⟩
        rcases hx with ⟨e1, e2⟩ | ⟨q, e1, e2, e3, e4⟩ | ⟨e1, a, b, e2, e3, e4⟩
        · exact Or.inl ⟨e1, fun a h => e2 a ((hT a).mp h)⟩
        · exact Or.inr (Or.inl ⟨q, e1, e2, (hT q).mpr e3, fun a h => e4 a ((hT a).mp h)⟩)
        · exact Or.inr (Or.inr ⟨e1, a, b, e2, (hT a).mpr e3, (hT b).mpr e4⟩)
    · rw [if_neg hp]
      exact ⟨_, rfl, by omega, rfl, PlaS.congr (fun a c => (told_no (y := y) (z := z) hp a c).symm) hx⟩
end
