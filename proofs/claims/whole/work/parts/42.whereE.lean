-- where: what the reference has told; the step
theorem one_mk {q : Nat} (hq : q < 16) : (1 : Int32) <<< (nI q &&& 31) = nI (mkB (fun j => decide (j = q)) 16) := by
  have : ∀ q : Fin 16, (1 : Int32) <<< (nI q.1 &&& 31) = nI (mkB (fun j => decide (j = q.1)) 16) := by decide
  exact this ⟨q, hq⟩
theorem mk_two {q : Nat} (hq : q < 16) : mkB (fun j => decide (j = q)) 16 = 2 ^ q := by
  have : ∀ q : Fin 16, mkB (fun j => decide (j = q.1)) 16 = 2 ^ q.1 := by decide
  exact this ⟨q, hq⟩
theorem ones_eq0 : ∀ f n : Nat, n < 2 ^ f → onesN f n = 0 → n = 0
  | 0, n, h, _ => by simp at h; exact h
  | f + 1, n, h, h1 => by
    have h1 : n % 2 + onesN f (n / 2) = 0 := h1
    have := ones_eq0 f (n / 2) (by rw [Nat.pow_succ] at h; omega) (by omega)
    omega
theorem ones_eq1 : ∀ f n : Nat, n < 2 ^ f → onesN f n = 1 → ∃ q, q < f ∧ n = 2 ^ q
  | 0, n, _, h1 => by
    have h1 : 0 = 1 := h1
    omega
  | f + 1, n, h, h1 => by
    have h1 : n % 2 + onesN f (n / 2) = 1 := h1
    rcases Nat.mod_two_eq_zero_or_one n with e | e
    · obtain ⟨q, hq, e2⟩ := ones_eq1 f (n / 2) (by rw [Nat.pow_succ] at h; omega) (by omega)
      exact ⟨q + 1, by omega, by rw [Nat.pow_succ]; omega⟩
    · have := ones_eq0 f (n / 2) (by rw [Nat.pow_succ] at h; omega) (by omega)
      exact ⟨0, by omega, by rw [Nat.pow_zero]; omega⟩
theorem ones_one {b : Nat → Bool} : onesN 16 (mkB b 16) = 1 ↔ ∃ q, q < 16 ∧ ∀ j, j < 16 → (b j = true ↔ j = q) := by
  constructor
  · intro h
    obtain ⟨q, hq, e⟩ := ones_eq1 16 _ (mkB_lt b 16) h
    refine ⟨q, hq, fun j hj => ?_⟩
    have h1 := mkB_bit b 16 j
    rw [e, Nat.testBit_two_pow] at h1
    simp [hj] at h1
    constructor
    · intro hb; rw [hb] at h1; simp at h1; exact h1.symm
    · intro hb; rw [← h1]; simp [hb]
  · rintro ⟨q, hq, h⟩
    have e : mkB b 16 = 2 ^ q := by
      rw [← mk_two hq]
      refine mkB_congr 16 (fun j hj => ?_)
      cases hb : b j
      · have : ¬ j = q := fun e => by rw [(h j hj).mpr e] at hb; cases hb
        simp [this]
      · simp [(h j hj).mp hb]
    rw [e]
    have : ∀ q : Fin 16, onesN 16 (2 ^ q.1) = 1 := by decide
    exact this ⟨q, hq⟩
theorem mk_one {b : Nat → Bool} {q : Nat} (hq : q < 16) (h : ∀ j, j < 16 → (b j = true ↔ j = q)) : nI (mkB b 16) = (1 : Int32) <<< (nI q &&& 31) := by
  rw [one_mk hq]
  congr 1
  refine mkB_congr 16 (fun j hj => ?_)
  cases hb : b j
  · have : ¬ j = q := fun e => by rw [(h j hj).mpr e] at hb; cases hb
    simp [this]
  · simp [(h j hj).mp hb]
theorem r_has {b : Nat → Bool} {j : Nat} (hj : j < 16) : f11_has (nI (mkB b 16)) (nI j) = some (b1 (b j = true)) := by
  unfold f11_has f11_has_j14
  have h := mkB_test (b := b) hj
  obtain ⟨v, hv, e⟩ := pk_andE (nI (mkB b 16) >>> (nI j &&& 31)) (m := 1) 1 (by decide)
  rw [e] at h ⊢
  have hv : v < 2 := hv
  rw [show (0 : Int32) = nI 0 from rfl, nI_eq (by omega) (by omega)] at h
  cases hb : b j
  · have := h.mpr hb
    subst this
    rw [if_neg (by decide), b1_f (by decide)]; rfl
  · have h1 : v = 1 := by
      by_cases e0 : v = 0
      · have := h.mp e0
        rw [hb] at this; cases this
      · omega
    subst h1
    rw [if_pos (by decide), b1_t rfl]; rfl
theorem r_placeOf {b : Nat → Bool} {q : Nat} (hq : q < 16) (h : ∀ j, j < 16 → (b j = true ↔ j = q)) : f11_placeOf (nI (mkB b 16)) = some (nI q) := by
  unfold f11_placeOf
  refine loop_seq (fun i => nI i) q _ (fun i hi => ?_) ?_
  · unfold f11_placeOf_l2
    simp only [r_has (b := b) (show i < 16 by omega), Option.bind_some]
    rw [b1_f (fun e => by have := (h i (by omega)).mp e; omega), if_pos rfl, nm_p, nI_1]
  · unfold f11_placeOf_l2
    simp only [r_has (b := b) hq, Option.bind_some]
    rw [b1_t ((h q hq).mpr rfl), if_neg (by decide)]; rfl
def TM (p : Nat → Prop) (y z : Nat → Nat) (y0 z0 n a c : Nat) : Prop := (a = y0 ∧ c = z0) ∨ told p y z n a c
theorem TM_no {p : Nat → Prop} {y z : Nat → Nat} {y0 z0 n : Nat} (h : ¬ p n) (a c : Nat) : TM p y z y0 z0 (n + 1) a c ↔ TM p y z y0 z0 n a c := by
  unfold TM; rw [told_no h]
theorem TM_yes {p : Nat → Prop} {y z : Nat → Nat} {y0 z0 n : Nat} (h : p n) (a c : Nat) : TM p y z y0 z0 (n + 1) a c ↔ TM p y z y0 z0 n a c ∨ (a = y n ∧ c = z n) := by
  unfold TM; rw [told_yes h, or_assoc]
theorem TM_0 {p : Nat → Prop} {y z : Nat → Nat} {y0 z0 : Nat} (a c : Nat) : TM p y z y0 z0 0 a c ↔ (a = y0 ∧ c = z0) :=
  ⟨fun h => h.elim id (fun ⟨i, hi, _⟩ => by omega), Or.inl⟩
def TlM (m : OS) (x t y0 z0 : Nat) (y z : Nat → Nat) : Prop := x < 40 ∧ t ≤ 100 ∧ m.1 0 9 = nI t ∧ m.1 80 x = nI z0 ∧ m.1 81 x = nI y0 ∧ y0 ≤ 15 ∧ z0 ≤ 99999 ∧ ∀ i, i < t → m.1 83 i = nI (y i) ∧ y i ≤ 15 ∧ m.1 84 i = nI (z i) ∧ z i ≤ 99999
section
variable {m : OS} {x t y0 z0 d day : Nat} {y z : Nat → Nat}
theorem r_toldOn (h : TlM m x t y0 z0 y z) (hd : d ≤ 99999) : ∃ b, f11_toldOn (nI x) (nI d) m = some (nI (mkB b 16)) ∧ ∀ a, a < 16 → (b a = true ↔ TM (fun i => m.1 82 i = nI x) y z y0 z0 t a d) := by
  obtain ⟨hx, ht, h9, h80, h81, hy0, hz0, hs⟩ := h
  have key : ∀ (v : Int32) (b0 : Nat → Bool), v = nI (mkB b0 16) → (∀ a, a < 16 → (b0 a = true ↔ TM (fun i => m.1 82 i = nI x) y z y0 z0 0 a d)) → ∃ r, loop (f11_toldOn_l26 (nI x) (nI d) m) (v, (0 : Int32)) = some r ∧ ∃ b, r = nI (mkB b 16) ∧ ∀ a, a < 16 → (b a = true ↔ TM (fun i => m.1 82 i = nI x) y z y0 z0 t a d) := by
    intro v b0 hv hb0
    refine loop_inv t (fun i s => i ≤ t ∧ s.2 = nI i ∧ ∃ b, s.1 = nI (mkB b 16) ∧ ∀ a, a < 16 → (b a = true ↔ TM (fun i => m.1 82 i = nI x) y z y0 z0 i a d)) _ ?_ t 0 _ (by omega) ⟨by omega, rfl, b0, hv, hb0⟩
    rintro i ⟨u, w⟩ ⟨hi, e, b, e2, hb⟩
    have e : w = nI i := e
    have e2 : u = nI (mkB b 16) := e2
    subst e e2
    unfold f11_toldOn_l26 f11_toldOn_j69
    by_cases hit : i = t
    · right
      subst hit
      refine ⟨_, ?_, b, rfl, hb⟩
      show (if m.1 0 9 ≤ nI i then _ else _) = _
      rw [h9, if_pos (show nI i ≤ nI i from nI_le (Nat.le_refl _) (by omega))]; rfl
    · left
      have hlt : i < t := by omega
      refine ⟨hlt, ?_⟩
      obtain ⟨g1, g2, g3, g4⟩ := hs i hlt
      show ∃ q, (if m.1 0 9 ≤ nI i then _ else _) = some (Sum.inl q) ∧ _
      rw [h9, if_neg (nI_ge hlt (by omega))]
      simp only [nI_clamp (n := i) (by omega), inb_n (show i < 100 by omega) (by omega : 100 < 2 ^ 31), chk_p, nm_p, g1, g3, nI_1]
      by_cases hp : m.1 82 i = nI x
      · rw [if_pos hp]
        by_cases hz : z i = d
        · rw [if_pos (congrArg nI hz), mkB_set (show y i < 16 by omega)]
          refine ⟨_, rfl, by omega, rfl, _, rfl, fun a ha => ?_⟩
          rw [TM_yes (p := fun i => m.1 82 i = nI x) hp, ← hb a ha, Bool.or_eq_true, decide_eq_true_eq]
          exact ⟨fun e => e.imp id (fun e => ⟨e, hz.symm⟩), fun e => e.imp id (fun e => e.1)⟩
        · rw [if_neg (fun e => hz ((nI_eq (by omega) (by omega)).mp e))]
          refine ⟨_, rfl, by omega, rfl, b, rfl, fun a ha => ?_⟩
          rw [TM_yes (p := fun i => m.1 82 i = nI x) hp, hb a ha]
          exact ⟨Or.inl, fun e => e.elim id (fun e => absurd e.2.symm hz)⟩
      · rw [if_neg hp]
        refine ⟨_, rfl, by omega, rfl, b, rfl, fun a ha => ?_⟩
        rw [TM_no (p := fun i => m.1 82 i = nI x) hp, hb a ha]
  unfold f11_toldOn f11_toldOn_j22
  simp only [nI_clamp (n := x) (by omega), inb_n hx (by omega : 40 < 2 ^ 31), chk_p, nm_p, h80, h81]
  by_cases hz : z0 = d
  · rw [if_pos (congrArg nI hz)]
    obtain ⟨r, k1, b, rfl, k2⟩ := key _ (fun j => decide (j = y0)) (one_mk (by omega)) (fun a ha => by
      rw [TM_0, decide_eq_true_eq]
      exact ⟨fun e => ⟨e, hz.symm⟩, fun e => e.1⟩)
    exact ⟨b, k1, k2⟩
  · rw [if_neg (fun e => hz ((nI_eq (by omega) (by omega)).mp e))]
    obtain ⟨r, k1, b, rfl, k2⟩ := key 0 (fun _ => false) (by decide) (fun a ha => by
      rw [TM_0]
      exact ⟨fun e => (by cases e), fun e => absurd e.2.symm hz⟩)
    exact ⟨b, k1, k2⟩
theorem r_before (h : TlM m x t y0 z0 y z) (hd : day ≤ 99999) (hz0 : z0 < day) : ∃ L, f11_toldDay (nI x) (nI day) 1 m = some (nI L) ∧ L < day ∧ (∃ a, TM (fun i => m.1 82 i = nI x) y z y0 z0 t a L) ∧ ∀ a c, TM (fun i => m.1 82 i = nI x) y z y0 z0 t a c → c < day → c ≤ L := by
  obtain ⟨hx, ht, h9, h80, h81, hy0, _, hs⟩ := h
  unfold f11_toldDay f11_toldDay_j14
  rw [if_neg (by decide)]
  simp only [nI_clamp (n := x) (by omega), inb_n hx (by omega : 40 < 2 ^ 31), chk_p, nm_p, h80]
  have key : ∃ r, loop (f11_toldDay_l19 (nI x) (nI day) 1 m) (nI z0, (0 : Int32)) = some r ∧ ∃ L, r = nI L ∧ L < day ∧ (∃ a, TM (fun i => m.1 82 i = nI x) y z y0 z0 t a L) ∧ ∀ a c, TM (fun i => m.1 82 i = nI x) y z y0 z0 t a c → c < day → c ≤ L := by
    refine loop_inv t (fun i s => i ≤ t ∧ s.2 = nI i ∧ ∃ L, s.1 = nI L ∧ L < day ∧ (∃ a, TM (fun i => m.1 82 i = nI x) y z y0 z0 i a L) ∧ ∀ a c, TM (fun i => m.1 82 i = nI x) y z y0 z0 i a c → c < day → c ≤ L) _ ?_ t 0 _ (by omega) ⟨by omega, rfl, z0, rfl, hz0, ⟨y0, (TM_0 _ _).mpr ⟨rfl, rfl⟩⟩, fun a c hT _ => by have := ((TM_0 a c).mp hT).2; omega⟩
    rintro i ⟨u, w⟩ ⟨hi, e, L, e2, hL, ⟨a0, e3⟩, e4⟩
    have e : w = nI i := e
    have e2 : u = nI L := e2
    subst e e2
    unfold f11_toldDay_l19 f11_toldDay_j71 f11_toldDay_j108 f11_toldDay_j118 f11_toldDay_j120 f11_toldDay_j122
    by_cases hit : i = t
    · right
      subst hit
      refine ⟨_, ?_, L, rfl, hL, ⟨a0, e3⟩, e4⟩
      show (if m.1 0 9 ≤ nI i then _ else _) = _
      rw [h9, if_pos (show nI i ≤ nI i from nI_le (Nat.le_refl _) (by omega))]; rfl
    · left
      have hlt : i < t := by omega
      refine ⟨hlt, ?_⟩
      obtain ⟨g1, g2, g3, g4⟩ := hs i hlt
      show ∃ q, (if m.1 0 9 ≤ nI i then _ else _) = some (Sum.inl q) ∧ _
      rw [h9, if_neg (nI_ge hlt (by omega))]
      simp only [nI_clamp (n := i) (by omega), inb_n (show i < 100 by omega) (by omega : 100 < 2 ^ 31), chk_p, nm_p, g3, nI_1, if_neg (show ¬ (1 : Int32) = 0 by decide), if_neg (nI_m1 (n := L) (by omega))]
      by_cases hp : m.1 82 i = nI x
      · rw [if_pos hp]
        by_cases hz : z i < day
        · rw [if_pos (nI_lt hz (by omega))]
          by_cases hzL : z i ≤ L
          · rw [if_pos (nI_le hzL (by omega))]
            refine ⟨_, rfl, by omega, rfl, L, rfl, hL, ⟨a0, (TM_yes (p := fun i => m.1 82 i = nI x) hp _ _).mpr (Or.inl e3)⟩, fun a c hT hc => ((TM_yes (p := fun i => m.1 82 i = nI x) hp a c).mp hT).elim (fun hT => e4 a c hT hc) (fun hT => by omega)⟩
          · rw [if_neg (nI_ge (by omega) (by omega))]
            refine ⟨_, rfl, by omega, rfl, z i, rfl, hz, ⟨y i, (TM_yes (p := fun i => m.1 82 i = nI x) hp _ _).mpr (Or.inr ⟨rfl, rfl⟩)⟩, fun a c hT hc => ((TM_yes (p := fun i => m.1 82 i = nI x) hp a c).mp hT).elim (fun hT => by have := e4 a c hT hc; omega) (fun hT => by omega)⟩
        · rw [if_neg (nI_nlt (by omega) (by omega))]
          refine ⟨_, rfl, by omega, rfl, L, rfl, hL, ⟨a0, (TM_yes (p := fun i => m.1 82 i = nI x) hp _ _).mpr (Or.inl e3)⟩, fun a c hT hc => ((TM_yes (p := fun i => m.1 82 i = nI x) hp a c).mp hT).elim (fun hT => e4 a c hT hc) (fun hT => by omega)⟩
      · rw [if_neg hp]
        exact ⟨_, rfl, by omega, rfl, L, rfl, hL, ⟨a0, (TM_no (p := fun i => m.1 82 i = nI x) hp _ _).mpr e3⟩, fun a c hT hc => e4 a c ((TM_no (p := fun i => m.1 82 i = nI x) hp a c).mp hT) hc⟩
  obtain ⟨r, k1, L, rfl, k2⟩ := key
  exact ⟨L, k1, k2⟩
theorem r_after (h : TlM m x t y0 z0 y z) (hd : day ≤ 99999) (hz0 : z0 ≤ day) : ∃ r, f11_toldDay (nI x) (nI day) 0 m = some r ∧ NexS (TM (fun i => m.1 82 i = nI x) y z y0 z0 t) day r := by
  obtain ⟨hx, ht, h9, h80, h81, hy0, _, hs⟩ := h
  unfold f11_toldDay f11_toldDay_j14
  rw [if_pos (show (0 : Int32) = 0 from rfl)]
  refine loop_inv t (fun i s => i ≤ t ∧ s.2 = nI i ∧ NexS (TM (fun i => m.1 82 i = nI x) y z y0 z0 i) day s.1) _ ?_ t 0 _ (by omega) ⟨by omega, rfl, Or.inl ⟨rfl, fun a c hT => by have := ((TM_0 a c).mp hT).2; omega⟩⟩
  rintro i ⟨u, w⟩ ⟨hi, e, hI⟩
  have e : w = nI i := e
  subst e
  have hI : NexS (TM (fun i => m.1 82 i = nI x) y z y0 z0 i) day u := hI
  unfold f11_toldDay_l19 f11_toldDay_j71 f11_toldDay_j108 f11_toldDay_j118 f11_toldDay_j120 f11_toldDay_j122
  by_cases hit : i = t
  · right
    subst hit
    refine ⟨_, ?_, hI⟩
    show (if m.1 0 9 ≤ nI i then _ else _) = _
    rw [h9, if_pos (show nI i ≤ nI i from nI_le (Nat.le_refl _) (by omega))]; rfl
  · left
    have hlt : i < t := by omega
    refine ⟨hlt, ?_⟩
    obtain ⟨g1, g2, g3, g4⟩ := hs i hlt
    show ∃ q, (if m.1 0 9 ≤ nI i then _ else _) = some (Sum.inl q) ∧ _
    rw [h9, if_neg (nI_ge hlt (by omega))]
    simp only [nI_clamp (n := i) (by omega), inb_n (show i < 100 by omega) (by omega : 100 < 2 ^ 31), chk_p, nm_p, g3, nI_1, if_pos]
    by_cases hp : m.1 82 i = nI x
    · rw [if_pos hp]
      by_cases hz : day < z i
      · rw [if_pos (nI_lt hz (by omega))]
        rcases hI with ⟨e1, e2⟩ | ⟨M, e1, e2, e9, ⟨a0, e3⟩, e4⟩
        · rw [if_pos e1]
          exact ⟨_, rfl, by omega, rfl, NexS.congr (fun a c => (TM_yes (p := fun i => m.1 82 i = nI x) hp a c).symm) (Or.inr ⟨z i, rfl, hz, g4, ⟨y i, Or.inr ⟨rfl, rfl⟩⟩, fun a c hT hc => hT.elim (fun hT => by have := e2 a c hT; omega) (fun hT => by omega)⟩)⟩
        · rw [if_neg (by rw [e1]; exact nI_m1 (by omega)), e1]
          by_cases hL : M ≤ z i
          · rw [if_pos (nI_le hL (by omega))]
            exact ⟨_, rfl, by omega, rfl, NexS.congr (fun a c => (TM_yes (p := fun i => m.1 82 i = nI x) hp a c).symm) (Or.inr ⟨M, rfl, e2, e9, ⟨a0, Or.inl e3⟩, fun a c hT hc => hT.elim (fun hT => e4 a c hT hc) (fun hT => by omega)⟩)⟩
          · rw [if_neg (nI_ge (by omega) (by omega))]
            exact ⟨_, rfl, by omega, rfl, NexS.congr (fun a c => (TM_yes (p := fun i => m.1 82 i = nI x) hp a c).symm) (Or.inr ⟨z i, rfl, hz, g4, ⟨y i, Or.inr ⟨rfl, rfl⟩⟩, fun a c hT hc => hT.elim (fun hT => by have := e4 a c hT hc; omega) (fun hT => by omega)⟩)⟩
      · rw [if_neg (nI_nlt (by omega) (by omega))]
        refine ⟨_, rfl, by omega, rfl, NexS.congr (fun a c => (TM_yes (p := fun i => m.1 82 i = nI x) hp a c).symm) ?_⟩
        rcases hI with ⟨e1, e2⟩ | ⟨M, e1, e2, e9, ⟨a0, e3⟩, e4⟩
        · exact Or.inl ⟨e1, fun a c hT => hT.elim (e2 a c) (fun hT => by omega)⟩
        · exact Or.inr ⟨M, e1, e2, e9, ⟨a0, Or.inl e3⟩, fun a c hT hc => hT.elim (fun hT => e4 a c hT hc) (fun hT => by omega)⟩
    · rw [if_neg hp]
      exact ⟨_, rfl, by omega, rfl, NexS.congr (fun a c => (TM_no (p := fun i => m.1 82 i = nI x) hp a c).symm) hI⟩
end
theorem NexS.same {T : Nat → Nat → Prop} {day : Nat} {r r' : Int32} (h : NexS T day r) (h' : NexS T day r') : r = r' := by
  rcases h with ⟨e1, e2⟩ | ⟨M, e1, e2, e9, ⟨a0, e3⟩, e4⟩
  · rcases h' with ⟨f1, f2⟩ | ⟨M', f1, f2, f9, ⟨b0, f3⟩, f4⟩
    · rw [e1, f1]
    · have := e2 _ _ f3; omega
  · rcases h' with ⟨f1, f2⟩ | ⟨M', f1, f2, f9, ⟨b0, f3⟩, f4⟩
    · have := f2 _ _ e3; omega
    · have h1 := e4 _ _ f3 f2
      have h2 := f4 _ _ e3 e2
      rw [e1, f1, show M = M' by omega]
