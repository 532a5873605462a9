-- found: the order of the pieces doesn't count
theorem sumB_add {f g : Nat → Nat} : ∀ n, sumB (fun i => f i + g i) n = sumB f n + sumB g n
  | 0 => rfl
  | n + 1 => by
    show sumB (fun i => f i + g i) n + (f n + g n) = (sumB f n + f n) + (sumB g n + g n)
    rw [sumB_add n]; omega
theorem sumB_swap {g : Nat → Nat → Nat} (n : Nat) : ∀ m, sumB (fun j => sumB (fun p => g j p) n) m = sumB (fun p => sumB (fun j => g j p) m) n
  | 0 => (sumB_zero n (fun _ _ => rfl)).symm
  | m + 1 => by
    show sumB (fun j => sumB (fun p => g j p) n) m + sumB (fun p => g m p) n = sumB (fun p => sumB (fun j => g j p) m + g m p) n
    rw [sumB_swap n m, sumB_add]
theorem sumB_pick {kk v : Nat} : ∀ m, sumB (fun j => if j = kk then v else 0) m = if kk < m then v else 0
  | 0 => by rw [if_neg (by omega)]; rfl
  | m + 1 => by
    show sumB (fun j => if j = kk then v else 0) m + (if m = kk then v else 0) = _
    rw [sumB_pick m]
    by_cases e : m = kk
    · subst e; rw [if_neg (by omega), if_pos rfl, if_pos (by omega), Nat.zero_add]
    · rw [if_neg e, Nat.add_zero]
      by_cases e2 : kk < m
      · rw [if_pos e2, if_pos (by omega)]
      · rw [if_neg e2, if_neg (by omega)]
/-- σ and τ undo each other below c -/
def Prm (c : Nat) (σ τ : Nat → Nat) : Prop := ∀ i, i < c → σ i < c ∧ τ i < c ∧ σ (τ i) = i ∧ τ (σ i) = i
theorem sumB_perm {c : Nat} {σ τ t : Nat → Nat} (h : Prm c σ τ) : sumB (fun j => t (σ j)) c = sumB t c := by
  have e1 : sumB (fun j => t (σ j)) c = sumB (fun j => sumB (fun u => if u = σ j then t (σ j) else 0) c) c :=
    sumB_congr c (fun j hj => by rw [sumB_pick, if_pos (h j hj).1])
  rw [e1, sumB_swap]
  refine sumB_congr c (fun u hu => ?_)
  have e2 : sumB (fun j => if u = σ j then t (σ j) else 0) c = sumB (fun j => if j = τ u then t u else 0) c :=
    sumB_congr c (fun j hj => by
      by_cases e : u = σ j
      · rw [if_pos e, if_pos (by rw [e, (h j hj).2.2.2]), e]
      · rw [if_neg e, if_neg (fun e3 => e (by rw [e3, (h u hu).2.2.1]))])
  rw [e2, sumB_pick, if_pos (h u hu).2.1]
theorem addB_perm {c : Nat} {σ τ : Nat → Nat} {U1 U2 : Nat → Bool} (h : Prm c σ τ) (hU : ∀ j, j < c → U1 (σ j) = U2 j) {j : Nat} (hj : j < c) : ∀ i, i < c → addB U1 (σ j) (σ i) = addB U2 j i := by
  intro i hi
  show (U1 (σ i) || decide (σ i = σ j)) = (U2 i || decide (i = j))
  rw [hU i hi]
  by_cases e : i = j
  · subst e; simp
  · have : ¬ σ i = σ j := fun e2 => e (by rw [← (h i hi).2.2.2, e2, (h j hj).2.2.2])
    simp [e, this]
theorem cntA_perm {c : Nat} {σ τ : Nat → Nat} {F1 F2 : Nat → Nat → Bool} (h : Prm c σ τ) (hF : ∀ i j, i < c → j < c → F1 i (σ j) = F2 i j) : ∀ d i (U1 U2 : Nat → Bool), i + d = c → (∀ j, j < c → U1 (σ j) = U2 j) → cntA F1 c d i U1 = cntA F2 c d i U2
  | 0, _, _, _, _, _ => rfl
  | d + 1, i, U1, U2, hi, hU => by
    show sumB (fun j => if F1 i j = true ∧ U1 j = false then cntA F1 c d (i + 1) (addB U1 j) else 0) c = sumB (fun j => if F2 i j = true ∧ U2 j = false then cntA F2 c d (i + 1) (addB U2 j) else 0) c
    rw [← sumB_perm (t := fun j => if F1 i j = true ∧ U1 j = false then cntA F1 c d (i + 1) (addB U1 j) else 0) h]
    refine sumB_congr c (fun j hj => ?_)
    show (if F1 i (σ j) = true ∧ U1 (σ j) = false then cntA F1 c d (i + 1) (addB U1 (σ j)) else 0) = _
    rw [hF i j (by omega) hj, hU j hj, cntA_perm h hF d (i + 1) (addB U1 (σ j)) (addB U2 j) (by omega) (addB_perm h hU hj)]
theorem mayA_perm {c : Nat} {σ τ : Nat → Nat} {F1 F2 : Nat → Nat → Bool} (h : Prm c σ τ) (hF : ∀ i j, i < c → j < c → F1 i (σ j) = F2 i j) : ∀ d i (U1 U2 : Nat → Bool) (x y : Nat), i + d = c → y < c → (∀ j, j < c → U1 (σ j) = U2 j) → (mayA F1 c d i U1 x (σ y) ↔ mayA F2 c d i U2 x y)
  | 0, _, _, _, _, _, _, _, _ => Iff.rfl
  | d + 1, i, U1, U2, x, y, hi, hy, hU => by
    constructor
    · rintro ⟨j', hj', h1, h2, h3⟩
      obtain ⟨_, k1, k2, _⟩ := h j' hj'
      rw [← k2] at h1 h2 h3
      refine ⟨τ j', k1, by rw [← hF i _ (by omega) k1]; exact h1, by rw [← hU _ k1]; exact h2, ?_⟩
      rcases h3 with ⟨e1, e2, e3⟩ | h3
      · refine Or.inl ⟨e1, ?_, ?_⟩
        · rw [← (h y hy).2.2.2, e2, (h _ k1).2.2.2]
        · rw [← cntA_perm h hF d (i + 1) (addB U1 (σ (τ j'))) (addB U2 (τ j')) (by omega) (addB_perm h hU k1)]; exact e3
      · exact Or.inr ((mayA_perm h hF d (i + 1) _ (addB U2 (τ j')) x y (by omega) hy (addB_perm h hU k1)).mp h3)
    · rintro ⟨j, hj, h1, h2, h3⟩
      refine ⟨σ j, (h j hj).1, by rw [hF i j (by omega) hj]; exact h1, by rw [hU j hj]; exact h2, ?_⟩
      rcases h3 with ⟨e1, e2, e3⟩ | h3
      · refine Or.inl ⟨e1, by rw [e2], ?_⟩
        rw [cntA_perm h hF d (i + 1) (addB U1 (σ j)) (addB U2 j) (by omega) (addB_perm h hU hj)]; exact e3
      · exact Or.inr ((mayA_perm h hF d (i + 1) (addB U1 (σ j)) (addB U2 j) x y (by omega) hy (addB_perm h hU hj)).mpr h3)
