/-- what the law's calls stand on -/
def NL (s : State) : Prop := va_Nw (.methodLinkNest RX4 80 yX10_isWithin RX10) s ∧ va_Nw (.methodLinkNest RX5 99 yX10_isWithin RX10) s ∧ va_Nw (.methodLinkNest RX9 45 yX10_isPlace RX10) s ∧
  (∃ kS vS : Nat, vk_R "StoneVault$RuleReader" 52 "fhkwmlasd" kS s ∧ vk_S 1 [9] [[102, 104, 107, 119, 109, 108, 97, 115, 100]] (fun _ => kS) (fun _ => vS) (fun q => s.heap.size ≤ q) s s.heap) ∧ va_Z "java/lang/String" "COMPACT_STRINGS" "Z" (.int 1) (fun q => s.heap.size ≤ q) s s.heap
theorem NL_keep {s : State} {H : Heap} {locs : List Loc} {ad : Nat → Nat} (h : NL s) (hS : va_S (fun q => s.heap.size ≤ q) s.heap H locs) (ha : ∀ k, k < 67 → s.heap.size ≤ ad k) : ∀ U : State, U.heap = H → s.WarmedH U.vm → NC ad U := by
  intro U hU hW
  subst hU
  have hA : ∀ q, Afr ad 67 U.heap.size q → s.heap.size ≤ q := fun q h => h.elim (fun ⟨k, hk, e⟩ => e ▸ ha k hk) (fun h => Nat.le_trans hS.1 h)
  obtain ⟨h1, h2, h3, ⟨kS, vS, h4, h5⟩, h6⟩ := h
  exact ⟨va_Nw.warmM hW h1, va_Nw.warmM hW h2, va_Nw.warmM hW h3, ⟨kS, vS, vk_R.warm hW h4, ((h5.kept hS.2.1).narrow hA).moved hW.alike⟩, ((h6.kept hS.2.1).narrow hA).moved hW.alike⟩
theorem joinG {A0 : Nat → Prop} {D : va_G} {wr wc w1 : va_W} {ad : Nat → Nat} {n : Nat} {H H1 : Heap} (hP : va_P D vwCl (wr ++ wc) H) (hD : va_D A0 (wr ++ wc)) (hn : wc.map Prod.fst = (List.range n).map ad) (hA : ∀ x, H.size ≤ x → A0 x) (hk : ∀ x : Nat, x < H.size → ¬ Afr ad n H.size x → H1[x]? = H[x]?) (hP1 : va_P D vwCl w1 H1) (hD1 : va_D (Afr ad n H.size) w1) : va_P D vwCl (wr ++ w1) H1 ∧ va_D A0 (wr ++ w1) := by
  have hin : ∀ (k : Nat) (x : Nat × va_E), wr[k]? = some x → (wr ++ wc)[k]? = some x := fun k x hx => by
    rw [List.getElem?_append_left (List.getElem?_eq_some_iff.mp hx).1]; exact hx
  have hcell : ∀ k, k < n → ∃ (i : Nat) (e : va_E), wc[i]? = some (ad k, e) := by
    intro k hk2
    have h1 : (wc.map Prod.fst)[k]? = some (ad k) := by rw [hn, List.getElem?_map, List.getElem?_range hk2]; rfl
    rw [List.getElem?_map] at h1
    obtain ⟨⟨a, e⟩, h2, h3⟩ := Option.map_eq_some_iff.mp h1
    cases h3
    exact ⟨k, e, h2⟩
  have apart : ∀ (k : Nat) (x : Nat × va_E), wr[k]? = some x → x.1 < H.size ∧ ¬ Afr ad n H.size x.1 := by
    intro k x hx
    have hl := (hP k x (hin k x hx)).lt
    refine ⟨hl, fun h => ?_⟩
    rcases h with ⟨k2, h2, h3⟩ | h
    · obtain ⟨i, e, h4⟩ := hcell k2 h2
      have hkl : k < wr.length := (List.getElem?_eq_some_iff.mp hx).1
      have := hD.1 k (wr.length + i) x (ad k2, e) (hin k x hx) (by rw [List.getElem?_append_right (by omega), Nat.add_sub_cancel_left]; exact h4) h3
      omega
    · omega
  have hF : ∀ x, Afr ad n H.size x → A0 x := by
    intro x h
    rcases h with ⟨k2, h2, h3⟩ | h
    · obtain ⟨i, e, h4⟩ := hcell k2 h2
      rw [h3]
      exact hD.2 (wr.length + i) (ad k2, e) (by rw [List.getElem?_append_right (by omega), Nat.add_sub_cancel_left]; exact h4)
    · exact hA x h
  refine ⟨va_P.app (fun k x hx => ?_) hP1, va_D.app ⟨fun i j x y hx hy e => hD.1 i j x y (hin i x hx) (hin j y hy) e, fun k x hx => hD.2 k x (hin k x hx)⟩ (hD1.weaken (fun k x _ h => hF x.1 h)) (fun i j x y hx hy hxy => ?_)⟩
  · exact (hP k x (hin k x hx)).kept (hk x.1 (apart k x hx).1 (apart k x hx).2)
  · exact (apart i x hx).2 (by rw [hxy]; exact hD1.2 j y hy)
theorem swapP {D : va_G} {a b : va_W} {H : Heap} (h : va_P D vwCl (a ++ b) H) : va_P D vwCl (b ++ a) H := by
  intro k q hq
  have hm : q ∈ a ++ b := by
    rcases List.mem_append.mp (List.mem_of_getElem? hq) with g | g
    · exact List.mem_append_right _ g
    · exact List.mem_append_left _ g
  obtain ⟨i, hi⟩ := List.getElem?_of_mem hm
  exact h i q hi
theorem swapD {A : Nat → Prop} {a b : va_W} (h : va_D A (a ++ b)) : va_D A (b ++ a) := by
  have key : ∀ (i : Nat) (p : Nat × va_E), (b ++ a)[i]? = some p → (a ++ b)[if i < b.length then a.length + i else i - b.length]? = some p := by
    intro i p hp
    by_cases hi : i < b.length
    · rw [if_pos hi, List.getElem?_append_right (by omega), Nat.add_sub_cancel_left]
      rwa [List.getElem?_append_left hi] at hp
    · rw [if_neg hi]
      rw [List.getElem?_append_right (by omega)] at hp
      rw [List.getElem?_append_left (List.getElem?_eq_some_iff.mp hp).1]
      exact hp
  refine ⟨fun i j p q hp hq e => ?_, fun k q hq => h.2 _ q (key k q hq)⟩
  have h1 := h.1 _ _ p q (key i p hp) (key j q hq) e
  have hi := (List.getElem?_eq_some_iff.mp hp).1
  have hj := (List.getElem?_eq_some_iff.mp hq).1
  rw [List.length_append] at hi hj
  by_cases g1 : i < b.length <;> by_cases g2 : j < b.length <;> simp only [g1, g2, if_true, if_false] at h1 <;> omega
theorem swapW {D : va_G} {a b : va_W} {A : Nat → Prop} {H0 H : Heap} {locs : List Loc} (h : Wd D (a ++ b) A H0 H locs) : Wd D (b ++ a) A H0 H locs := ⟨swapP h.1, swapD h.2.1, h.2.2⟩

section
variable {R : Room} {s : State} {args : Array Value}
theorem wL_13 (hts : ∀ w ∈ lw_g, w.before args s = true) (hR : 2 + 1 ≤ R.frames ∧ 8 + (2 + 11) + 40 * 2 ≤ R.locals) : CallW R s args RL RX10 13 yX10_now cX10_now 2 (some .boolean) (wsOf yX10_now cX10_now 2 (some .boolean)) (rmL 2) 0 0 1 :=
  ⟨callB_of 1 hts (wd_ws (wd_2 (w := .code yX10_now cX10_now 2 (some .boolean)) (i := 148) (by decide +kernel) rfl)) rfl rfl rfl (hts _ (wd_1 (w := .initialized RX10) (i := 1) (by decide +kernel) rfl)) (hts _ (wd_2 (w := .methodLink RL 13 yX10_now) (i := 145) (by decide +kernel) rfl)) (by decide +kernel) hR, hts _ (wd_2 (w := .instanceMethod yX10_now) (i := 146) (by decide +kernel) rfl), hts _ (wd_2 (w := .selects RX10 yX10_now yX10_now) (i := 147) (by decide +kernel) rfl)⟩
theorem wL_17 (hts : ∀ w ∈ lw_g, w.before args s = true) (hR : 1 + 1 ≤ R.frames ∧ 8 + (2 + 11) + 40 * 1 ≤ R.locals) : CallW R s args RL RX11 17 yX11_now cX11_now 2 (some .boolean) (wsOf yX11_now cX11_now 2 (some .boolean)) (rmL 1) 0 0 1 :=
  ⟨callB_of 1 hts (wd_ws (wd_7 (w := .code yX11_now cX11_now 2 (some .boolean)) (i := 76) (by decide +kernel) rfl)) rfl rfl rfl (hts _ (wd_1 (w := .initialized RX11) (i := 12) (by decide +kernel) rfl)) (hts _ (wd_7 (w := .methodLink RL 17 yX11_now) (i := 73) (by decide +kernel) rfl)) (by decide +kernel) hR, hts _ (wd_7 (w := .instanceMethod yX11_now) (i := 74) (by decide +kernel) rfl), hts _ (wd_7 (w := .selects RX11 yX11_now yX11_now) (i := 75) (by decide +kernel) rfl)⟩
theorem wL_18 (hts : ∀ w ∈ lw_g, w.before args s = true) (hR : 2 + 1 ≤ R.frames ∧ 8 + (3 + 11) + 40 * 2 ≤ R.locals) : CallW R s args RL RX10 18 yX10_gas cX10_gas 3 (some .boolean) (wsOf yX10_gas cX10_gas 3 (some .boolean)) (rmL 2) 0 0 2 :=
  ⟨callB_of 2 hts (wd_ws (wd_2 (w := .code yX10_gas cX10_gas 3 (some .boolean)) (i := 159) (by decide +kernel) rfl)) rfl rfl rfl (hts _ (wd_1 (w := .initialized RX10) (i := 1) (by decide +kernel) rfl)) (hts _ (wd_2 (w := .methodLink RL 18 yX10_gas) (i := 156) (by decide +kernel) rfl)) (by decide +kernel) hR, hts _ (wd_2 (w := .instanceMethod yX10_gas) (i := 157) (by decide +kernel) rfl), hts _ (wd_2 (w := .selects RX10 yX10_gas yX10_gas) (i := 158) (by decide +kernel) rfl)⟩
theorem wL_22 (hts : ∀ w ∈ lw_g, w.before args s = true) (hR : 2 + 1 ≤ R.frames ∧ 8 + (3 + 11) + 40 * 2 ≤ R.locals) : CallW R s args RL RX11 22 yX11_gas cX11_gas 3 (some .boolean) (wsOf yX11_gas cX11_gas 3 (some .boolean)) (rmL 2) 0 0 2 :=
  ⟨callB_of 2 hts (wd_ws (wd_7 (w := .code yX11_gas cX11_gas 3 (some .boolean)) (i := 92) (by decide +kernel) rfl)) rfl rfl rfl (hts _ (wd_1 (w := .initialized RX11) (i := 12) (by decide +kernel) rfl)) (hts _ (wd_7 (w := .methodLink RL 22 yX11_gas) (i := 89) (by decide +kernel) rfl)) (by decide +kernel) hR, hts _ (wd_7 (w := .instanceMethod yX11_gas) (i := 90) (by decide +kernel) rfl), hts _ (wd_7 (w := .selects RX11 yX11_gas yX11_gas) (i := 91) (by decide +kernel) rfl)⟩
theorem wL_23 (hts : ∀ w ∈ lw_g, w.before args s = true) (hR : 4 + 1 ≤ R.frames ∧ 8 + (6 + 11) + 40 * 4 ≤ R.locals) : CallW R s args RL RX10 23 yX10_stone cX10_stone 6 (some .int) (wsOf yX10_stone cX10_stone 6 (some .int)) (rmL 4) 0 0 5 :=
  ⟨callB_of 5 hts (wd_ws (wd_2 (w := .code yX10_stone cX10_stone 6 (some .int)) (i := 170) (by decide +kernel) rfl)) rfl rfl rfl (hts _ (wd_1 (w := .initialized RX10) (i := 1) (by decide +kernel) rfl)) (hts _ (wd_2 (w := .methodLink RL 23 yX10_stone) (i := 167) (by decide +kernel) rfl)) (by decide +kernel) hR, hts _ (wd_2 (w := .instanceMethod yX10_stone) (i := 168) (by decide +kernel) rfl), hts _ (wd_2 (w := .selects RX10 yX10_stone yX10_stone) (i := 169) (by decide +kernel) rfl)⟩
theorem wL_27 (hts : ∀ w ∈ lw_g, w.before args s = true) (hR : 2 + 1 ≤ R.frames ∧ 8 + (7 + 11) + 40 * 2 ≤ R.locals) : CallW R s args RL RX11 27 yX11_stone cX11_stone 7 (some .int) (wsOf yX11_stone cX11_stone 7 (some .int)) (rmL 2) 0 0 5 :=
  ⟨callB_of 5 hts (wd_ws (wd_7 (w := .code yX11_stone cX11_stone 7 (some .int)) (i := 104) (by decide +kernel) rfl)) rfl rfl rfl (hts _ (wd_1 (w := .initialized RX11) (i := 12) (by decide +kernel) rfl)) (hts _ (wd_7 (w := .methodLink RL 27 yX11_stone) (i := 101) (by decide +kernel) rfl)) (by decide +kernel) hR, hts _ (wd_7 (w := .instanceMethod yX11_stone) (i := 102) (by decide +kernel) rfl), hts _ (wd_7 (w := .selects RX11 yX11_stone yX11_stone) (i := 103) (by decide +kernel) rfl)⟩
theorem wL_28 (hts : ∀ w ∈ lw_g, w.before args s = true) (hR : 2 + 1 ≤ R.frames ∧ 8 + (4 + 11) + 40 * 2 ≤ R.locals) : CallW R s args RL RX10 28 yX10_move cX10_move 4 (some .boolean) (wsOf yX10_move cX10_move 4 (some .boolean)) (rmL 2) 0 0 2 :=
  ⟨callB_of 2 hts (wd_ws (wd_2 (w := .code yX10_move cX10_move 4 (some .boolean)) (i := 206) (by decide +kernel) rfl)) rfl rfl rfl (hts _ (wd_1 (w := .initialized RX10) (i := 1) (by decide +kernel) rfl)) (hts _ (wd_2 (w := .methodLink RL 28 yX10_move) (i := 203) (by decide +kernel) rfl)) (by decide +kernel) hR, hts _ (wd_2 (w := .instanceMethod yX10_move) (i := 204) (by decide +kernel) rfl), hts _ (wd_2 (w := .selects RX10 yX10_move yX10_move) (i := 205) (by decide +kernel) rfl)⟩
theorem wL_31 (hts : ∀ w ∈ lw_g, w.before args s = true) (hR : 3 + 1 ≤ R.frames ∧ 8 + (3 + 11) + 40 * 3 ≤ R.locals) : CallW R s args RL RX11 31 yX11_move cX11_move 3 (some .boolean) (wsOf yX11_move cX11_move 3 (some .boolean)) (rmL 3) 0 0 2 :=
  ⟨callB_of 2 hts (wd_ws (wd_7 (w := .code yX11_move cX11_move 3 (some .boolean)) (i := 121) (by decide +kernel) rfl)) rfl rfl rfl (hts _ (wd_1 (w := .initialized RX11) (i := 12) (by decide +kernel) rfl)) (hts _ (wd_7 (w := .methodLink RL 31 yX11_move) (i := 118) (by decide +kernel) rfl)) (by decide +kernel) hR, hts _ (wd_7 (w := .instanceMethod yX11_move) (i := 119) (by decide +kernel) rfl), hts _ (wd_7 (w := .selects RX11 yX11_move yX11_move) (i := 120) (by decide +kernel) rfl)⟩
theorem wL_32 (hts : ∀ w ∈ lw_g, w.before args s = true) (hR : 3 + 1 ≤ R.frames ∧ 8 + (3 + 11) + 40 * 3 ≤ R.locals) : CallW R s args RL RX10 32 yX10_open cX10_open 3 (some .boolean) (wsOf yX10_open cX10_open 3 (some .boolean)) (rmL 3) 0 0 1 :=
  ⟨callB_of 1 hts (wd_ws (wd_2 (w := .code yX10_open cX10_open 3 (some .boolean)) (i := 223) (by decide +kernel) rfl)) rfl rfl rfl (hts _ (wd_1 (w := .initialized RX10) (i := 1) (by decide +kernel) rfl)) (hts _ (wd_2 (w := .methodLink RL 32 yX10_open) (i := 220) (by decide +kernel) rfl)) (by decide +kernel) hR, hts _ (wd_2 (w := .instanceMethod yX10_open) (i := 221) (by decide +kernel) rfl), hts _ (wd_2 (w := .selects RX10 yX10_open yX10_open) (i := 222) (by decide +kernel) rfl)⟩
theorem wL_35 (hts : ∀ w ∈ lw_g, w.before args s = true) (hR : 3 + 1 ≤ R.frames ∧ 8 + (2 + 11) + 40 * 3 ≤ R.locals) : CallW R s args RL RX11 35 yX11_open cX11_open 2 (some .boolean) (wsOf yX11_open cX11_open 2 (some .boolean)) (rmL 3) 0 0 1 :=
  ⟨callB_of 1 hts (wd_ws (wd_7 (w := .code yX11_open cX11_open 2 (some .boolean)) (i := 133) (by decide +kernel) rfl)) rfl rfl rfl (hts _ (wd_1 (w := .initialized RX11) (i := 12) (by decide +kernel) rfl)) (hts _ (wd_7 (w := .methodLink RL 35 yX11_open) (i := 130) (by decide +kernel) rfl)) (by decide +kernel) hR, hts _ (wd_7 (w := .instanceMethod yX11_open) (i := 131) (by decide +kernel) rfl), hts _ (wd_7 (w := .selects RX11 yX11_open yX11_open) (i := 132) (by decide +kernel) rfl)⟩
theorem wL_36 (hts : ∀ w ∈ lw_g, w.before args s = true) (hR : 1 + 1 ≤ R.frames ∧ 8 + (6 + 11) + 40 * 1 ≤ R.locals) : CallW R s args RL RX10 36 yX10_feed cX10_feed 6 (some .int) (wsOf yX10_feed cX10_feed 6 (some .int)) (rmL 1) 0 0 5 :=
  ⟨callB_of 5 hts (wd_ws (wd_2 (w := .code yX10_feed cX10_feed 6 (some .int)) (i := 239) (by decide +kernel) rfl)) rfl rfl rfl (hts _ (wd_1 (w := .initialized RX10) (i := 1) (by decide +kernel) rfl)) (hts _ (wd_2 (w := .methodLink RL 36 yX10_feed) (i := 236) (by decide +kernel) rfl)) (by decide +kernel) hR, hts _ (wd_2 (w := .instanceMethod yX10_feed) (i := 237) (by decide +kernel) rfl), hts _ (wd_2 (w := .selects RX10 yX10_feed yX10_feed) (i := 238) (by decide +kernel) rfl)⟩
theorem wL_40 (hts : ∀ w ∈ lw_g, w.before args s = true) (hR : 1 + 1 ≤ R.frames ∧ 8 + (6 + 11) + 40 * 1 ≤ R.locals) : CallW R s args RL RX11 40 yX11_feed cX11_feed 6 (some .int) (wsOf yX11_feed cX11_feed 6 (some .int)) (rmL 1) 0 0 5 :=
  ⟨callB_of 5 hts (wd_ws (wd_7 (w := .code yX11_feed cX11_feed 6 (some .int)) (i := 84) (by decide +kernel) rfl)) rfl rfl rfl (hts _ (wd_1 (w := .initialized RX11) (i := 12) (by decide +kernel) rfl)) (hts _ (wd_7 (w := .methodLink RL 40 yX11_feed) (i := 81) (by decide +kernel) rfl)) (by decide +kernel) hR, hts _ (wd_7 (w := .instanceMethod yX11_feed) (i := 82) (by decide +kernel) rfl), hts _ (wd_7 (w := .selects RX11 yX11_feed yX11_feed) (i := 83) (by decide +kernel) rfl)⟩
theorem wL_41 (hts : ∀ w ∈ lw_g, w.before args s = true) (hR : 4 + 1 ≤ R.frames ∧ 8 + (5 + 11) + 40 * 4 ≤ R.locals) : CallW R s args RL RX10 41 yX10_cut cX10_cut 5 (some .int) (wsOf yX10_cut cX10_cut 5 (some .int)) (rmL 4) 0 0 3 :=
  ⟨callB_of 3 hts (wd_ws (wd_3 (w := .code yX10_cut cX10_cut 5 (some .int)) (i := 15) (by decide +kernel) rfl)) rfl rfl rfl (hts _ (wd_1 (w := .initialized RX10) (i := 1) (by decide +kernel) rfl)) (hts _ (wd_3 (w := .methodLink RL 41 yX10_cut) (i := 12) (by decide +kernel) rfl)) (by decide +kernel) hR, hts _ (wd_3 (w := .instanceMethod yX10_cut) (i := 13) (by decide +kernel) rfl), hts _ (wd_3 (w := .selects RX10 yX10_cut yX10_cut) (i := 14) (by decide +kernel) rfl)⟩
theorem wL_45 (hts : ∀ w ∈ lw_g, w.before args s = true) (hR : 4 + 1 ≤ R.frames ∧ 8 + (9 + 11) + 40 * 4 ≤ R.locals) : CallW R s args RL RX11 45 yX11_cut cX11_cut 9 (some .int) (wsOf yX11_cut cX11_cut 9 (some .int)) (rmL 4) 0 0 3 :=
  ⟨callB_of 3 hts (wd_ws (wd_7 (w := .code yX11_cut cX11_cut 9 (some .int)) (i := 137) (by decide +kernel) rfl)) rfl rfl rfl (hts _ (wd_1 (w := .initialized RX11) (i := 12) (by decide +kernel) rfl)) (hts _ (wd_7 (w := .methodLink RL 45 yX11_cut) (i := 134) (by decide +kernel) rfl)) (by decide +kernel) hR, hts _ (wd_7 (w := .instanceMethod yX11_cut) (i := 135) (by decide +kernel) rfl), hts _ (wd_7 (w := .selects RX11 yX11_cut yX11_cut) (i := 136) (by decide +kernel) rfl)⟩
theorem wL_46 (hts : ∀ w ∈ lw_g, w.before args s = true) (hR : 3 + 1 ≤ R.frames ∧ 8 + (6 + 11) + 40 * 3 ≤ R.locals) : CallW R s args RL RX10 46 yX10_trial cX10_trial 6 (some .int) (wsOf yX10_trial cX10_trial 6 (some .int)) (rmL 3) 0 0 3 :=
  ⟨callB_of 3 hts (wd_ws (wd_3 (w := .code yX10_trial cX10_trial 6 (some .int)) (i := 54) (by decide +kernel) rfl)) rfl rfl rfl (hts _ (wd_1 (w := .initialized RX10) (i := 1) (by decide +kernel) rfl)) (hts _ (wd_3 (w := .methodLink RL 46 yX10_trial) (i := 51) (by decide +kernel) rfl)) (by decide +kernel) hR, hts _ (wd_3 (w := .instanceMethod yX10_trial) (i := 52) (by decide +kernel) rfl), hts _ (wd_3 (w := .selects RX10 yX10_trial yX10_trial) (i := 53) (by decide +kernel) rfl)⟩
theorem wL_49 (hts : ∀ w ∈ lw_g, w.before args s = true) (hR : 4 + 1 ≤ R.frames ∧ 8 + (4 + 11) + 40 * 4 ≤ R.locals) : CallW R s args RL RX11 49 yX11_trial cX11_trial 4 (some .int) (wsOf yX11_trial cX11_trial 4 (some .int)) (rmL 4) 0 0 3 :=
  ⟨callB_of 3 hts (wd_ws (wd_7 (w := .code yX11_trial cX11_trial 4 (some .int)) (i := 156) (by decide +kernel) rfl)) rfl rfl rfl (hts _ (wd_1 (w := .initialized RX11) (i := 12) (by decide +kernel) rfl)) (hts _ (wd_7 (w := .methodLink RL 49 yX11_trial) (i := 153) (by decide +kernel) rfl)) (by decide +kernel) hR, hts _ (wd_7 (w := .instanceMethod yX11_trial) (i := 154) (by decide +kernel) rfl), hts _ (wd_7 (w := .selects RX11 yX11_trial yX11_trial) (i := 155) (by decide +kernel) rfl)⟩
theorem wL_50 (hts : ∀ w ∈ lw_g, w.before args s = true) (hR : 1 + 1 ≤ R.frames ∧ 8 + (3 + 11) + 40 * 1 ≤ R.locals) : CallW R s args RL RX10 50 yX10_asker cX10_asker 3 (some .int) (wsOf yX10_asker cX10_asker 3 (some .int)) (rmL 1) 0 0 2 :=
  ⟨callB_of 2 hts (wd_ws (wd_3 (w := .code yX10_asker cX10_asker 3 (some .int)) (i := 58) (by decide +kernel) rfl)) rfl rfl rfl (hts _ (wd_1 (w := .initialized RX10) (i := 1) (by decide +kernel) rfl)) (hts _ (wd_3 (w := .methodLink RL 50 yX10_asker) (i := 55) (by decide +kernel) rfl)) (by decide +kernel) hR, hts _ (wd_3 (w := .instanceMethod yX10_asker) (i := 56) (by decide +kernel) rfl), hts _ (wd_3 (w := .selects RX10 yX10_asker yX10_asker) (i := 57) (by decide +kernel) rfl)⟩
theorem wL_54 (hts : ∀ w ∈ lw_g, w.before args s = true) (hR : 1 + 1 ≤ R.frames ∧ 8 + (3 + 11) + 40 * 1 ≤ R.locals) : CallW R s args RL RX11 54 yX11_asker cX11_asker 3 (some .int) (wsOf yX11_asker cX11_asker 3 (some .int)) (rmL 1) 0 0 2 :=
  ⟨callB_of 2 hts (wd_ws (wd_7 (w := .code yX11_asker cX11_asker 3 (some .int)) (i := 168) (by decide +kernel) rfl)) rfl rfl rfl (hts _ (wd_1 (w := .initialized RX11) (i := 12) (by decide +kernel) rfl)) (hts _ (wd_7 (w := .methodLink RL 54 yX11_asker) (i := 165) (by decide +kernel) rfl)) (by decide +kernel) hR, hts _ (wd_7 (w := .instanceMethod yX11_asker) (i := 166) (by decide +kernel) rfl), hts _ (wd_7 (w := .selects RX11 yX11_asker yX11_asker) (i := 167) (by decide +kernel) rfl)⟩
theorem wL_55 (hts : ∀ w ∈ lw_g, w.before args s = true) (hR : 70 + 1 ≤ R.frames ∧ 8 + (5 + 11) + 40 * 70 ≤ R.locals) : CallW R s args RL RX10 55 yX10_rules cX10_rules 5 (some .int) (wsOf yX10_rules cX10_rules 5 (some .int)) (rmL 70) 0 0 3 :=
  ⟨callB_of 3 hts (wd_ws (wd_3 (w := .code yX10_rules cX10_rules 5 (some .int)) (i := 66) (by decide +kernel) rfl)) rfl rfl rfl (hts _ (wd_1 (w := .initialized RX10) (i := 1) (by decide +kernel) rfl)) (hts _ (wd_3 (w := .methodLink RL 55 yX10_rules) (i := 63) (by decide +kernel) rfl)) (by decide +kernel) hR, hts _ (wd_3 (w := .instanceMethod yX10_rules) (i := 64) (by decide +kernel) rfl), hts _ (wd_3 (w := .selects RX10 yX10_rules yX10_rules) (i := 65) (by decide +kernel) rfl)⟩
theorem wL_58 (hts : ∀ w ∈ lw_g, w.before args s = true) (hR : 7 + 1 ≤ R.frames ∧ 8 + (5 + 11) + 40 * 7 ≤ R.locals) : CallW R s args RL RX11 58 yX11_rules cX11_rules 5 (some .int) (wsOf yX11_rules cX11_rules 5 (some .int)) (rmL 7) 0 0 3 :=
  ⟨callB_of 3 hts (wd_ws (wd_7 (w := .code yX11_rules cX11_rules 5 (some .int)) (i := 172) (by decide +kernel) rfl)) rfl rfl rfl (hts _ (wd_1 (w := .initialized RX11) (i := 12) (by decide +kernel) rfl)) (hts _ (wd_7 (w := .methodLink RL 58 yX11_rules) (i := 169) (by decide +kernel) rfl)) (by decide +kernel) hR, hts _ (wd_7 (w := .instanceMethod yX11_rules) (i := 170) (by decide +kernel) rfl), hts _ (wd_7 (w := .selects RX11 yX11_rules yX11_rules) (i := 171) (by decide +kernel) rfl)⟩
theorem wL_59 (hts : ∀ w ∈ lw_g, w.before args s = true) (hR : 70 + 1 ≤ R.frames ∧ 8 + (4 + 11) + 40 * 70 ≤ R.locals) : CallW R s args RL RX10 59 yX10_lend cX10_lend 4 (some .int) (wsOf yX10_lend cX10_lend 4 (some .int)) (rmL 70) 0 0 2 :=
  ⟨callB_of 2 hts (wd_ws (wd_4 (w := .code yX10_lend cX10_lend 4 (some .int)) (i := 21) (by decide +kernel) rfl)) rfl rfl rfl (hts _ (wd_1 (w := .initialized RX10) (i := 1) (by decide +kernel) rfl)) (hts _ (wd_4 (w := .methodLink RL 59 yX10_lend) (i := 18) (by decide +kernel) rfl)) (by decide +kernel) hR, hts _ (wd_4 (w := .instanceMethod yX10_lend) (i := 19) (by decide +kernel) rfl), hts _ (wd_4 (w := .selects RX10 yX10_lend yX10_lend) (i := 20) (by decide +kernel) rfl)⟩
theorem wL_62 (hts : ∀ w ∈ lw_g, w.before args s = true) (hR : 4 + 1 ≤ R.frames ∧ 8 + (6 + 11) + 40 * 4 ≤ R.locals) : CallW R s args RL RX11 62 yX11_lend cX11_lend 6 (some .int) (wsOf yX11_lend cX11_lend 6 (some .int)) (rmL 4) 0 0 2 :=
  ⟨callB_of 2 hts (wd_ws (wd_8 (w := .code yX11_lend cX11_lend 6 (some .int)) (i := 31) (by decide +kernel) rfl)) rfl rfl rfl (hts _ (wd_1 (w := .initialized RX11) (i := 12) (by decide +kernel) rfl)) (hts _ (wd_8 (w := .methodLink RL 62 yX11_lend) (i := 28) (by decide +kernel) rfl)) (by decide +kernel) hR, hts _ (wd_8 (w := .instanceMethod yX11_lend) (i := 29) (by decide +kernel) rfl), hts _ (wd_8 (w := .selects RX11 yX11_lend yX11_lend) (i := 30) (by decide +kernel) rfl)⟩
theorem wL_63 (hts : ∀ w ∈ lw_g, w.before args s = true) (hR : 3 + 1 ≤ R.frames ∧ 8 + (9 + 11) + 40 * 3 ≤ R.locals) : CallW R s args RL RX10 63 yX10_back cX10_back 9 (some .int) (wsOf yX10_back cX10_back 9 (some .int)) (rmL 3) 0 0 5 :=
  ⟨callB_of 5 hts (wd_ws (wd_4 (w := .code yX10_back cX10_back 9 (some .int)) (i := 153) (by decide +kernel) rfl)) rfl rfl rfl (hts _ (wd_1 (w := .initialized RX10) (i := 1) (by decide +kernel) rfl)) (hts _ (wd_4 (w := .methodLink RL 63 yX10_back) (i := 150) (by decide +kernel) rfl)) (by decide +kernel) hR, hts _ (wd_4 (w := .instanceMethod yX10_back) (i := 151) (by decide +kernel) rfl), hts _ (wd_4 (w := .selects RX10 yX10_back yX10_back) (i := 152) (by decide +kernel) rfl)⟩
theorem wL_66 (hts : ∀ w ∈ lw_g, w.before args s = true) (hR : 2 + 1 ≤ R.frames ∧ 8 + (8 + 11) + 40 * 2 ≤ R.locals) : CallW R s args RL RX11 66 yX11_back cX11_back 8 (some .int) (wsOf yX11_back cX11_back 8 (some .int)) (rmL 2) 0 0 5 :=
  ⟨callB_of 5 hts (wd_ws (wd_8 (w := .code yX11_back cX11_back 8 (some .int)) (i := 76) (by decide +kernel) rfl)) rfl rfl rfl (hts _ (wd_1 (w := .initialized RX11) (i := 12) (by decide +kernel) rfl)) (hts _ (wd_8 (w := .methodLink RL 66 yX11_back) (i := 73) (by decide +kernel) rfl)) (by decide +kernel) hR, hts _ (wd_8 (w := .instanceMethod yX11_back) (i := 74) (by decide +kernel) rfl), hts _ (wd_8 (w := .selects RX11 yX11_back yX11_back) (i := 75) (by decide +kernel) rfl)⟩
theorem wL_67 (hts : ∀ w ∈ lw_g, w.before args s = true) (hR : 3 + 1 ≤ R.frames ∧ 8 + (3 + 11) + 40 * 3 ≤ R.locals) : CallW R s args RL RX10 67 yX10_loan cX10_loan 3 (some .int) (wsOf yX10_loan cX10_loan 3 (some .int)) (rmL 3) 0 0 2 :=
  ⟨callB_of 2 hts (wd_ws (wd_4 (w := .code yX10_loan cX10_loan 3 (some .int)) (i := 166) (by decide +kernel) rfl)) rfl rfl rfl (hts _ (wd_1 (w := .initialized RX10) (i := 1) (by decide +kernel) rfl)) (hts _ (wd_4 (w := .methodLink RL 67 yX10_loan) (i := 163) (by decide +kernel) rfl)) (by decide +kernel) hR, hts _ (wd_4 (w := .instanceMethod yX10_loan) (i := 164) (by decide +kernel) rfl), hts _ (wd_4 (w := .selects RX10 yX10_loan yX10_loan) (i := 165) (by decide +kernel) rfl)⟩
theorem wL_70 (hts : ∀ w ∈ lw_g, w.before args s = true) (hR : 1 + 1 ≤ R.frames ∧ 8 + (3 + 11) + 40 * 1 ≤ R.locals) : CallW R s args RL RX11 70 yX11_loan cX11_loan 3 (some .int) (wsOf yX11_loan cX11_loan 3 (some .int)) (rmL 1) 0 0 2 :=
  ⟨callB_of 2 hts (wd_ws (wd_8 (w := .code yX11_loan cX11_loan 3 (some .int)) (i := 80) (by decide +kernel) rfl)) rfl rfl rfl (hts _ (wd_1 (w := .initialized RX11) (i := 12) (by decide +kernel) rfl)) (hts _ (wd_8 (w := .methodLink RL 70 yX11_loan) (i := 77) (by decide +kernel) rfl)) (by decide +kernel) hR, hts _ (wd_8 (w := .instanceMethod yX11_loan) (i := 78) (by decide +kernel) rfl), hts _ (wd_8 (w := .selects RX11 yX11_loan yX11_loan) (i := 79) (by decide +kernel) rfl)⟩
theorem wL_71 (hts : ∀ w ∈ lw_g, w.before args s = true) (hR : 2 + 1 ≤ R.frames ∧ 8 + (3 + 11) + 40 * 2 ≤ R.locals) : CallW R s args RL RX10 71 yX10_piece cX10_piece 3 (some .int) (wsOf yX10_piece cX10_piece 3 (some .int)) (rmL 2) 0 0 2 :=
  ⟨callB_of 2 hts (wd_ws (wd_4 (w := .code yX10_piece cX10_piece 3 (some .int)) (i := 174) (by decide +kernel) rfl)) rfl rfl rfl (hts _ (wd_1 (w := .initialized RX10) (i := 1) (by decide +kernel) rfl)) (hts _ (wd_4 (w := .methodLink RL 71 yX10_piece) (i := 171) (by decide +kernel) rfl)) (by decide +kernel) hR, hts _ (wd_4 (w := .instanceMethod yX10_piece) (i := 172) (by decide +kernel) rfl), hts _ (wd_4 (w := .selects RX10 yX10_piece yX10_piece) (i := 173) (by decide +kernel) rfl)⟩
theorem wL_74 (hts : ∀ w ∈ lw_g, w.before args s = true) (hR : 2 + 1 ≤ R.frames ∧ 8 + (3 + 11) + 40 * 2 ≤ R.locals) : CallW R s args RL RX11 74 yX11_piece cX11_piece 3 (some .int) (wsOf yX11_piece cX11_piece 3 (some .int)) (rmL 2) 0 0 2 :=
  ⟨callB_of 2 hts (wd_ws (wd_7 (w := .code yX11_piece cX11_piece 3 (some .int)) (i := 160) (by decide +kernel) rfl)) rfl rfl rfl (hts _ (wd_1 (w := .initialized RX11) (i := 12) (by decide +kernel) rfl)) (hts _ (wd_7 (w := .methodLink RL 74 yX11_piece) (i := 157) (by decide +kernel) rfl)) (by decide +kernel) hR, hts _ (wd_7 (w := .instanceMethod yX11_piece) (i := 158) (by decide +kernel) rfl), hts _ (wd_7 (w := .selects RX11 yX11_piece yX11_piece) (i := 159) (by decide +kernel) rfl)⟩
theorem wL_75 (hts : ∀ w ∈ lw_g, w.before args s = true) (hR : 3 + 1 ≤ R.frames ∧ 8 + (4 + 11) + 40 * 3 ≤ R.locals) : CallW R s args RL RX10 75 yX10_was cX10_was 4 (some .int) (wsOf yX10_was cX10_was 4 (some .int)) (rmL 3) 0 0 3 :=
  ⟨callB_of 3 hts (wd_ws (wd_4 (w := .code yX10_was cX10_was 4 (some .int)) (i := 182) (by decide +kernel) rfl)) rfl rfl rfl (hts _ (wd_1 (w := .initialized RX10) (i := 1) (by decide +kernel) rfl)) (hts _ (wd_4 (w := .methodLink RL 75 yX10_was) (i := 179) (by decide +kernel) rfl)) (by decide +kernel) hR, hts _ (wd_4 (w := .instanceMethod yX10_was) (i := 180) (by decide +kernel) rfl), hts _ (wd_4 (w := .selects RX10 yX10_was yX10_was) (i := 181) (by decide +kernel) rfl)⟩
theorem wL_78 (hts : ∀ w ∈ lw_g, w.before args s = true) (hR : 2 + 1 ≤ R.frames ∧ 8 + (6 + 11) + 40 * 2 ≤ R.locals) : CallW R s args RL RX11 78 yX11_was cX11_was 6 (some .int) (wsOf yX11_was cX11_was 6 (some .int)) (rmL 2) 0 0 3 :=
  ⟨callB_of 3 hts (wd_ws (wd_7 (w := .code yX11_was cX11_was 6 (some .int)) (i := 164) (by decide +kernel) rfl)) rfl rfl rfl (hts _ (wd_1 (w := .initialized RX11) (i := 12) (by decide +kernel) rfl)) (hts _ (wd_7 (w := .methodLink RL 78 yX11_was) (i := 161) (by decide +kernel) rfl)) (by decide +kernel) hR, hts _ (wd_7 (w := .instanceMethod yX11_was) (i := 162) (by decide +kernel) rfl), hts _ (wd_7 (w := .selects RX11 yX11_was yX11_was) (i := 163) (by decide +kernel) rfl)⟩
theorem wL_79 (hts : ∀ w ∈ lw_g, w.before args s = true) (hR : 2 + 1 ≤ R.frames ∧ 8 + (6 + 11) + 40 * 2 ≤ R.locals) : CallW R s args RL RX10 79 yX10_weigh cX10_weigh 6 (some .boolean) (wsOf yX10_weigh cX10_weigh 6 (some .boolean)) (rmL 2) 0 0 4 :=
  ⟨callB_of 4 hts (wd_ws (wd_4 (w := .code yX10_weigh cX10_weigh 6 (some .boolean)) (i := 199) (by decide +kernel) rfl)) rfl rfl rfl (hts _ (wd_1 (w := .initialized RX10) (i := 1) (by decide +kernel) rfl)) (hts _ (wd_4 (w := .methodLink RL 79 yX10_weigh) (i := 196) (by decide +kernel) rfl)) (by decide +kernel) hR, hts _ (wd_4 (w := .instanceMethod yX10_weigh) (i := 197) (by decide +kernel) rfl), hts _ (wd_4 (w := .selects RX10 yX10_weigh yX10_weigh) (i := 198) (by decide +kernel) rfl)⟩
theorem wL_83 (hts : ∀ w ∈ lw_g, w.before args s = true) (hR : 3 + 1 ≤ R.frames ∧ 8 + (5 + 11) + 40 * 3 ≤ R.locals) : CallW R s args RL RX11 83 yX11_weigh cX11_weigh 5 (some .boolean) (wsOf yX11_weigh cX11_weigh 5 (some .boolean)) (rmL 3) 0 0 4 :=
  ⟨callB_of 4 hts (wd_ws (wd_8 (w := .code yX11_weigh cX11_weigh 5 (some .boolean)) (i := 84) (by decide +kernel) rfl)) rfl rfl rfl (hts _ (wd_1 (w := .initialized RX11) (i := 12) (by decide +kernel) rfl)) (hts _ (wd_8 (w := .methodLink RL 83 yX11_weigh) (i := 81) (by decide +kernel) rfl)) (by decide +kernel) hR, hts _ (wd_8 (w := .instanceMethod yX11_weigh) (i := 82) (by decide +kernel) rfl), hts _ (wd_8 (w := .selects RX11 yX11_weigh yX11_weigh) (i := 83) (by decide +kernel) rfl)⟩
theorem wL_84 (hts : ∀ w ∈ lw_g, w.before args s = true) (hR : 2 + 1 ≤ R.frames ∧ 8 + (4 + 11) + 40 * 2 ≤ R.locals) : CallW R s args RL RX10 84 yX10_drifts cX10_drifts 4 (some .int) (wsOf yX10_drifts cX10_drifts 4 (some .int)) (rmL 2) 0 0 3 :=
  ⟨callB_of 3 hts (wd_ws (wd_4 (w := .code yX10_drifts cX10_drifts 4 (some .int)) (i := 212) (by decide +kernel) rfl)) rfl rfl rfl (hts _ (wd_1 (w := .initialized RX10) (i := 1) (by decide +kernel) rfl)) (hts _ (wd_4 (w := .methodLink RL 84 yX10_drifts) (i := 209) (by decide +kernel) rfl)) (by decide +kernel) hR, hts _ (wd_4 (w := .instanceMethod yX10_drifts) (i := 210) (by decide +kernel) rfl), hts _ (wd_4 (w := .selects RX10 yX10_drifts yX10_drifts) (i := 211) (by decide +kernel) rfl)⟩
theorem wL_87 (hts : ∀ w ∈ lw_g, w.before args s = true) (hR : 2 + 1 ≤ R.frames ∧ 8 + (9 + 11) + 40 * 2 ≤ R.locals) : CallW R s args RL RX11 87 yX11_drifts cX11_drifts 9 (some .int) (wsOf yX11_drifts cX11_drifts 9 (some .int)) (rmL 2) 0 0 3 :=
  ⟨callB_of 3 hts (wd_ws (wd_8 (w := .code yX11_drifts cX11_drifts 9 (some .int)) (i := 90) (by decide +kernel) rfl)) rfl rfl rfl (hts _ (wd_1 (w := .initialized RX11) (i := 12) (by decide +kernel) rfl)) (hts _ (wd_8 (w := .methodLink RL 87 yX11_drifts) (i := 87) (by decide +kernel) rfl)) (by decide +kernel) hR, hts _ (wd_8 (w := .instanceMethod yX11_drifts) (i := 88) (by decide +kernel) rfl), hts _ (wd_8 (w := .selects RX11 yX11_drifts yX11_drifts) (i := 89) (by decide +kernel) rfl)⟩
theorem wL_88 (hts : ∀ w ∈ lw_g, w.before args s = true) (hR : 14 + 1 ≤ R.frames ∧ 8 + (4 + 11) + 40 * 14 ≤ R.locals) : CallW R s args RL RX10 88 yX10_found cX10_found 4 (some .int) (wsOf yX10_found cX10_found 4 (some .int)) (rmL 14) 0 0 1 :=
  ⟨callB_of 1 hts (wd_ws (wd_4 (w := .code yX10_found cX10_found 4 (some .int)) (i := 222) (by decide +kernel) rfl)) rfl rfl rfl (hts _ (wd_1 (w := .initialized RX10) (i := 1) (by decide +kernel) rfl)) (hts _ (wd_4 (w := .methodLink RL 88 yX10_found) (i := 219) (by decide +kernel) rfl)) (by decide +kernel) hR, hts _ (wd_4 (w := .instanceMethod yX10_found) (i := 220) (by decide +kernel) rfl), hts _ (wd_4 (w := .selects RX10 yX10_found yX10_found) (i := 221) (by decide +kernel) rfl)⟩
theorem wL_92 (hts : ∀ w ∈ lw_g, w.before args s = true) (hR : 3 + 1 ≤ R.frames ∧ 8 + (4 + 11) + 40 * 3 ≤ R.locals) : CallW R s args RL RX11 92 yX11_found cX11_found 4 (some .int) (wsOf yX11_found cX11_found 4 (some .int)) (rmL 3) 0 0 1 :=
  ⟨callB_of 1 hts (wd_ws (wd_8 (w := .code yX11_found cX11_found 4 (some .int)) (i := 94) (by decide +kernel) rfl)) rfl rfl rfl (hts _ (wd_1 (w := .initialized RX11) (i := 12) (by decide +kernel) rfl)) (hts _ (wd_8 (w := .methodLink RL 92 yX11_found) (i := 91) (by decide +kernel) rfl)) (by decide +kernel) hR, hts _ (wd_8 (w := .instanceMethod yX11_found) (i := 92) (by decide +kernel) rfl), hts _ (wd_8 (w := .selects RX11 yX11_found yX11_found) (i := 93) (by decide +kernel) rfl)⟩
theorem wL_93 (hts : ∀ w ∈ lw_g, w.before args s = true) (hR : 2 + 1 ≤ R.frames ∧ 8 + (3 + 11) + 40 * 2 ≤ R.locals) : CallW R s args RL RX10 93 yX10_thing cX10_thing 3 (some .int) (wsOf yX10_thing cX10_thing 3 (some .int)) (rmL 2) 0 0 2 :=
  ⟨callB_of 2 hts (wd_ws (wd_5 (w := .code yX10_thing cX10_thing 3 (some .int)) (i := 16) (by decide +kernel) rfl)) rfl rfl rfl (hts _ (wd_1 (w := .initialized RX10) (i := 1) (by decide +kernel) rfl)) (hts _ (wd_5 (w := .methodLink RL 93 yX10_thing) (i := 13) (by decide +kernel) rfl)) (by decide +kernel) hR, hts _ (wd_5 (w := .instanceMethod yX10_thing) (i := 14) (by decide +kernel) rfl), hts _ (wd_5 (w := .selects RX10 yX10_thing yX10_thing) (i := 15) (by decide +kernel) rfl)⟩
theorem wL_96 (hts : ∀ w ∈ lw_g, w.before args s = true) (hR : 2 + 1 ≤ R.frames ∧ 8 + (3 + 11) + 40 * 2 ≤ R.locals) : CallW R s args RL RX11 96 yX11_thing cX11_thing 3 (some .int) (wsOf yX11_thing cX11_thing 3 (some .int)) (rmL 2) 0 0 2 :=
  ⟨callB_of 2 hts (wd_ws (wd_8 (w := .code yX11_thing cX11_thing 3 (some .int)) (i := 115) (by decide +kernel) rfl)) rfl rfl rfl (hts _ (wd_1 (w := .initialized RX11) (i := 12) (by decide +kernel) rfl)) (hts _ (wd_8 (w := .methodLink RL 96 yX11_thing) (i := 112) (by decide +kernel) rfl)) (by decide +kernel) hR, hts _ (wd_8 (w := .instanceMethod yX11_thing) (i := 113) (by decide +kernel) rfl), hts _ (wd_8 (w := .selects RX11 yX11_thing yX11_thing) (i := 114) (by decide +kernel) rfl)⟩
theorem wL_97 (hts : ∀ w ∈ lw_g, w.before args s = true) (hR : 3 + 1 ≤ R.frames ∧ 8 + (4 + 11) + 40 * 3 ≤ R.locals) : CallW R s args RL RX10 97 yX10_way cX10_way 4 (some .boolean) (wsOf yX10_way cX10_way 4 (some .boolean)) (rmL 3) 0 0 3 :=
  ⟨callB_of 3 hts (wd_ws (wd_5 (w := .code yX10_way cX10_way 4 (some .boolean)) (i := 29) (by decide +kernel) rfl)) rfl rfl rfl (hts _ (wd_1 (w := .initialized RX10) (i := 1) (by decide +kernel) rfl)) (hts _ (wd_5 (w := .methodLink RL 97 yX10_way) (i := 26) (by decide +kernel) rfl)) (by decide +kernel) hR, hts _ (wd_5 (w := .instanceMethod yX10_way) (i := 27) (by decide +kernel) rfl), hts _ (wd_5 (w := .selects RX10 yX10_way yX10_way) (i := 28) (by decide +kernel) rfl)⟩
theorem wL_101 (hts : ∀ w ∈ lw_g, w.before args s = true) (hR : 2 + 1 ≤ R.frames ∧ 8 + (4 + 11) + 40 * 2 ≤ R.locals) : CallW R s args RL RX11 101 yX11_way cX11_way 4 (some .boolean) (wsOf yX11_way cX11_way 4 (some .boolean)) (rmL 2) 0 0 3 :=
  ⟨callB_of 3 hts (wd_ws (wd_8 (w := .code yX11_way cX11_way 4 (some .boolean)) (i := 126) (by decide +kernel) rfl)) rfl rfl rfl (hts _ (wd_1 (w := .initialized RX11) (i := 12) (by decide +kernel) rfl)) (hts _ (wd_8 (w := .methodLink RL 101 yX11_way) (i := 123) (by decide +kernel) rfl)) (by decide +kernel) hR, hts _ (wd_8 (w := .instanceMethod yX11_way) (i := 124) (by decide +kernel) rfl), hts _ (wd_8 (w := .selects RX11 yX11_way yX11_way) (i := 125) (by decide +kernel) rfl)⟩
theorem wL_102 (hts : ∀ w ∈ lw_g, w.before args s = true) (hR : 3 + 1 ≤ R.frames ∧ 8 + (4 + 11) + 40 * 3 ≤ R.locals) : CallW R s args RL RX10 102 yX10_give cX10_give 4 (some .int) (wsOf yX10_give cX10_give 4 (some .int)) (rmL 3) 0 0 3 :=
  ⟨callB_of 3 hts (wd_ws (wd_5 (w := .code yX10_give cX10_give 4 (some .int)) (i := 41) (by decide +kernel) rfl)) rfl rfl rfl (hts _ (wd_1 (w := .initialized RX10) (i := 1) (by decide +kernel) rfl)) (hts _ (wd_5 (w := .methodLink RL 102 yX10_give) (i := 38) (by decide +kernel) rfl)) (by decide +kernel) hR, hts _ (wd_5 (w := .instanceMethod yX10_give) (i := 39) (by decide +kernel) rfl), hts _ (wd_5 (w := .selects RX10 yX10_give yX10_give) (i := 40) (by decide +kernel) rfl)⟩
theorem wL_105 (hts : ∀ w ∈ lw_g, w.before args s = true) (hR : 4 + 1 ≤ R.frames ∧ 8 + (4 + 11) + 40 * 4 ≤ R.locals) : CallW R s args RL RX11 105 yX11_give cX11_give 4 (some .int) (wsOf yX11_give cX11_give 4 (some .int)) (rmL 4) 0 0 3 :=
  ⟨callB_of 3 hts (wd_ws (wd_8 (w := .code yX11_give cX11_give 4 (some .int)) (i := 133) (by decide +kernel) rfl)) rfl rfl rfl (hts _ (wd_1 (w := .initialized RX11) (i := 12) (by decide +kernel) rfl)) (hts _ (wd_8 (w := .methodLink RL 105 yX11_give) (i := 130) (by decide +kernel) rfl)) (by decide +kernel) hR, hts _ (wd_8 (w := .instanceMethod yX11_give) (i := 131) (by decide +kernel) rfl), hts _ (wd_8 (w := .selects RX11 yX11_give yX11_give) (i := 132) (by decide +kernel) rfl)⟩
theorem wL_106 (hts : ∀ w ∈ lw_g, w.before args s = true) (hR : 2 + 1 ≤ R.frames ∧ 8 + (4 + 11) + 40 * 2 ≤ R.locals) : CallW R s args RL RX10 106 yX10_sight cX10_sight 4 (some .boolean) (wsOf yX10_sight cX10_sight 4 (some .boolean)) (rmL 2) 0 0 3 :=
  ⟨callB_of 3 hts (wd_ws (wd_5 (w := .code yX10_sight cX10_sight 4 (some .boolean)) (i := 57) (by decide +kernel) rfl)) rfl rfl rfl (hts _ (wd_1 (w := .initialized RX10) (i := 1) (by decide +kernel) rfl)) (hts _ (wd_5 (w := .methodLink RL 106 yX10_sight) (i := 54) (by decide +kernel) rfl)) (by decide +kernel) hR, hts _ (wd_5 (w := .instanceMethod yX10_sight) (i := 55) (by decide +kernel) rfl), hts _ (wd_5 (w := .selects RX10 yX10_sight yX10_sight) (i := 56) (by decide +kernel) rfl)⟩
theorem wL_109 (hts : ∀ w ∈ lw_g, w.before args s = true) (hR : 2 + 1 ≤ R.frames ∧ 8 + (4 + 11) + 40 * 2 ≤ R.locals) : CallW R s args RL RX11 109 yX11_sight cX11_sight 4 (some .boolean) (wsOf yX11_sight cX11_sight 4 (some .boolean)) (rmL 2) 0 0 3 :=
  ⟨callB_of 3 hts (wd_ws (wd_8 (w := .code yX11_sight cX11_sight 4 (some .boolean)) (i := 138) (by decide +kernel) rfl)) rfl rfl rfl (hts _ (wd_1 (w := .initialized RX11) (i := 12) (by decide +kernel) rfl)) (hts _ (wd_8 (w := .methodLink RL 109 yX11_sight) (i := 135) (by decide +kernel) rfl)) (by decide +kernel) hR, hts _ (wd_8 (w := .instanceMethod yX11_sight) (i := 136) (by decide +kernel) rfl), hts _ (wd_8 (w := .selects RX11 yX11_sight yX11_sight) (i := 137) (by decide +kernel) rfl)⟩
theorem wL_110 (hts : ∀ w ∈ lw_g, w.before args s = true) (hR : 5 + 1 ≤ R.frames ∧ 8 + (3 + 11) + 40 * 5 ≤ R.locals) : CallW R s args RL RX10 110 yX10_where cX10_where 3 (some .int) (wsOf yX10_where cX10_where 3 (some .int)) (rmL 5) 0 0 2 :=
  ⟨callB_of 2 hts (wd_ws (wd_5 (w := .code yX10_where cX10_where 3 (some .int)) (i := 79) (by decide +kernel) rfl)) rfl rfl rfl (hts _ (wd_1 (w := .initialized RX10) (i := 1) (by decide +kernel) rfl)) (hts _ (wd_5 (w := .methodLink RL 110 yX10_where) (i := 76) (by decide +kernel) rfl)) (by decide +kernel) hR, hts _ (wd_5 (w := .instanceMethod yX10_where) (i := 77) (by decide +kernel) rfl), hts _ (wd_5 (w := .selects RX10 yX10_where yX10_where) (i := 78) (by decide +kernel) rfl)⟩
theorem wL_113 (hts : ∀ w ∈ lw_g, w.before args s = true) (hR : 2 + 1 ≤ R.frames ∧ 8 + (11 + 11) + 40 * 2 ≤ R.locals) : CallW R s args RL RX11 113 yX11_where cX11_where 11 (some .int) (wsOf yX11_where cX11_where 11 (some .int)) (rmL 2) 0 0 2 :=
  ⟨callB_of 2 hts (wd_ws (wd_8 (w := .code yX11_where cX11_where 11 (some .int)) (i := 146) (by decide +kernel) rfl)) rfl rfl rfl (hts _ (wd_1 (w := .initialized RX11) (i := 12) (by decide +kernel) rfl)) (hts _ (wd_8 (w := .methodLink RL 113 yX11_where) (i := 143) (by decide +kernel) rfl)) (by decide +kernel) hR, hts _ (wd_8 (w := .instanceMethod yX11_where) (i := 144) (by decide +kernel) rfl), hts _ (wd_8 (w := .selects RX11 yX11_where yX11_where) (i := 145) (by decide +kernel) rfl)⟩
theorem wL_114 (hts : ∀ w ∈ lw_g, w.before args s = true) (hR : 2 + 1 ≤ R.frames ∧ 8 + (4 + 11) + 40 * 2 ≤ R.locals) : CallW R s args RL RX10 114 yX10_ask cX10_ask 4 (some .int) (wsOf yX10_ask cX10_ask 4 (some .int)) (rmL 2) 0 0 3 :=
  ⟨callB_of 3 hts (wd_ws (wd_5 (w := .code yX10_ask cX10_ask 4 (some .int)) (i := 114) (by decide +kernel) rfl)) rfl rfl rfl (hts _ (wd_1 (w := .initialized RX10) (i := 1) (by decide +kernel) rfl)) (hts _ (wd_5 (w := .methodLink RL 114 yX10_ask) (i := 111) (by decide +kernel) rfl)) (by decide +kernel) hR, hts _ (wd_5 (w := .instanceMethod yX10_ask) (i := 112) (by decide +kernel) rfl), hts _ (wd_5 (w := .selects RX10 yX10_ask yX10_ask) (i := 113) (by decide +kernel) rfl)⟩
theorem wL_117 (hts : ∀ w ∈ lw_g, w.before args s = true) (hR : 2 + 1 ≤ R.frames ∧ 8 + (4 + 11) + 40 * 2 ≤ R.locals) : CallW R s args RL RX11 117 yX11_ask cX11_ask 4 (some .int) (wsOf yX11_ask cX11_ask 4 (some .int)) (rmL 2) 0 0 3 :=
  ⟨callB_of 3 hts (wd_ws (wd_8 (w := .code yX11_ask cX11_ask 4 (some .int)) (i := 165) (by decide +kernel) rfl)) rfl rfl rfl (hts _ (wd_1 (w := .initialized RX11) (i := 12) (by decide +kernel) rfl)) (hts _ (wd_8 (w := .methodLink RL 117 yX11_ask) (i := 162) (by decide +kernel) rfl)) (by decide +kernel) hR, hts _ (wd_8 (w := .instanceMethod yX11_ask) (i := 163) (by decide +kernel) rfl), hts _ (wd_8 (w := .selects RX11 yX11_ask yX11_ask) (i := 164) (by decide +kernel) rfl)⟩
theorem wL_118 (hts : ∀ w ∈ lw_g, w.before args s = true) (hR : 1 + 1 ≤ R.frames ∧ 8 + (1 + 11) + 40 * 1 ≤ R.locals) : CallW R s args RL RX10 118 yX10_clear cX10_clear 1 (some .int) (wsOf yX10_clear cX10_clear 1 (some .int)) (rmL 1) 0 0 0 :=
  ⟨callB_of 0 hts (wd_ws (wd_5 (w := .code yX10_clear cX10_clear 1 (some .int)) (i := 122) (by decide +kernel) rfl)) rfl rfl rfl (hts _ (wd_1 (w := .initialized RX10) (i := 1) (by decide +kernel) rfl)) (hts _ (wd_5 (w := .methodLink RL 118 yX10_clear) (i := 119) (by decide +kernel) rfl)) (by decide +kernel) hR, hts _ (wd_5 (w := .instanceMethod yX10_clear) (i := 120) (by decide +kernel) rfl), hts _ (wd_5 (w := .selects RX10 yX10_clear yX10_clear) (i := 121) (by decide +kernel) rfl)⟩
theorem wL_122 (hts : ∀ w ∈ lw_g, w.before args s = true) (hR : 0 + 1 ≤ R.frames ∧ 8 + (2 + 11) + 40 * 0 ≤ R.locals) : CallW R s args RL RX11 122 yX11_clear cX11_clear 2 (some .int) (wsOf yX11_clear cX11_clear 2 (some .int)) (rmL 0) 0 0 0 :=
  ⟨callB_of 0 hts (wd_ws (wd_8 (w := .code yX11_clear cX11_clear 2 (some .int)) (i := 169) (by decide +kernel) rfl)) rfl rfl rfl (hts _ (wd_1 (w := .initialized RX11) (i := 12) (by decide +kernel) rfl)) (hts _ (wd_8 (w := .methodLink RL 122 yX11_clear) (i := 166) (by decide +kernel) rfl)) (by decide +kernel) hR, hts _ (wd_8 (w := .instanceMethod yX11_clear) (i := 167) (by decide +kernel) rfl), hts _ (wd_8 (w := .selects RX11 yX11_clear yX11_clear) (i := 168) (by decide +kernel) rfl)⟩
theorem wL_123 (hts : ∀ w ∈ lw_g, w.before args s = true) (hR : 1 + 1 ≤ R.frames ∧ 8 + (2 + 11) + 40 * 1 ≤ R.locals) : CallW R s args RL RX10 123 yX10_loss cX10_loss 2 (some .boolean) (wsOf yX10_loss cX10_loss 2 (some .boolean)) (rmL 1) 0 0 1 :=
  ⟨callB_of 1 hts (wd_ws (wd_5 (w := .code yX10_loss cX10_loss 2 (some .boolean)) (i := 130) (by decide +kernel) rfl)) rfl rfl rfl (hts _ (wd_1 (w := .initialized RX10) (i := 1) (by decide +kernel) rfl)) (hts _ (wd_5 (w := .methodLink RL 123 yX10_loss) (i := 127) (by decide +kernel) rfl)) (by decide +kernel) hR, hts _ (wd_5 (w := .instanceMethod yX10_loss) (i := 128) (by decide +kernel) rfl), hts _ (wd_5 (w := .selects RX10 yX10_loss yX10_loss) (i := 129) (by decide +kernel) rfl)⟩
theorem wL_126 (hts : ∀ w ∈ lw_g, w.before args s = true) (hR : 1 + 1 ≤ R.frames ∧ 8 + (2 + 11) + 40 * 1 ≤ R.locals) : CallW R s args RL RX11 126 yX11_loss cX11_loss 2 (some .boolean) (wsOf yX11_loss cX11_loss 2 (some .boolean)) (rmL 1) 0 0 1 :=
  ⟨callB_of 1 hts (wd_ws (wd_8 (w := .code yX11_loss cX11_loss 2 (some .boolean)) (i := 173) (by decide +kernel) rfl)) rfl rfl rfl (hts _ (wd_1 (w := .initialized RX11) (i := 12) (by decide +kernel) rfl)) (hts _ (wd_8 (w := .methodLink RL 126 yX11_loss) (i := 170) (by decide +kernel) rfl)) (by decide +kernel) hR, hts _ (wd_8 (w := .instanceMethod yX11_loss) (i := 171) (by decide +kernel) rfl), hts _ (wd_8 (w := .selects RX11 yX11_loss yX11_loss) (i := 172) (by decide +kernel) rfl)⟩
theorem wL_127 (hts : ∀ w ∈ lw_g, w.before args s = true) (hR : 18 + 1 ≤ R.frames ∧ 8 + (4 + 11) + 40 * 18 ≤ R.locals) : CallW R s args RL RX10 127 yX10_best cX10_best 4 (some .long) (wsOf yX10_best cX10_best 4 (some .long)) (rmL 18) 0 0 2 :=
  ⟨callB_of 2 hts (wd_ws (wd_5 (w := .code yX10_best cX10_best 4 (some .long)) (i := 139) (by decide +kernel) rfl)) rfl rfl rfl (hts _ (wd_1 (w := .initialized RX10) (i := 1) (by decide +kernel) rfl)) (hts _ (wd_5 (w := .methodLink RL 127 yX10_best) (i := 136) (by decide +kernel) rfl)) (by decide +kernel) hR, hts _ (wd_5 (w := .instanceMethod yX10_best) (i := 137) (by decide +kernel) rfl), hts _ (wd_5 (w := .selects RX10 yX10_best yX10_best) (i := 138) (by decide +kernel) rfl)⟩
theorem wL_131 (hts : ∀ w ∈ lw_g, w.before args s = true) (hR : 6 + 1 ≤ R.frames ∧ 8 + (5 + 11) + 40 * 6 ≤ R.locals) : CallW R s args RL RX11 131 yX11_best cX11_best 5 (some .long) (wsOf yX11_best cX11_best 5 (some .long)) (rmL 6) 0 0 2 :=
  ⟨callB_of 2 hts (wd_ws (wd_8 (w := .code yX11_best cX11_best 5 (some .long)) (i := 178) (by decide +kernel) rfl)) rfl rfl rfl (hts _ (wd_1 (w := .initialized RX11) (i := 12) (by decide +kernel) rfl)) (hts _ (wd_8 (w := .methodLink RL 131 yX11_best) (i := 175) (by decide +kernel) rfl)) (by decide +kernel) hR, hts _ (wd_8 (w := .instanceMethod yX11_best) (i := 176) (by decide +kernel) rfl), hts _ (wd_8 (w := .selects RX11 yX11_best yX11_best) (i := 177) (by decide +kernel) rfl)⟩
theorem wL_132 (hts : ∀ w ∈ lw_g, w.before args s = true) (hR : 4 + 1 ≤ R.frames ∧ 8 + (3 + 11) + 40 * 4 ≤ R.locals) : CallW R s args RL RX10 132 yX10_judge cX10_judge 3 (some .int) (wsOf yX10_judge cX10_judge 3 (some .int)) (rmL 4) 0 0 2 :=
  ⟨callB_of 2 hts (wd_ws (wd_5 (w := .code yX10_judge cX10_judge 3 (some .int)) (i := 198) (by decide +kernel) rfl)) rfl rfl rfl (hts _ (wd_1 (w := .initialized RX10) (i := 1) (by decide +kernel) rfl)) (hts _ (wd_5 (w := .methodLink RL 132 yX10_judge) (i := 195) (by decide +kernel) rfl)) (by decide +kernel) hR, hts _ (wd_5 (w := .instanceMethod yX10_judge) (i := 196) (by decide +kernel) rfl), hts _ (wd_5 (w := .selects RX10 yX10_judge yX10_judge) (i := 197) (by decide +kernel) rfl)⟩
theorem wL_135 (hts : ∀ w ∈ lw_g, w.before args s = true) (hR : 5 + 1 ≤ R.frames ∧ 8 + (5 + 11) + 40 * 5 ≤ R.locals) : CallW R s args RL RX11 135 yX11_judge cX11_judge 5 (some .int) (wsOf yX11_judge cX11_judge 5 (some .int)) (rmL 5) 0 0 2 :=
  ⟨callB_of 2 hts (wd_ws (wd_8 (w := .code yX11_judge cX11_judge 5 (some .int)) (i := 199) (by decide +kernel) rfl)) rfl rfl rfl (hts _ (wd_1 (w := .initialized RX11) (i := 12) (by decide +kernel) rfl)) (hts _ (wd_8 (w := .methodLink RL 135 yX11_judge) (i := 196) (by decide +kernel) rfl)) (by decide +kernel) hR, hts _ (wd_8 (w := .instanceMethod yX11_judge) (i := 197) (by decide +kernel) rfl), hts _ (wd_8 (w := .selects RX11 yX11_judge yX11_judge) (i := 198) (by decide +kernel) rfl)⟩
theorem wL_136 (hts : ∀ w ∈ lw_g, w.before args s = true) (hR : 3 + 1 ≤ R.frames ∧ 8 + (7 + 11) + 40 * 3 ≤ R.locals) : CallW R s args RL RX10 136 yX10_next cX10_next 7 (some .int) (wsOf yX10_next cX10_next 7 (some .int)) (rmL 3) 0 0 3 :=
  ⟨callB_of 3 hts (wd_ws (wd_5 (w := .code yX10_next cX10_next 7 (some .int)) (i := 210) (by decide +kernel) rfl)) rfl rfl rfl (hts _ (wd_1 (w := .initialized RX10) (i := 1) (by decide +kernel) rfl)) (hts _ (wd_5 (w := .methodLink RL 136 yX10_next) (i := 207) (by decide +kernel) rfl)) (by decide +kernel) hR, hts _ (wd_5 (w := .instanceMethod yX10_next) (i := 208) (by decide +kernel) rfl), hts _ (wd_5 (w := .selects RX10 yX10_next yX10_next) (i := 209) (by decide +kernel) rfl)⟩
theorem wL_139 (hts : ∀ w ∈ lw_g, w.before args s = true) (hR : 4 + 1 ≤ R.frames ∧ 8 + (7 + 11) + 40 * 4 ≤ R.locals) : CallW R s args RL RX11 139 yX11_next cX11_next 7 (some .int) (wsOf yX11_next cX11_next 7 (some .int)) (rmL 4) 0 0 3 :=
  ⟨callB_of 3 hts (wd_ws (wd_8 (w := .code yX11_next cX11_next 7 (some .int)) (i := 203) (by decide +kernel) rfl)) rfl rfl rfl (hts _ (wd_1 (w := .initialized RX11) (i := 12) (by decide +kernel) rfl)) (hts _ (wd_8 (w := .methodLink RL 139 yX11_next) (i := 200) (by decide +kernel) rfl)) (by decide +kernel) hR, hts _ (wd_8 (w := .instanceMethod yX11_next) (i := 201) (by decide +kernel) rfl), hts _ (wd_8 (w := .selects RX11 yX11_next yX11_next) (i := 202) (by decide +kernel) rfl)⟩
theorem wL_140 (hts : ∀ w ∈ lw_g, w.before args s = true) (hR : 3 + 1 ≤ R.frames ∧ 8 + (3 + 11) + 40 * 3 ≤ R.locals) : CallW R s args RL RX10 140 yX10_check cX10_check 3 (some .int) (wsOf yX10_check cX10_check 3 (some .int)) (rmL 3) 0 0 1 :=
  ⟨callB_of 1 hts (wd_ws (wd_5 (w := .code yX10_check cX10_check 3 (some .int)) (i := 218) (by decide +kernel) rfl)) rfl rfl rfl (hts _ (wd_1 (w := .initialized RX10) (i := 1) (by decide +kernel) rfl)) (hts _ (wd_5 (w := .methodLink RL 140 yX10_check) (i := 215) (by decide +kernel) rfl)) (by decide +kernel) hR, hts _ (wd_5 (w := .instanceMethod yX10_check) (i := 216) (by decide +kernel) rfl), hts _ (wd_5 (w := .selects RX10 yX10_check yX10_check) (i := 217) (by decide +kernel) rfl)⟩
theorem wL_143 (hts : ∀ w ∈ lw_g, w.before args s = true) (hR : 1 + 1 ≤ R.frames ∧ 8 + (4 + 11) + 40 * 1 ≤ R.locals) : CallW R s args RL RX11 143 yX11_check cX11_check 4 (some .int) (wsOf yX11_check cX11_check 4 (some .int)) (rmL 1) 0 0 1 :=
  ⟨callB_of 1 hts (wd_ws (wd_8 (w := .code yX11_check cX11_check 4 (some .int)) (i := 207) (by decide +kernel) rfl)) rfl rfl rfl (hts _ (wd_1 (w := .initialized RX11) (i := 12) (by decide +kernel) rfl)) (hts _ (wd_8 (w := .methodLink RL 143 yX11_check) (i := 204) (by decide +kernel) rfl)) (by decide +kernel) hR, hts _ (wd_8 (w := .instanceMethod yX11_check) (i := 205) (by decide +kernel) rfl), hts _ (wd_8 (w := .selects RX11 yX11_check yX11_check) (i := 206) (by decide +kernel) rfl)⟩
theorem wL_144 (hts : ∀ w ∈ lw_g, w.before args s = true) (hR : 3 + 1 ≤ R.frames ∧ 8 + (3 + 11) + 40 * 3 ≤ R.locals) : CallW R s args RL RX10 144 yX10_sum cX10_sum 3 (some .long) (wsOf yX10_sum cX10_sum 3 (some .long)) (rmL 3) 0 0 2 :=
  ⟨callB_of 2 hts (wd_ws (wd_5 (w := .code yX10_sum cX10_sum 3 (some .long)) (i := 226) (by decide +kernel) rfl)) rfl rfl rfl (hts _ (wd_1 (w := .initialized RX10) (i := 1) (by decide +kernel) rfl)) (hts _ (wd_5 (w := .methodLink RL 144 yX10_sum) (i := 223) (by decide +kernel) rfl)) (by decide +kernel) hR, hts _ (wd_5 (w := .instanceMethod yX10_sum) (i := 224) (by decide +kernel) rfl), hts _ (wd_5 (w := .selects RX10 yX10_sum yX10_sum) (i := 225) (by decide +kernel) rfl)⟩
theorem wL_147 (hts : ∀ w ∈ lw_g, w.before args s = true) (hR : 2 + 1 ≤ R.frames ∧ 8 + (6 + 11) + 40 * 2 ≤ R.locals) : CallW R s args RL RX11 147 yX11_sum cX11_sum 6 (some .long) (wsOf yX11_sum cX11_sum 6 (some .long)) (rmL 2) 0 0 2 :=
  ⟨callB_of 2 hts (wd_ws (wd_8 (w := .code yX11_sum cX11_sum 6 (some .long)) (i := 211) (by decide +kernel) rfl)) rfl rfl rfl (hts _ (wd_1 (w := .initialized RX11) (i := 12) (by decide +kernel) rfl)) (hts _ (wd_8 (w := .methodLink RL 147 yX11_sum) (i := 208) (by decide +kernel) rfl)) (by decide +kernel) hR, hts _ (wd_8 (w := .instanceMethod yX11_sum) (i := 209) (by decide +kernel) rfl), hts _ (wd_8 (w := .selects RX11 yX11_sum yX11_sum) (i := 210) (by decide +kernel) rfl)⟩
theorem wL_148 (hts : ∀ w ∈ lw_g, w.before args s = true) (hR : 3 + 1 ≤ R.frames ∧ 8 + (2 + 11) + 40 * 3 ≤ R.locals) : CallW R s args RL RX10 148 yX10_count cX10_count 2 (some .int) (wsOf yX10_count cX10_count 2 (some .int)) (rmL 3) 0 0 1 :=
  ⟨callB_of 1 hts (wd_ws (wd_5 (w := .code yX10_count cX10_count 2 (some .int)) (i := 230) (by decide +kernel) rfl)) rfl rfl rfl (hts _ (wd_1 (w := .initialized RX10) (i := 1) (by decide +kernel) rfl)) (hts _ (wd_5 (w := .methodLink RL 148 yX10_count) (i := 227) (by decide +kernel) rfl)) (by decide +kernel) hR, hts _ (wd_5 (w := .instanceMethod yX10_count) (i := 228) (by decide +kernel) rfl), hts _ (wd_5 (w := .selects RX10 yX10_count yX10_count) (i := 229) (by decide +kernel) rfl)⟩
theorem wL_151 (hts : ∀ w ∈ lw_g, w.before args s = true) (hR : 1 + 1 ≤ R.frames ∧ 8 + (2 + 11) + 40 * 1 ≤ R.locals) : CallW R s args RL RX11 151 yX11_count cX11_count 2 (some .int) (wsOf yX11_count cX11_count 2 (some .int)) (rmL 1) 0 0 1 :=
  ⟨callB_of 1 hts (wd_ws (wd_8 (w := .code yX11_count cX11_count 2 (some .int)) (i := 223) (by decide +kernel) rfl)) rfl rfl rfl (hts _ (wd_1 (w := .initialized RX11) (i := 12) (by decide +kernel) rfl)) (hts _ (wd_8 (w := .methodLink RL 151 yX11_count) (i := 220) (by decide +kernel) rfl)) (by decide +kernel) hR, hts _ (wd_8 (w := .instanceMethod yX11_count) (i := 221) (by decide +kernel) rfl), hts _ (wd_8 (w := .selects RX11 yX11_count yX11_count) (i := 222) (by decide +kernel) rfl)⟩
end

section
variable {p : Program} {l : Launch} {e : Env} {R : Room} {s : State} {m : MethodId} {args : Array Value} {below : List Frame} {meth : Method} {c : Code} {H : Heap} {locs : List Loc} {Q : State → Prop} {cc : ByteArray} {pc : Nat} {ls : Array Slot} {rest : List Value} {cells slots : Nat} {D : va_G} {ad : Nat → Nat} {cy : Nat → ClassId}
theorem lawI {n : Nat} {wr wc w1 : va_W} {v : Int32} {a : Array Value} {st0 : List Value} (hr : va_Run p l e R s m args below meth c H locs cells slots 0 0 (F0 m pc ls st0) rest (QcI D ad n w1 v H.size a) (Afr ad n H.size)) (hw : Wd D (wr ++ wc) (fun q => s.heap.size ≤ q) s.heap H locs) (hn : wc.map Prod.fst = (List.range n).map ad)
    (kk : ∀ (H1 : Heap) (locs1 : List Loc), Wd D (wr ++ w1) (fun q => s.heap.size ≤ q) s.heap H1 locs1 → W p l e R s m args below meth c H1 locs1 cells slots Q (F0 m (pc + 3) ls (.int v :: rest))) : W p l e R s m args below meth c H locs cells slots Q (F0 m pc ls st0) := by
  have hF : ∀ x, Afr ad n H.size x → s.heap.size ≤ x := by
    intro x h
    rcases h with ⟨k2, h2, h3⟩ | h
    · have h1 : (wc.map Prod.fst)[k2]? = some (ad k2) := by rw [hn, List.getElem?_map, List.getElem?_range h2]; rfl
      rw [List.getElem?_map] at h1
      obtain ⟨⟨a, e⟩, h4, h5⟩ := Option.map_eq_some_iff.mp h1
      cases h5
      rw [h3]
      exact hw.2.1.2 (wr.length + k2) (ad k2, e) (by rw [List.getElem?_append_right (by omega), Nat.add_sub_cancel_left]; exact h4)
    · exact Nat.le_trans hw.2.2.1 h
  refine va_calli hr hw.2.2 (fun q _ h => hF q h) hF (fun r u t H1 locs1 ht _ hp hB _ hk hS1 => ?_)
  subst hp; subst ht
  obtain ⟨h1, h2⟩ := joinG hw.1 hw.2.1 hn (fun x h => Nat.le_trans hw.2.2.1 h) hk hB.1 hB.2
  exact kk _ locs1 ⟨h1, h2, hS1⟩
theorem lawJ {n : Nat} {wr wc w1 : va_W} {v : Int64} {a : Array Value} {st0 : List Value} (hr : va_Run p l e R s m args below meth c H locs cells slots 0 0 (F0 m pc ls st0) rest (QcL D ad n w1 v H.size a) (Afr ad n H.size)) (hw : Wd D (wr ++ wc) (fun q => s.heap.size ≤ q) s.heap H locs) (hn : wc.map Prod.fst = (List.range n).map ad)
    (kk : ∀ (H1 : Heap) (locs1 : List Loc), Wd D (wr ++ w1) (fun q => s.heap.size ≤ q) s.heap H1 locs1 → W p l e R s m args below meth c H1 locs1 cells slots Q (F0 m (pc + 3) ls (.long v :: rest))) : W p l e R s m args below meth c H locs cells slots Q (F0 m pc ls st0) := by
  have hF : ∀ x, Afr ad n H.size x → s.heap.size ≤ x := by
    intro x h
    rcases h with ⟨k2, h2, h3⟩ | h
    · have h1 : (wc.map Prod.fst)[k2]? = some (ad k2) := by rw [hn, List.getElem?_map, List.getElem?_range h2]; rfl
      rw [List.getElem?_map] at h1
      obtain ⟨⟨a, e⟩, h4, h5⟩ := Option.map_eq_some_iff.mp h1
      cases h5
      rw [h3]
      exact hw.2.1.2 (wr.length + k2) (ad k2, e) (by rw [List.getElem?_append_right (by omega), Nat.add_sub_cancel_left]; exact h4)
    · exact Nat.le_trans hw.2.2.1 h
  refine va_calll hr hw.2.2 (fun q _ h => hF q h) hF (fun r u t H1 locs1 ht _ hp hB _ hk hS1 => ?_)
  subst hp; subst ht
  obtain ⟨h1, h2⟩ := joinG hw.1 hw.2.1 hn (fun x h => Nat.le_trans hw.2.2.1 h) hk hB.1 hB.2
  exact kk _ locs1 ⟨h1, h2, hS1⟩
/-- the last cells alone -/
theorem lastP {wr wc : va_W} (h : va_P D vwCl (wr ++ wc) H) : va_P D vwCl wc H := fun k q hq => h (wr.length + k) q (by rw [List.getElem?_append_right (by omega), Nat.add_sub_cancel_left]; exact hq)
theorem lastD {wr wc : va_W} {A : Nat → Prop} (h : va_D A (wr ++ wc)) : va_D A wc := ⟨fun i j p q hp hq e => by
  have := h.1 (wr.length + i) (wr.length + j) p q (by rw [List.getElem?_append_right (by omega), Nat.add_sub_cancel_left]; exact hp) (by rw [List.getElem?_append_right (by omega), Nat.add_sub_cancel_left]; exact hq) e
  omega, fun k q hq => h.2 (wr.length + k) q (by rw [List.getElem?_append_right (by omega), Nat.add_sub_cancel_left]; exact hq)⟩
/-- the script's int at i + k, its place on the stack as the law reckons it -/
theorem ldX (hx : p.tables.exec = Jvm.exec) (hb : c.code = cc) {b L : Nat} {xs : Nat → Int32} (hX : va_X b L xs s s.heap) (hbl : b < s.heap.size) (hS : va_S (fun q => s.heap.size ≤ q) s.heap H locs) {z : Int32} {i : Nat} (hz : z = nI i) (hi : i < L) (hL : L ≤ 3072) (hdg : decode cc pc = .ok (.iaload, 1))
    (kk : W p l e R s m args below meth c H locs cells slots Q (F0 m (pc + 1) ls (.int (xs i) :: rest))) : W p l e R s m args below meth c H locs cells slots Q (F0 m pc ls (.int z :: .ref b :: rest)) := by
  subst hz
  refine va_sld hx hb hX hbl (Nat.not_le.mpr hbl) hS (vp_in_nI hi (by omega)) hdg ?_
  rw [nI_clamp (by omega)]
  exact kk
end
def LCx (p : Program) (s : State) (m : MethodId) (c : Code) (b L : Nat) (xs : Nat → Int32) (D : va_G) (cy : Nat → ClassId) (aC : Nat → Nat) : Prop :=
  p.tables.exec = Jvm.exec ∧ c.code = code ∧ c.maxLocals = 4 ∧ s.vm.findClass RL = some m.cls ∧ (∀ w ∈ lw_g, w.before #[Value.ref b] s = true) ∧ va_K D vwCl (tysA cy) s ∧ va_X b L xs s s.heap ∧ b < s.heap.size ∧ NL s ∧ (∀ k, k < 67 → s.heap.size ≤ aC k) ∧ L ≤ 3072

theorem dL_law_0 : decode cL_law 0 = .ok (.new 7, 3) := by decide +kernel
theorem dL_law_3 : decode cL_law 3 = .ok (.dup, 1) := by decide +kernel
theorem dL_law_4 : decode cL_law 4 = .ok (.invokespecial 9, 3) := by decide +kernel
theorem dL_law_7 : decode cL_law 7 = .ok (.astore_n 1, 1) := by decide +kernel
theorem dL_law_8 : decode cL_law 8 = .ok (.new 10, 3) := by decide +kernel
theorem dL_law_11 : decode cL_law 11 = .ok (.dup, 1) := by decide +kernel
theorem dL_law_12 : decode cL_law 12 = .ok (.invokespecial 12, 3) := by decide +kernel
theorem dL_law_15 : decode cL_law 15 = .ok (.astore_n 2, 1) := by decide +kernel
theorem dL_law_16 : decode cL_law 16 = .ok (.iconst 0, 1) := by decide +kernel
theorem dL_law_17 : decode cL_law 17 = .ok (.istore_n 3, 1) := by decide +kernel
theorem dL_law_18 : decode cL_law 18 = .ok (.iload_n 3, 1) := by decide +kernel
theorem dL_law_19 : decode cL_law 19 = .ok (.aload_n 0, 1) := by decide +kernel
theorem dL_law_20 : decode cL_law 20 = .ok (.arraylength, 1) := by decide +kernel
theorem dL_law_21 : decode cL_law 21 = .ok (.bipush 6, 2) := by decide +kernel
theorem dL_law_23 : decode cL_law 23 = .ok (.isub, 1) := by decide +kernel
theorem dL_law_24 : decode cL_law 24 = .ok (.if_icmp .gt 1362, 3) := by decide +kernel
theorem dL_law_27 : decode cL_law 27 = .ok (.aload_n 0, 1) := by decide +kernel
theorem dL_law_28 : decode cL_law 28 = .ok (.iload_n 3, 1) := by decide +kernel
theorem dL_law_29 : decode cL_law 29 = .ok (.iaload, 1) := by decide +kernel
theorem dL_law_30 : decode cL_law 30 = .ok (.bipush 31, 2) := by decide +kernel
theorem dL_law_32 : decode cL_law 32 = .ok (.iand, 1) := by decide +kernel
theorem dL_law_33 : decode cL_law 33 = .ok (.tableswitch 1347 0 31 #[143, 166, 199, 278, 311, 334, 397, 440, 483, 516, 559, 592, 655, 688, 721, 764, 817, 860, 883, 916, 959, 1002, 1045, 1078, 1121, 1134, 1157, 1191, 1224, 1267, 1290, 1324], 143) := by decide +kernel
theorem dL_law_176 : decode cL_law 176 = .ok (.aload_n 1, 1) := by decide +kernel
theorem dL_law_177 : decode cL_law 177 = .ok (.aload_n 0, 1) := by decide +kernel
theorem dL_law_178 : decode cL_law 178 = .ok (.iload_n 3, 1) := by decide +kernel
theorem dL_law_179 : decode cL_law 179 = .ok (.iconst 1, 1) := by decide +kernel
theorem dL_law_180 : decode cL_law 180 = .ok (.iadd, 1) := by decide +kernel
theorem dL_law_181 : decode cL_law 181 = .ok (.iaload, 1) := by decide +kernel
theorem dL_law_182 : decode cL_law 182 = .ok (.invokevirtual 13, 3) := by decide +kernel
theorem dL_law_185 : decode cL_law 185 = .ok (.aload_n 2, 1) := by decide +kernel
theorem dL_law_186 : decode cL_law 186 = .ok (.aload_n 0, 1) := by decide +kernel
theorem dL_law_187 : decode cL_law 187 = .ok (.iload_n 3, 1) := by decide +kernel
theorem dL_law_188 : decode cL_law 188 = .ok (.iconst 1, 1) := by decide +kernel
theorem dL_law_189 : decode cL_law 189 = .ok (.iadd, 1) := by decide +kernel
theorem dL_law_190 : decode cL_law 190 = .ok (.iaload, 1) := by decide +kernel
theorem dL_law_191 : decode cL_law 191 = .ok (.invokevirtual 17, 3) := by decide +kernel
theorem dL_law_194 : decode cL_law 194 = .ok (.if_icmp .eq 1186, 3) := by decide +kernel
theorem dL_law_197 : decode cL_law 197 = .ok (.iconst 0, 1) := by decide +kernel
theorem dL_law_198 : decode cL_law 198 = .ok (.ireturn, 1) := by decide +kernel
theorem dL_law_199 : decode cL_law 199 = .ok (.aload_n 1, 1) := by decide +kernel
theorem dL_law_200 : decode cL_law 200 = .ok (.aload_n 0, 1) := by decide +kernel
theorem dL_law_201 : decode cL_law 201 = .ok (.iload_n 3, 1) := by decide +kernel
theorem dL_law_202 : decode cL_law 202 = .ok (.iconst 1, 1) := by decide +kernel
theorem dL_law_203 : decode cL_law 203 = .ok (.iadd, 1) := by decide +kernel
theorem dL_law_204 : decode cL_law 204 = .ok (.iaload, 1) := by decide +kernel
theorem dL_law_205 : decode cL_law 205 = .ok (.aload_n 0, 1) := by decide +kernel
theorem dL_law_206 : decode cL_law 206 = .ok (.iload_n 3, 1) := by decide +kernel
theorem dL_law_207 : decode cL_law 207 = .ok (.iconst 2, 1) := by decide +kernel
theorem dL_law_208 : decode cL_law 208 = .ok (.iadd, 1) := by decide +kernel
theorem dL_law_209 : decode cL_law 209 = .ok (.iaload, 1) := by decide +kernel
theorem dL_law_210 : decode cL_law 210 = .ok (.invokevirtual 18, 3) := by decide +kernel
theorem dL_law_213 : decode cL_law 213 = .ok (.aload_n 2, 1) := by decide +kernel
theorem dL_law_214 : decode cL_law 214 = .ok (.aload_n 0, 1) := by decide +kernel
theorem dL_law_215 : decode cL_law 215 = .ok (.iload_n 3, 1) := by decide +kernel
theorem dL_law_216 : decode cL_law 216 = .ok (.iconst 1, 1) := by decide +kernel
theorem dL_law_217 : decode cL_law 217 = .ok (.iadd, 1) := by decide +kernel
theorem dL_law_218 : decode cL_law 218 = .ok (.iaload, 1) := by decide +kernel
theorem dL_law_219 : decode cL_law 219 = .ok (.aload_n 0, 1) := by decide +kernel
theorem dL_law_220 : decode cL_law 220 = .ok (.iload_n 3, 1) := by decide +kernel
theorem dL_law_221 : decode cL_law 221 = .ok (.iconst 2, 1) := by decide +kernel
theorem dL_law_222 : decode cL_law 222 = .ok (.iadd, 1) := by decide +kernel
theorem dL_law_223 : decode cL_law 223 = .ok (.iaload, 1) := by decide +kernel
theorem dL_law_224 : decode cL_law 224 = .ok (.invokevirtual 22, 3) := by decide +kernel
theorem dL_law_227 : decode cL_law 227 = .ok (.if_icmp .eq 1153, 3) := by decide +kernel
theorem dL_law_230 : decode cL_law 230 = .ok (.iconst 0, 1) := by decide +kernel
theorem dL_law_231 : decode cL_law 231 = .ok (.ireturn, 1) := by decide +kernel
theorem dL_law_232 : decode cL_law 232 = .ok (.aload_n 1, 1) := by decide +kernel
theorem dL_law_233 : decode cL_law 233 = .ok (.aload_n 0, 1) := by decide +kernel
theorem dL_law_234 : decode cL_law 234 = .ok (.iload_n 3, 1) := by decide +kernel
theorem dL_law_235 : decode cL_law 235 = .ok (.iconst 1, 1) := by decide +kernel
theorem dL_law_236 : decode cL_law 236 = .ok (.iadd, 1) := by decide +kernel
theorem dL_law_237 : decode cL_law 237 = .ok (.iaload, 1) := by decide +kernel
theorem dL_law_238 : decode cL_law 238 = .ok (.aload_n 0, 1) := by decide +kernel
theorem dL_law_239 : decode cL_law 239 = .ok (.iload_n 3, 1) := by decide +kernel
theorem dL_law_240 : decode cL_law 240 = .ok (.iconst 2, 1) := by decide +kernel
theorem dL_law_241 : decode cL_law 241 = .ok (.iadd, 1) := by decide +kernel
theorem dL_law_242 : decode cL_law 242 = .ok (.iaload, 1) := by decide +kernel
theorem dL_law_243 : decode cL_law 243 = .ok (.aload_n 0, 1) := by decide +kernel
theorem dL_law_244 : decode cL_law 244 = .ok (.iload_n 3, 1) := by decide +kernel
theorem dL_law_245 : decode cL_law 245 = .ok (.iconst 3, 1) := by decide +kernel
theorem dL_law_246 : decode cL_law 246 = .ok (.iadd, 1) := by decide +kernel
theorem dL_law_247 : decode cL_law 247 = .ok (.iaload, 1) := by decide +kernel
theorem dL_law_248 : decode cL_law 248 = .ok (.aload_n 0, 1) := by decide +kernel
theorem dL_law_249 : decode cL_law 249 = .ok (.iload_n 3, 1) := by decide +kernel
theorem dL_law_250 : decode cL_law 250 = .ok (.iconst 4, 1) := by decide +kernel
theorem dL_law_251 : decode cL_law 251 = .ok (.iadd, 1) := by decide +kernel
theorem dL_law_252 : decode cL_law 252 = .ok (.iaload, 1) := by decide +kernel
theorem dL_law_253 : decode cL_law 253 = .ok (.aload_n 0, 1) := by decide +kernel
theorem dL_law_254 : decode cL_law 254 = .ok (.iload_n 3, 1) := by decide +kernel
theorem dL_law_255 : decode cL_law 255 = .ok (.iconst 5, 1) := by decide +kernel
theorem dL_law_256 : decode cL_law 256 = .ok (.iadd, 1) := by decide +kernel
theorem dL_law_257 : decode cL_law 257 = .ok (.iaload, 1) := by decide +kernel
theorem dL_law_258 : decode cL_law 258 = .ok (.ifCond .eq 7, 3) := by decide +kernel
theorem dL_law_261 : decode cL_law 261 = .ok (.iconst 1, 1) := by decide +kernel
theorem dL_law_262 : decode cL_law 262 = .ok (.goto 4, 3) := by decide +kernel
theorem dL_law_265 : decode cL_law 265 = .ok (.iconst 0, 1) := by decide +kernel
theorem dL_law_266 : decode cL_law 266 = .ok (.invokevirtual 23, 3) := by decide +kernel
theorem dL_law_269 : decode cL_law 269 = .ok (.aload_n 2, 1) := by decide +kernel
theorem dL_law_270 : decode cL_law 270 = .ok (.aload_n 0, 1) := by decide +kernel
theorem dL_law_271 : decode cL_law 271 = .ok (.iload_n 3, 1) := by decide +kernel
theorem dL_law_272 : decode cL_law 272 = .ok (.iconst 1, 1) := by decide +kernel
theorem dL_law_273 : decode cL_law 273 = .ok (.iadd, 1) := by decide +kernel
theorem dL_law_274 : decode cL_law 274 = .ok (.iaload, 1) := by decide +kernel
theorem dL_law_275 : decode cL_law 275 = .ok (.aload_n 0, 1) := by decide +kernel
theorem dL_law_276 : decode cL_law 276 = .ok (.iload_n 3, 1) := by decide +kernel
theorem dL_law_277 : decode cL_law 277 = .ok (.iconst 2, 1) := by decide +kernel
theorem dL_law_278 : decode cL_law 278 = .ok (.iadd, 1) := by decide +kernel
theorem dL_law_279 : decode cL_law 279 = .ok (.iaload, 1) := by decide +kernel
theorem dL_law_280 : decode cL_law 280 = .ok (.aload_n 0, 1) := by decide +kernel
theorem dL_law_281 : decode cL_law 281 = .ok (.iload_n 3, 1) := by decide +kernel
theorem dL_law_282 : decode cL_law 282 = .ok (.iconst 3, 1) := by decide +kernel
theorem dL_law_283 : decode cL_law 283 = .ok (.iadd, 1) := by decide +kernel
theorem dL_law_284 : decode cL_law 284 = .ok (.iaload, 1) := by decide +kernel
theorem dL_law_285 : decode cL_law 285 = .ok (.aload_n 0, 1) := by decide +kernel
theorem dL_law_286 : decode cL_law 286 = .ok (.iload_n 3, 1) := by decide +kernel
theorem dL_law_287 : decode cL_law 287 = .ok (.iconst 4, 1) := by decide +kernel
theorem dL_law_288 : decode cL_law 288 = .ok (.iadd, 1) := by decide +kernel
theorem dL_law_289 : decode cL_law 289 = .ok (.iaload, 1) := by decide +kernel
theorem dL_law_290 : decode cL_law 290 = .ok (.aload_n 0, 1) := by decide +kernel
theorem dL_law_291 : decode cL_law 291 = .ok (.iload_n 3, 1) := by decide +kernel
theorem dL_law_292 : decode cL_law 292 = .ok (.iconst 5, 1) := by decide +kernel
theorem dL_law_293 : decode cL_law 293 = .ok (.iadd, 1) := by decide +kernel
theorem dL_law_294 : decode cL_law 294 = .ok (.iaload, 1) := by decide +kernel
theorem dL_law_295 : decode cL_law 295 = .ok (.ifCond .eq 7, 3) := by decide +kernel
theorem dL_law_298 : decode cL_law 298 = .ok (.iconst 1, 1) := by decide +kernel
theorem dL_law_299 : decode cL_law 299 = .ok (.goto 4, 3) := by decide +kernel
theorem dL_law_302 : decode cL_law 302 = .ok (.iconst 0, 1) := by decide +kernel
theorem dL_law_303 : decode cL_law 303 = .ok (.invokevirtual 27, 3) := by decide +kernel
theorem dL_law_306 : decode cL_law 306 = .ok (.if_icmp .eq 1074, 3) := by decide +kernel
theorem dL_law_309 : decode cL_law 309 = .ok (.iconst 0, 1) := by decide +kernel
theorem dL_law_310 : decode cL_law 310 = .ok (.ireturn, 1) := by decide +kernel
theorem dL_law_311 : decode cL_law 311 = .ok (.aload_n 1, 1) := by decide +kernel
theorem dL_law_312 : decode cL_law 312 = .ok (.aload_n 0, 1) := by decide +kernel
theorem dL_law_313 : decode cL_law 313 = .ok (.iload_n 3, 1) := by decide +kernel
theorem dL_law_314 : decode cL_law 314 = .ok (.iconst 1, 1) := by decide +kernel
theorem dL_law_315 : decode cL_law 315 = .ok (.iadd, 1) := by decide +kernel
theorem dL_law_316 : decode cL_law 316 = .ok (.iaload, 1) := by decide +kernel
theorem dL_law_317 : decode cL_law 317 = .ok (.aload_n 0, 1) := by decide +kernel
theorem dL_law_318 : decode cL_law 318 = .ok (.iload_n 3, 1) := by decide +kernel
theorem dL_law_319 : decode cL_law 319 = .ok (.iconst 2, 1) := by decide +kernel
theorem dL_law_320 : decode cL_law 320 = .ok (.iadd, 1) := by decide +kernel
theorem dL_law_321 : decode cL_law 321 = .ok (.iaload, 1) := by decide +kernel
theorem dL_law_322 : decode cL_law 322 = .ok (.invokevirtual 28, 3) := by decide +kernel
theorem dL_law_325 : decode cL_law 325 = .ok (.aload_n 2, 1) := by decide +kernel
theorem dL_law_326 : decode cL_law 326 = .ok (.aload_n 0, 1) := by decide +kernel
theorem dL_law_327 : decode cL_law 327 = .ok (.iload_n 3, 1) := by decide +kernel
theorem dL_law_328 : decode cL_law 328 = .ok (.iconst 1, 1) := by decide +kernel
theorem dL_law_329 : decode cL_law 329 = .ok (.iadd, 1) := by decide +kernel
theorem dL_law_330 : decode cL_law 330 = .ok (.iaload, 1) := by decide +kernel
theorem dL_law_331 : decode cL_law 331 = .ok (.aload_n 0, 1) := by decide +kernel
theorem dL_law_332 : decode cL_law 332 = .ok (.iload_n 3, 1) := by decide +kernel
theorem dL_law_333 : decode cL_law 333 = .ok (.iconst 2, 1) := by decide +kernel
theorem dL_law_334 : decode cL_law 334 = .ok (.iadd, 1) := by decide +kernel
theorem dL_law_335 : decode cL_law 335 = .ok (.iaload, 1) := by decide +kernel
theorem dL_law_336 : decode cL_law 336 = .ok (.invokevirtual 31, 3) := by decide +kernel
theorem dL_law_339 : decode cL_law 339 = .ok (.if_icmp .eq 1041, 3) := by decide +kernel
theorem dL_law_342 : decode cL_law 342 = .ok (.iconst 0, 1) := by decide +kernel
theorem dL_law_343 : decode cL_law 343 = .ok (.ireturn, 1) := by decide +kernel
theorem dL_law_344 : decode cL_law 344 = .ok (.aload_n 1, 1) := by decide +kernel
theorem dL_law_345 : decode cL_law 345 = .ok (.aload_n 0, 1) := by decide +kernel
theorem dL_law_346 : decode cL_law 346 = .ok (.iload_n 3, 1) := by decide +kernel
theorem dL_law_347 : decode cL_law 347 = .ok (.iconst 1, 1) := by decide +kernel
theorem dL_law_348 : decode cL_law 348 = .ok (.iadd, 1) := by decide +kernel
theorem dL_law_349 : decode cL_law 349 = .ok (.iaload, 1) := by decide +kernel
theorem dL_law_350 : decode cL_law 350 = .ok (.invokevirtual 32, 3) := by decide +kernel
theorem dL_law_353 : decode cL_law 353 = .ok (.aload_n 2, 1) := by decide +kernel
theorem dL_law_354 : decode cL_law 354 = .ok (.aload_n 0, 1) := by decide +kernel
theorem dL_law_355 : decode cL_law 355 = .ok (.iload_n 3, 1) := by decide +kernel
theorem dL_law_356 : decode cL_law 356 = .ok (.iconst 1, 1) := by decide +kernel
theorem dL_law_357 : decode cL_law 357 = .ok (.iadd, 1) := by decide +kernel
theorem dL_law_358 : decode cL_law 358 = .ok (.iaload, 1) := by decide +kernel
theorem dL_law_359 : decode cL_law 359 = .ok (.invokevirtual 35, 3) := by decide +kernel
theorem dL_law_362 : decode cL_law 362 = .ok (.if_icmp .eq 1018, 3) := by decide +kernel
theorem dL_law_365 : decode cL_law 365 = .ok (.iconst 0, 1) := by decide +kernel
theorem dL_law_366 : decode cL_law 366 = .ok (.ireturn, 1) := by decide +kernel
theorem dL_law_367 : decode cL_law 367 = .ok (.aload_n 1, 1) := by decide +kernel
theorem dL_law_368 : decode cL_law 368 = .ok (.aload_n 0, 1) := by decide +kernel
theorem dL_law_369 : decode cL_law 369 = .ok (.iload_n 3, 1) := by decide +kernel
theorem dL_law_370 : decode cL_law 370 = .ok (.iconst 1, 1) := by decide +kernel
theorem dL_law_371 : decode cL_law 371 = .ok (.iadd, 1) := by decide +kernel
theorem dL_law_372 : decode cL_law 372 = .ok (.iaload, 1) := by decide +kernel
theorem dL_law_373 : decode cL_law 373 = .ok (.aload_n 0, 1) := by decide +kernel
theorem dL_law_374 : decode cL_law 374 = .ok (.iload_n 3, 1) := by decide +kernel
theorem dL_law_375 : decode cL_law 375 = .ok (.iconst 2, 1) := by decide +kernel
theorem dL_law_376 : decode cL_law 376 = .ok (.iadd, 1) := by decide +kernel
theorem dL_law_377 : decode cL_law 377 = .ok (.iaload, 1) := by decide +kernel
theorem dL_law_378 : decode cL_law 378 = .ok (.aload_n 0, 1) := by decide +kernel
theorem dL_law_379 : decode cL_law 379 = .ok (.iload_n 3, 1) := by decide +kernel
theorem dL_law_380 : decode cL_law 380 = .ok (.iconst 3, 1) := by decide +kernel
theorem dL_law_381 : decode cL_law 381 = .ok (.iadd, 1) := by decide +kernel
theorem dL_law_382 : decode cL_law 382 = .ok (.iaload, 1) := by decide +kernel
theorem dL_law_383 : decode cL_law 383 = .ok (.aload_n 0, 1) := by decide +kernel
theorem dL_law_384 : decode cL_law 384 = .ok (.iload_n 3, 1) := by decide +kernel
theorem dL_law_385 : decode cL_law 385 = .ok (.iconst 4, 1) := by decide +kernel
theorem dL_law_386 : decode cL_law 386 = .ok (.iadd, 1) := by decide +kernel
theorem dL_law_387 : decode cL_law 387 = .ok (.iaload, 1) := by decide +kernel
theorem dL_law_388 : decode cL_law 388 = .ok (.aload_n 0, 1) := by decide +kernel
theorem dL_law_389 : decode cL_law 389 = .ok (.iload_n 3, 1) := by decide +kernel
theorem dL_law_390 : decode cL_law 390 = .ok (.iconst 5, 1) := by decide +kernel
theorem dL_law_391 : decode cL_law 391 = .ok (.iadd, 1) := by decide +kernel
theorem dL_law_392 : decode cL_law 392 = .ok (.iaload, 1) := by decide +kernel
theorem dL_law_393 : decode cL_law 393 = .ok (.invokevirtual 36, 3) := by decide +kernel
theorem dL_law_396 : decode cL_law 396 = .ok (.aload_n 2, 1) := by decide +kernel
theorem dL_law_397 : decode cL_law 397 = .ok (.aload_n 0, 1) := by decide +kernel
theorem dL_law_398 : decode cL_law 398 = .ok (.iload_n 3, 1) := by decide +kernel
theorem dL_law_399 : decode cL_law 399 = .ok (.iconst 1, 1) := by decide +kernel
theorem dL_law_400 : decode cL_law 400 = .ok (.iadd, 1) := by decide +kernel
theorem dL_law_401 : decode cL_law 401 = .ok (.iaload, 1) := by decide +kernel
theorem dL_law_402 : decode cL_law 402 = .ok (.aload_n 0, 1) := by decide +kernel
theorem dL_law_403 : decode cL_law 403 = .ok (.iload_n 3, 1) := by decide +kernel
theorem dL_law_404 : decode cL_law 404 = .ok (.iconst 2, 1) := by decide +kernel
theorem dL_law_405 : decode cL_law 405 = .ok (.iadd, 1) := by decide +kernel
theorem dL_law_406 : decode cL_law 406 = .ok (.iaload, 1) := by decide +kernel
theorem dL_law_407 : decode cL_law 407 = .ok (.aload_n 0, 1) := by decide +kernel
theorem dL_law_408 : decode cL_law 408 = .ok (.iload_n 3, 1) := by decide +kernel
theorem dL_law_409 : decode cL_law 409 = .ok (.iconst 3, 1) := by decide +kernel
theorem dL_law_410 : decode cL_law 410 = .ok (.iadd, 1) := by decide +kernel
theorem dL_law_411 : decode cL_law 411 = .ok (.iaload, 1) := by decide +kernel
theorem dL_law_412 : decode cL_law 412 = .ok (.aload_n 0, 1) := by decide +kernel
theorem dL_law_413 : decode cL_law 413 = .ok (.iload_n 3, 1) := by decide +kernel
theorem dL_law_414 : decode cL_law 414 = .ok (.iconst 4, 1) := by decide +kernel
theorem dL_law_415 : decode cL_law 415 = .ok (.iadd, 1) := by decide +kernel
theorem dL_law_416 : decode cL_law 416 = .ok (.iaload, 1) := by decide +kernel
theorem dL_law_417 : decode cL_law 417 = .ok (.aload_n 0, 1) := by decide +kernel
theorem dL_law_418 : decode cL_law 418 = .ok (.iload_n 3, 1) := by decide +kernel
theorem dL_law_419 : decode cL_law 419 = .ok (.iconst 5, 1) := by decide +kernel
theorem dL_law_420 : decode cL_law 420 = .ok (.iadd, 1) := by decide +kernel
theorem dL_law_421 : decode cL_law 421 = .ok (.iaload, 1) := by decide +kernel
theorem dL_law_422 : decode cL_law 422 = .ok (.invokevirtual 40, 3) := by decide +kernel
theorem dL_law_425 : decode cL_law 425 = .ok (.if_icmp .eq 955, 3) := by decide +kernel
theorem dL_law_428 : decode cL_law 428 = .ok (.iconst 0, 1) := by decide +kernel
theorem dL_law_429 : decode cL_law 429 = .ok (.ireturn, 1) := by decide +kernel
theorem dL_law_430 : decode cL_law 430 = .ok (.aload_n 1, 1) := by decide +kernel
theorem dL_law_431 : decode cL_law 431 = .ok (.aload_n 0, 1) := by decide +kernel
theorem dL_law_432 : decode cL_law 432 = .ok (.iload_n 3, 1) := by decide +kernel
theorem dL_law_433 : decode cL_law 433 = .ok (.iconst 1, 1) := by decide +kernel
theorem dL_law_434 : decode cL_law 434 = .ok (.iadd, 1) := by decide +kernel
theorem dL_law_435 : decode cL_law 435 = .ok (.iaload, 1) := by decide +kernel
theorem dL_law_436 : decode cL_law 436 = .ok (.aload_n 0, 1) := by decide +kernel
theorem dL_law_437 : decode cL_law 437 = .ok (.iload_n 3, 1) := by decide +kernel
theorem dL_law_438 : decode cL_law 438 = .ok (.iconst 2, 1) := by decide +kernel
theorem dL_law_439 : decode cL_law 439 = .ok (.iadd, 1) := by decide +kernel
theorem dL_law_440 : decode cL_law 440 = .ok (.iaload, 1) := by decide +kernel
theorem dL_law_441 : decode cL_law 441 = .ok (.aload_n 0, 1) := by decide +kernel
theorem dL_law_442 : decode cL_law 442 = .ok (.iload_n 3, 1) := by decide +kernel
theorem dL_law_443 : decode cL_law 443 = .ok (.iconst 3, 1) := by decide +kernel
theorem dL_law_444 : decode cL_law 444 = .ok (.iadd, 1) := by decide +kernel
theorem dL_law_445 : decode cL_law 445 = .ok (.iaload, 1) := by decide +kernel
theorem dL_law_446 : decode cL_law 446 = .ok (.invokevirtual 41, 3) := by decide +kernel
theorem dL_law_449 : decode cL_law 449 = .ok (.aload_n 2, 1) := by decide +kernel
theorem dL_law_450 : decode cL_law 450 = .ok (.aload_n 0, 1) := by decide +kernel
theorem dL_law_451 : decode cL_law 451 = .ok (.iload_n 3, 1) := by decide +kernel
theorem dL_law_452 : decode cL_law 452 = .ok (.iconst 1, 1) := by decide +kernel
theorem dL_law_453 : decode cL_law 453 = .ok (.iadd, 1) := by decide +kernel
theorem dL_law_454 : decode cL_law 454 = .ok (.iaload, 1) := by decide +kernel
theorem dL_law_455 : decode cL_law 455 = .ok (.aload_n 0, 1) := by decide +kernel
theorem dL_law_456 : decode cL_law 456 = .ok (.iload_n 3, 1) := by decide +kernel
theorem dL_law_457 : decode cL_law 457 = .ok (.iconst 2, 1) := by decide +kernel
theorem dL_law_458 : decode cL_law 458 = .ok (.iadd, 1) := by decide +kernel
theorem dL_law_459 : decode cL_law 459 = .ok (.iaload, 1) := by decide +kernel
theorem dL_law_460 : decode cL_law 460 = .ok (.aload_n 0, 1) := by decide +kernel
theorem dL_law_461 : decode cL_law 461 = .ok (.iload_n 3, 1) := by decide +kernel
theorem dL_law_462 : decode cL_law 462 = .ok (.iconst 3, 1) := by decide +kernel
theorem dL_law_463 : decode cL_law 463 = .ok (.iadd, 1) := by decide +kernel
theorem dL_law_464 : decode cL_law 464 = .ok (.iaload, 1) := by decide +kernel
theorem dL_law_465 : decode cL_law 465 = .ok (.invokevirtual 45, 3) := by decide +kernel
theorem dL_law_468 : decode cL_law 468 = .ok (.if_icmp .eq 912, 3) := by decide +kernel
theorem dL_law_471 : decode cL_law 471 = .ok (.iconst 0, 1) := by decide +kernel
theorem dL_law_472 : decode cL_law 472 = .ok (.ireturn, 1) := by decide +kernel
theorem dL_law_473 : decode cL_law 473 = .ok (.aload_n 1, 1) := by decide +kernel
theorem dL_law_474 : decode cL_law 474 = .ok (.aload_n 0, 1) := by decide +kernel
theorem dL_law_475 : decode cL_law 475 = .ok (.iload_n 3, 1) := by decide +kernel
theorem dL_law_476 : decode cL_law 476 = .ok (.iconst 1, 1) := by decide +kernel
theorem dL_law_477 : decode cL_law 477 = .ok (.iadd, 1) := by decide +kernel
theorem dL_law_478 : decode cL_law 478 = .ok (.iaload, 1) := by decide +kernel
theorem dL_law_479 : decode cL_law 479 = .ok (.aload_n 0, 1) := by decide +kernel
theorem dL_law_480 : decode cL_law 480 = .ok (.iload_n 3, 1) := by decide +kernel
theorem dL_law_481 : decode cL_law 481 = .ok (.iconst 2, 1) := by decide +kernel
theorem dL_law_482 : decode cL_law 482 = .ok (.iadd, 1) := by decide +kernel
theorem dL_law_483 : decode cL_law 483 = .ok (.iaload, 1) := by decide +kernel
theorem dL_law_484 : decode cL_law 484 = .ok (.aload_n 0, 1) := by decide +kernel
theorem dL_law_485 : decode cL_law 485 = .ok (.iload_n 3, 1) := by decide +kernel
theorem dL_law_486 : decode cL_law 486 = .ok (.iconst 3, 1) := by decide +kernel
theorem dL_law_487 : decode cL_law 487 = .ok (.iadd, 1) := by decide +kernel
theorem dL_law_488 : decode cL_law 488 = .ok (.iaload, 1) := by decide +kernel
theorem dL_law_489 : decode cL_law 489 = .ok (.invokevirtual 46, 3) := by decide +kernel
theorem dL_law_492 : decode cL_law 492 = .ok (.aload_n 2, 1) := by decide +kernel
theorem dL_law_493 : decode cL_law 493 = .ok (.aload_n 0, 1) := by decide +kernel
theorem dL_law_494 : decode cL_law 494 = .ok (.iload_n 3, 1) := by decide +kernel
theorem dL_law_495 : decode cL_law 495 = .ok (.iconst 1, 1) := by decide +kernel
theorem dL_law_496 : decode cL_law 496 = .ok (.iadd, 1) := by decide +kernel
theorem dL_law_497 : decode cL_law 497 = .ok (.iaload, 1) := by decide +kernel
theorem dL_law_498 : decode cL_law 498 = .ok (.aload_n 0, 1) := by decide +kernel
theorem dL_law_499 : decode cL_law 499 = .ok (.iload_n 3, 1) := by decide +kernel
theorem dL_law_500 : decode cL_law 500 = .ok (.iconst 2, 1) := by decide +kernel
theorem dL_law_501 : decode cL_law 501 = .ok (.iadd, 1) := by decide +kernel
theorem dL_law_502 : decode cL_law 502 = .ok (.iaload, 1) := by decide +kernel
theorem dL_law_503 : decode cL_law 503 = .ok (.aload_n 0, 1) := by decide +kernel
theorem dL_law_504 : decode cL_law 504 = .ok (.iload_n 3, 1) := by decide +kernel
theorem dL_law_505 : decode cL_law 505 = .ok (.iconst 3, 1) := by decide +kernel
theorem dL_law_506 : decode cL_law 506 = .ok (.iadd, 1) := by decide +kernel
theorem dL_law_507 : decode cL_law 507 = .ok (.iaload, 1) := by decide +kernel
theorem dL_law_508 : decode cL_law 508 = .ok (.invokevirtual 49, 3) := by decide +kernel
theorem dL_law_511 : decode cL_law 511 = .ok (.if_icmp .eq 869, 3) := by decide +kernel
theorem dL_law_514 : decode cL_law 514 = .ok (.iconst 0, 1) := by decide +kernel
theorem dL_law_515 : decode cL_law 515 = .ok (.ireturn, 1) := by decide +kernel
theorem dL_law_516 : decode cL_law 516 = .ok (.aload_n 1, 1) := by decide +kernel
theorem dL_law_517 : decode cL_law 517 = .ok (.aload_n 0, 1) := by decide +kernel
theorem dL_law_518 : decode cL_law 518 = .ok (.iload_n 3, 1) := by decide +kernel
theorem dL_law_519 : decode cL_law 519 = .ok (.iconst 1, 1) := by decide +kernel
theorem dL_law_520 : decode cL_law 520 = .ok (.iadd, 1) := by decide +kernel
theorem dL_law_521 : decode cL_law 521 = .ok (.iaload, 1) := by decide +kernel
theorem dL_law_522 : decode cL_law 522 = .ok (.aload_n 0, 1) := by decide +kernel
theorem dL_law_523 : decode cL_law 523 = .ok (.iload_n 3, 1) := by decide +kernel
theorem dL_law_524 : decode cL_law 524 = .ok (.iconst 2, 1) := by decide +kernel
theorem dL_law_525 : decode cL_law 525 = .ok (.iadd, 1) := by decide +kernel
theorem dL_law_526 : decode cL_law 526 = .ok (.iaload, 1) := by decide +kernel
theorem dL_law_527 : decode cL_law 527 = .ok (.invokevirtual 50, 3) := by decide +kernel
theorem dL_law_530 : decode cL_law 530 = .ok (.aload_n 2, 1) := by decide +kernel
theorem dL_law_531 : decode cL_law 531 = .ok (.aload_n 0, 1) := by decide +kernel
theorem dL_law_532 : decode cL_law 532 = .ok (.iload_n 3, 1) := by decide +kernel
theorem dL_law_533 : decode cL_law 533 = .ok (.iconst 1, 1) := by decide +kernel
theorem dL_law_534 : decode cL_law 534 = .ok (.iadd, 1) := by decide +kernel
theorem dL_law_535 : decode cL_law 535 = .ok (.iaload, 1) := by decide +kernel
theorem dL_law_536 : decode cL_law 536 = .ok (.aload_n 0, 1) := by decide +kernel
theorem dL_law_537 : decode cL_law 537 = .ok (.iload_n 3, 1) := by decide +kernel
theorem dL_law_538 : decode cL_law 538 = .ok (.iconst 2, 1) := by decide +kernel
theorem dL_law_539 : decode cL_law 539 = .ok (.iadd, 1) := by decide +kernel
theorem dL_law_540 : decode cL_law 540 = .ok (.iaload, 1) := by decide +kernel
theorem dL_law_541 : decode cL_law 541 = .ok (.invokevirtual 54, 3) := by decide +kernel
theorem dL_law_544 : decode cL_law 544 = .ok (.if_icmp .eq 836, 3) := by decide +kernel
theorem dL_law_547 : decode cL_law 547 = .ok (.iconst 0, 1) := by decide +kernel
theorem dL_law_548 : decode cL_law 548 = .ok (.ireturn, 1) := by decide +kernel
theorem dL_law_549 : decode cL_law 549 = .ok (.aload_n 1, 1) := by decide +kernel
theorem dL_law_550 : decode cL_law 550 = .ok (.aload_n 0, 1) := by decide +kernel
theorem dL_law_551 : decode cL_law 551 = .ok (.iload_n 3, 1) := by decide +kernel
theorem dL_law_552 : decode cL_law 552 = .ok (.iconst 1, 1) := by decide +kernel
theorem dL_law_553 : decode cL_law 553 = .ok (.iadd, 1) := by decide +kernel
theorem dL_law_554 : decode cL_law 554 = .ok (.iaload, 1) := by decide +kernel
theorem dL_law_555 : decode cL_law 555 = .ok (.aload_n 0, 1) := by decide +kernel
theorem dL_law_556 : decode cL_law 556 = .ok (.iload_n 3, 1) := by decide +kernel
theorem dL_law_557 : decode cL_law 557 = .ok (.iconst 2, 1) := by decide +kernel
theorem dL_law_558 : decode cL_law 558 = .ok (.iadd, 1) := by decide +kernel
theorem dL_law_559 : decode cL_law 559 = .ok (.iaload, 1) := by decide +kernel
theorem dL_law_560 : decode cL_law 560 = .ok (.aload_n 0, 1) := by decide +kernel
theorem dL_law_561 : decode cL_law 561 = .ok (.iload_n 3, 1) := by decide +kernel
theorem dL_law_562 : decode cL_law 562 = .ok (.iconst 3, 1) := by decide +kernel
theorem dL_law_563 : decode cL_law 563 = .ok (.iadd, 1) := by decide +kernel
theorem dL_law_564 : decode cL_law 564 = .ok (.iaload, 1) := by decide +kernel
theorem dL_law_565 : decode cL_law 565 = .ok (.invokevirtual 55, 3) := by decide +kernel
theorem dL_law_568 : decode cL_law 568 = .ok (.aload_n 2, 1) := by decide +kernel
theorem dL_law_569 : decode cL_law 569 = .ok (.aload_n 0, 1) := by decide +kernel
theorem dL_law_570 : decode cL_law 570 = .ok (.iload_n 3, 1) := by decide +kernel
theorem dL_law_571 : decode cL_law 571 = .ok (.iconst 1, 1) := by decide +kernel
theorem dL_law_572 : decode cL_law 572 = .ok (.iadd, 1) := by decide +kernel
theorem dL_law_573 : decode cL_law 573 = .ok (.iaload, 1) := by decide +kernel
theorem dL_law_574 : decode cL_law 574 = .ok (.aload_n 0, 1) := by decide +kernel
theorem dL_law_575 : decode cL_law 575 = .ok (.iload_n 3, 1) := by decide +kernel
theorem dL_law_576 : decode cL_law 576 = .ok (.iconst 2, 1) := by decide +kernel
theorem dL_law_577 : decode cL_law 577 = .ok (.iadd, 1) := by decide +kernel
theorem dL_law_578 : decode cL_law 578 = .ok (.iaload, 1) := by decide +kernel
theorem dL_law_579 : decode cL_law 579 = .ok (.aload_n 0, 1) := by decide +kernel
theorem dL_law_580 : decode cL_law 580 = .ok (.iload_n 3, 1) := by decide +kernel
theorem dL_law_581 : decode cL_law 581 = .ok (.iconst 3, 1) := by decide +kernel
theorem dL_law_582 : decode cL_law 582 = .ok (.iadd, 1) := by decide +kernel
theorem dL_law_583 : decode cL_law 583 = .ok (.iaload, 1) := by decide +kernel
theorem dL_law_584 : decode cL_law 584 = .ok (.invokevirtual 58, 3) := by decide +kernel
theorem dL_law_587 : decode cL_law 587 = .ok (.if_icmp .eq 793, 3) := by decide +kernel
theorem dL_law_590 : decode cL_law 590 = .ok (.iconst 0, 1) := by decide +kernel
theorem dL_law_591 : decode cL_law 591 = .ok (.ireturn, 1) := by decide +kernel
theorem dL_law_592 : decode cL_law 592 = .ok (.aload_n 1, 1) := by decide +kernel
theorem dL_law_593 : decode cL_law 593 = .ok (.aload_n 0, 1) := by decide +kernel
theorem dL_law_594 : decode cL_law 594 = .ok (.iload_n 3, 1) := by decide +kernel
theorem dL_law_595 : decode cL_law 595 = .ok (.iconst 1, 1) := by decide +kernel
theorem dL_law_596 : decode cL_law 596 = .ok (.iadd, 1) := by decide +kernel
theorem dL_law_597 : decode cL_law 597 = .ok (.iaload, 1) := by decide +kernel
theorem dL_law_598 : decode cL_law 598 = .ok (.aload_n 0, 1) := by decide +kernel
theorem dL_law_599 : decode cL_law 599 = .ok (.iload_n 3, 1) := by decide +kernel
theorem dL_law_600 : decode cL_law 600 = .ok (.iconst 2, 1) := by decide +kernel
theorem dL_law_601 : decode cL_law 601 = .ok (.iadd, 1) := by decide +kernel
theorem dL_law_602 : decode cL_law 602 = .ok (.iaload, 1) := by decide +kernel
theorem dL_law_603 : decode cL_law 603 = .ok (.invokevirtual 59, 3) := by decide +kernel
theorem dL_law_606 : decode cL_law 606 = .ok (.aload_n 2, 1) := by decide +kernel
theorem dL_law_607 : decode cL_law 607 = .ok (.aload_n 0, 1) := by decide +kernel
theorem dL_law_608 : decode cL_law 608 = .ok (.iload_n 3, 1) := by decide +kernel
theorem dL_law_609 : decode cL_law 609 = .ok (.iconst 1, 1) := by decide +kernel
theorem dL_law_610 : decode cL_law 610 = .ok (.iadd, 1) := by decide +kernel
theorem dL_law_611 : decode cL_law 611 = .ok (.iaload, 1) := by decide +kernel
theorem dL_law_612 : decode cL_law 612 = .ok (.aload_n 0, 1) := by decide +kernel
theorem dL_law_613 : decode cL_law 613 = .ok (.iload_n 3, 1) := by decide +kernel
theorem dL_law_614 : decode cL_law 614 = .ok (.iconst 2, 1) := by decide +kernel
theorem dL_law_615 : decode cL_law 615 = .ok (.iadd, 1) := by decide +kernel
theorem dL_law_616 : decode cL_law 616 = .ok (.iaload, 1) := by decide +kernel
theorem dL_law_617 : decode cL_law 617 = .ok (.invokevirtual 62, 3) := by decide +kernel
theorem dL_law_620 : decode cL_law 620 = .ok (.if_icmp .eq 760, 3) := by decide +kernel
theorem dL_law_623 : decode cL_law 623 = .ok (.iconst 0, 1) := by decide +kernel
theorem dL_law_624 : decode cL_law 624 = .ok (.ireturn, 1) := by decide +kernel
theorem dL_law_625 : decode cL_law 625 = .ok (.aload_n 1, 1) := by decide +kernel
theorem dL_law_626 : decode cL_law 626 = .ok (.aload_n 0, 1) := by decide +kernel
theorem dL_law_627 : decode cL_law 627 = .ok (.iload_n 3, 1) := by decide +kernel
theorem dL_law_628 : decode cL_law 628 = .ok (.iconst 1, 1) := by decide +kernel
theorem dL_law_629 : decode cL_law 629 = .ok (.iadd, 1) := by decide +kernel
theorem dL_law_630 : decode cL_law 630 = .ok (.iaload, 1) := by decide +kernel
theorem dL_law_631 : decode cL_law 631 = .ok (.aload_n 0, 1) := by decide +kernel
theorem dL_law_632 : decode cL_law 632 = .ok (.iload_n 3, 1) := by decide +kernel
theorem dL_law_633 : decode cL_law 633 = .ok (.iconst 2, 1) := by decide +kernel
theorem dL_law_634 : decode cL_law 634 = .ok (.iadd, 1) := by decide +kernel
theorem dL_law_635 : decode cL_law 635 = .ok (.iaload, 1) := by decide +kernel
theorem dL_law_636 : decode cL_law 636 = .ok (.aload_n 0, 1) := by decide +kernel
theorem dL_law_637 : decode cL_law 637 = .ok (.iload_n 3, 1) := by decide +kernel
theorem dL_law_638 : decode cL_law 638 = .ok (.iconst 3, 1) := by decide +kernel
theorem dL_law_639 : decode cL_law 639 = .ok (.iadd, 1) := by decide +kernel
theorem dL_law_640 : decode cL_law 640 = .ok (.iaload, 1) := by decide +kernel
theorem dL_law_641 : decode cL_law 641 = .ok (.aload_n 0, 1) := by decide +kernel
theorem dL_law_642 : decode cL_law 642 = .ok (.iload_n 3, 1) := by decide +kernel
theorem dL_law_643 : decode cL_law 643 = .ok (.iconst 4, 1) := by decide +kernel
theorem dL_law_644 : decode cL_law 644 = .ok (.iadd, 1) := by decide +kernel
theorem dL_law_645 : decode cL_law 645 = .ok (.iaload, 1) := by decide +kernel
theorem dL_law_646 : decode cL_law 646 = .ok (.aload_n 0, 1) := by decide +kernel
theorem dL_law_647 : decode cL_law 647 = .ok (.iload_n 3, 1) := by decide +kernel
theorem dL_law_648 : decode cL_law 648 = .ok (.iconst 5, 1) := by decide +kernel
theorem dL_law_649 : decode cL_law 649 = .ok (.iadd, 1) := by decide +kernel
theorem dL_law_650 : decode cL_law 650 = .ok (.iaload, 1) := by decide +kernel
theorem dL_law_651 : decode cL_law 651 = .ok (.invokevirtual 63, 3) := by decide +kernel
theorem dL_law_654 : decode cL_law 654 = .ok (.aload_n 2, 1) := by decide +kernel
theorem dL_law_655 : decode cL_law 655 = .ok (.aload_n 0, 1) := by decide +kernel
theorem dL_law_656 : decode cL_law 656 = .ok (.iload_n 3, 1) := by decide +kernel
theorem dL_law_657 : decode cL_law 657 = .ok (.iconst 1, 1) := by decide +kernel
theorem dL_law_658 : decode cL_law 658 = .ok (.iadd, 1) := by decide +kernel
theorem dL_law_659 : decode cL_law 659 = .ok (.iaload, 1) := by decide +kernel
theorem dL_law_660 : decode cL_law 660 = .ok (.aload_n 0, 1) := by decide +kernel
theorem dL_law_661 : decode cL_law 661 = .ok (.iload_n 3, 1) := by decide +kernel
theorem dL_law_662 : decode cL_law 662 = .ok (.iconst 2, 1) := by decide +kernel
theorem dL_law_663 : decode cL_law 663 = .ok (.iadd, 1) := by decide +kernel
theorem dL_law_664 : decode cL_law 664 = .ok (.iaload, 1) := by decide +kernel
theorem dL_law_665 : decode cL_law 665 = .ok (.aload_n 0, 1) := by decide +kernel
theorem dL_law_666 : decode cL_law 666 = .ok (.iload_n 3, 1) := by decide +kernel
theorem dL_law_667 : decode cL_law 667 = .ok (.iconst 3, 1) := by decide +kernel
theorem dL_law_668 : decode cL_law 668 = .ok (.iadd, 1) := by decide +kernel
theorem dL_law_669 : decode cL_law 669 = .ok (.iaload, 1) := by decide +kernel
theorem dL_law_670 : decode cL_law 670 = .ok (.aload_n 0, 1) := by decide +kernel
theorem dL_law_671 : decode cL_law 671 = .ok (.iload_n 3, 1) := by decide +kernel
theorem dL_law_672 : decode cL_law 672 = .ok (.iconst 4, 1) := by decide +kernel
theorem dL_law_673 : decode cL_law 673 = .ok (.iadd, 1) := by decide +kernel
theorem dL_law_674 : decode cL_law 674 = .ok (.iaload, 1) := by decide +kernel
theorem dL_law_675 : decode cL_law 675 = .ok (.aload_n 0, 1) := by decide +kernel
theorem dL_law_676 : decode cL_law 676 = .ok (.iload_n 3, 1) := by decide +kernel
theorem dL_law_677 : decode cL_law 677 = .ok (.iconst 5, 1) := by decide +kernel
theorem dL_law_678 : decode cL_law 678 = .ok (.iadd, 1) := by decide +kernel
theorem dL_law_679 : decode cL_law 679 = .ok (.iaload, 1) := by decide +kernel
theorem dL_law_680 : decode cL_law 680 = .ok (.invokevirtual 66, 3) := by decide +kernel
theorem dL_law_683 : decode cL_law 683 = .ok (.if_icmp .eq 697, 3) := by decide +kernel
theorem dL_law_686 : decode cL_law 686 = .ok (.iconst 0, 1) := by decide +kernel
theorem dL_law_687 : decode cL_law 687 = .ok (.ireturn, 1) := by decide +kernel
theorem dL_law_688 : decode cL_law 688 = .ok (.aload_n 1, 1) := by decide +kernel
theorem dL_law_689 : decode cL_law 689 = .ok (.aload_n 0, 1) := by decide +kernel
theorem dL_law_690 : decode cL_law 690 = .ok (.iload_n 3, 1) := by decide +kernel
theorem dL_law_691 : decode cL_law 691 = .ok (.iconst 1, 1) := by decide +kernel
theorem dL_law_692 : decode cL_law 692 = .ok (.iadd, 1) := by decide +kernel
theorem dL_law_693 : decode cL_law 693 = .ok (.iaload, 1) := by decide +kernel
theorem dL_law_694 : decode cL_law 694 = .ok (.aload_n 0, 1) := by decide +kernel
theorem dL_law_695 : decode cL_law 695 = .ok (.iload_n 3, 1) := by decide +kernel
theorem dL_law_696 : decode cL_law 696 = .ok (.iconst 2, 1) := by decide +kernel
theorem dL_law_697 : decode cL_law 697 = .ok (.iadd, 1) := by decide +kernel
theorem dL_law_698 : decode cL_law 698 = .ok (.iaload, 1) := by decide +kernel
theorem dL_law_699 : decode cL_law 699 = .ok (.invokevirtual 67, 3) := by decide +kernel
theorem dL_law_702 : decode cL_law 702 = .ok (.aload_n 2, 1) := by decide +kernel
theorem dL_law_703 : decode cL_law 703 = .ok (.aload_n 0, 1) := by decide +kernel
theorem dL_law_704 : decode cL_law 704 = .ok (.iload_n 3, 1) := by decide +kernel
theorem dL_law_705 : decode cL_law 705 = .ok (.iconst 1, 1) := by decide +kernel
theorem dL_law_706 : decode cL_law 706 = .ok (.iadd, 1) := by decide +kernel
theorem dL_law_707 : decode cL_law 707 = .ok (.iaload, 1) := by decide +kernel
theorem dL_law_708 : decode cL_law 708 = .ok (.aload_n 0, 1) := by decide +kernel
theorem dL_law_709 : decode cL_law 709 = .ok (.iload_n 3, 1) := by decide +kernel
theorem dL_law_710 : decode cL_law 710 = .ok (.iconst 2, 1) := by decide +kernel
theorem dL_law_711 : decode cL_law 711 = .ok (.iadd, 1) := by decide +kernel
theorem dL_law_712 : decode cL_law 712 = .ok (.iaload, 1) := by decide +kernel
theorem dL_law_713 : decode cL_law 713 = .ok (.invokevirtual 70, 3) := by decide +kernel
theorem dL_law_716 : decode cL_law 716 = .ok (.if_icmp .eq 664, 3) := by decide +kernel
theorem dL_law_719 : decode cL_law 719 = .ok (.iconst 0, 1) := by decide +kernel
theorem dL_law_720 : decode cL_law 720 = .ok (.ireturn, 1) := by decide +kernel
theorem dL_law_721 : decode cL_law 721 = .ok (.aload_n 1, 1) := by decide +kernel
theorem dL_law_722 : decode cL_law 722 = .ok (.aload_n 0, 1) := by decide +kernel
theorem dL_law_723 : decode cL_law 723 = .ok (.iload_n 3, 1) := by decide +kernel
theorem dL_law_724 : decode cL_law 724 = .ok (.iconst 1, 1) := by decide +kernel
theorem dL_law_725 : decode cL_law 725 = .ok (.iadd, 1) := by decide +kernel
theorem dL_law_726 : decode cL_law 726 = .ok (.iaload, 1) := by decide +kernel
theorem dL_law_727 : decode cL_law 727 = .ok (.aload_n 0, 1) := by decide +kernel
theorem dL_law_728 : decode cL_law 728 = .ok (.iload_n 3, 1) := by decide +kernel
theorem dL_law_729 : decode cL_law 729 = .ok (.iconst 2, 1) := by decide +kernel
theorem dL_law_730 : decode cL_law 730 = .ok (.iadd, 1) := by decide +kernel
theorem dL_law_731 : decode cL_law 731 = .ok (.iaload, 1) := by decide +kernel
theorem dL_law_732 : decode cL_law 732 = .ok (.invokevirtual 71, 3) := by decide +kernel
theorem dL_law_735 : decode cL_law 735 = .ok (.aload_n 2, 1) := by decide +kernel
theorem dL_law_736 : decode cL_law 736 = .ok (.aload_n 0, 1) := by decide +kernel
theorem dL_law_737 : decode cL_law 737 = .ok (.iload_n 3, 1) := by decide +kernel
theorem dL_law_738 : decode cL_law 738 = .ok (.iconst 1, 1) := by decide +kernel
theorem dL_law_739 : decode cL_law 739 = .ok (.iadd, 1) := by decide +kernel
theorem dL_law_740 : decode cL_law 740 = .ok (.iaload, 1) := by decide +kernel
theorem dL_law_741 : decode cL_law 741 = .ok (.aload_n 0, 1) := by decide +kernel
theorem dL_law_742 : decode cL_law 742 = .ok (.iload_n 3, 1) := by decide +kernel
theorem dL_law_743 : decode cL_law 743 = .ok (.iconst 2, 1) := by decide +kernel
theorem dL_law_744 : decode cL_law 744 = .ok (.iadd, 1) := by decide +kernel
theorem dL_law_745 : decode cL_law 745 = .ok (.iaload, 1) := by decide +kernel
theorem dL_law_746 : decode cL_law 746 = .ok (.invokevirtual 74, 3) := by decide +kernel
theorem dL_law_749 : decode cL_law 749 = .ok (.if_icmp .eq 631, 3) := by decide +kernel
theorem dL_law_752 : decode cL_law 752 = .ok (.iconst 0, 1) := by decide +kernel
theorem dL_law_753 : decode cL_law 753 = .ok (.ireturn, 1) := by decide +kernel
theorem dL_law_754 : decode cL_law 754 = .ok (.aload_n 1, 1) := by decide +kernel
theorem dL_law_755 : decode cL_law 755 = .ok (.aload_n 0, 1) := by decide +kernel
theorem dL_law_756 : decode cL_law 756 = .ok (.iload_n 3, 1) := by decide +kernel
theorem dL_law_757 : decode cL_law 757 = .ok (.iconst 1, 1) := by decide +kernel
theorem dL_law_758 : decode cL_law 758 = .ok (.iadd, 1) := by decide +kernel
theorem dL_law_759 : decode cL_law 759 = .ok (.iaload, 1) := by decide +kernel
theorem dL_law_760 : decode cL_law 760 = .ok (.aload_n 0, 1) := by decide +kernel
theorem dL_law_761 : decode cL_law 761 = .ok (.iload_n 3, 1) := by decide +kernel
theorem dL_law_762 : decode cL_law 762 = .ok (.iconst 2, 1) := by decide +kernel
theorem dL_law_763 : decode cL_law 763 = .ok (.iadd, 1) := by decide +kernel
theorem dL_law_764 : decode cL_law 764 = .ok (.iaload, 1) := by decide +kernel
theorem dL_law_765 : decode cL_law 765 = .ok (.aload_n 0, 1) := by decide +kernel
theorem dL_law_766 : decode cL_law 766 = .ok (.iload_n 3, 1) := by decide +kernel
theorem dL_law_767 : decode cL_law 767 = .ok (.iconst 3, 1) := by decide +kernel
theorem dL_law_768 : decode cL_law 768 = .ok (.iadd, 1) := by decide +kernel
theorem dL_law_769 : decode cL_law 769 = .ok (.iaload, 1) := by decide +kernel
theorem dL_law_770 : decode cL_law 770 = .ok (.invokevirtual 75, 3) := by decide +kernel
theorem dL_law_773 : decode cL_law 773 = .ok (.aload_n 2, 1) := by decide +kernel
theorem dL_law_774 : decode cL_law 774 = .ok (.aload_n 0, 1) := by decide +kernel
theorem dL_law_775 : decode cL_law 775 = .ok (.iload_n 3, 1) := by decide +kernel
theorem dL_law_776 : decode cL_law 776 = .ok (.iconst 1, 1) := by decide +kernel
theorem dL_law_777 : decode cL_law 777 = .ok (.iadd, 1) := by decide +kernel
theorem dL_law_778 : decode cL_law 778 = .ok (.iaload, 1) := by decide +kernel
theorem dL_law_779 : decode cL_law 779 = .ok (.aload_n 0, 1) := by decide +kernel
theorem dL_law_780 : decode cL_law 780 = .ok (.iload_n 3, 1) := by decide +kernel
theorem dL_law_781 : decode cL_law 781 = .ok (.iconst 2, 1) := by decide +kernel
theorem dL_law_782 : decode cL_law 782 = .ok (.iadd, 1) := by decide +kernel
theorem dL_law_783 : decode cL_law 783 = .ok (.iaload, 1) := by decide +kernel
theorem dL_law_784 : decode cL_law 784 = .ok (.aload_n 0, 1) := by decide +kernel
theorem dL_law_785 : decode cL_law 785 = .ok (.iload_n 3, 1) := by decide +kernel
theorem dL_law_786 : decode cL_law 786 = .ok (.iconst 3, 1) := by decide +kernel
theorem dL_law_787 : decode cL_law 787 = .ok (.iadd, 1) := by decide +kernel
theorem dL_law_788 : decode cL_law 788 = .ok (.iaload, 1) := by decide +kernel
theorem dL_law_789 : decode cL_law 789 = .ok (.invokevirtual 78, 3) := by decide +kernel
theorem dL_law_792 : decode cL_law 792 = .ok (.if_icmp .eq 588, 3) := by decide +kernel
theorem dL_law_795 : decode cL_law 795 = .ok (.iconst 0, 1) := by decide +kernel
theorem dL_law_796 : decode cL_law 796 = .ok (.ireturn, 1) := by decide +kernel
theorem dL_law_797 : decode cL_law 797 = .ok (.aload_n 1, 1) := by decide +kernel
theorem dL_law_798 : decode cL_law 798 = .ok (.aload_n 0, 1) := by decide +kernel
theorem dL_law_799 : decode cL_law 799 = .ok (.iload_n 3, 1) := by decide +kernel
theorem dL_law_800 : decode cL_law 800 = .ok (.iconst 1, 1) := by decide +kernel
theorem dL_law_801 : decode cL_law 801 = .ok (.iadd, 1) := by decide +kernel
theorem dL_law_802 : decode cL_law 802 = .ok (.iaload, 1) := by decide +kernel
theorem dL_law_803 : decode cL_law 803 = .ok (.aload_n 0, 1) := by decide +kernel
theorem dL_law_804 : decode cL_law 804 = .ok (.iload_n 3, 1) := by decide +kernel
theorem dL_law_805 : decode cL_law 805 = .ok (.iconst 2, 1) := by decide +kernel
theorem dL_law_806 : decode cL_law 806 = .ok (.iadd, 1) := by decide +kernel
theorem dL_law_807 : decode cL_law 807 = .ok (.iaload, 1) := by decide +kernel
theorem dL_law_808 : decode cL_law 808 = .ok (.aload_n 0, 1) := by decide +kernel
theorem dL_law_809 : decode cL_law 809 = .ok (.iload_n 3, 1) := by decide +kernel
theorem dL_law_810 : decode cL_law 810 = .ok (.iconst 3, 1) := by decide +kernel
theorem dL_law_811 : decode cL_law 811 = .ok (.iadd, 1) := by decide +kernel
theorem dL_law_812 : decode cL_law 812 = .ok (.iaload, 1) := by decide +kernel
theorem dL_law_813 : decode cL_law 813 = .ok (.aload_n 0, 1) := by decide +kernel
theorem dL_law_814 : decode cL_law 814 = .ok (.iload_n 3, 1) := by decide +kernel
theorem dL_law_815 : decode cL_law 815 = .ok (.iconst 4, 1) := by decide +kernel
theorem dL_law_816 : decode cL_law 816 = .ok (.iadd, 1) := by decide +kernel
theorem dL_law_817 : decode cL_law 817 = .ok (.iaload, 1) := by decide +kernel
theorem dL_law_818 : decode cL_law 818 = .ok (.invokevirtual 79, 3) := by decide +kernel
theorem dL_law_821 : decode cL_law 821 = .ok (.aload_n 2, 1) := by decide +kernel
theorem dL_law_822 : decode cL_law 822 = .ok (.aload_n 0, 1) := by decide +kernel
theorem dL_law_823 : decode cL_law 823 = .ok (.iload_n 3, 1) := by decide +kernel
theorem dL_law_824 : decode cL_law 824 = .ok (.iconst 1, 1) := by decide +kernel
theorem dL_law_825 : decode cL_law 825 = .ok (.iadd, 1) := by decide +kernel
theorem dL_law_826 : decode cL_law 826 = .ok (.iaload, 1) := by decide +kernel
theorem dL_law_827 : decode cL_law 827 = .ok (.aload_n 0, 1) := by decide +kernel
theorem dL_law_828 : decode cL_law 828 = .ok (.iload_n 3, 1) := by decide +kernel
theorem dL_law_829 : decode cL_law 829 = .ok (.iconst 2, 1) := by decide +kernel
theorem dL_law_830 : decode cL_law 830 = .ok (.iadd, 1) := by decide +kernel
theorem dL_law_831 : decode cL_law 831 = .ok (.iaload, 1) := by decide +kernel
theorem dL_law_832 : decode cL_law 832 = .ok (.aload_n 0, 1) := by decide +kernel
theorem dL_law_833 : decode cL_law 833 = .ok (.iload_n 3, 1) := by decide +kernel
theorem dL_law_834 : decode cL_law 834 = .ok (.iconst 3, 1) := by decide +kernel
theorem dL_law_835 : decode cL_law 835 = .ok (.iadd, 1) := by decide +kernel
theorem dL_law_836 : decode cL_law 836 = .ok (.iaload, 1) := by decide +kernel
theorem dL_law_837 : decode cL_law 837 = .ok (.aload_n 0, 1) := by decide +kernel
theorem dL_law_838 : decode cL_law 838 = .ok (.iload_n 3, 1) := by decide +kernel
theorem dL_law_839 : decode cL_law 839 = .ok (.iconst 4, 1) := by decide +kernel
theorem dL_law_840 : decode cL_law 840 = .ok (.iadd, 1) := by decide +kernel
theorem dL_law_841 : decode cL_law 841 = .ok (.iaload, 1) := by decide +kernel
theorem dL_law_842 : decode cL_law 842 = .ok (.invokevirtual 83, 3) := by decide +kernel
theorem dL_law_845 : decode cL_law 845 = .ok (.if_icmp .eq 535, 3) := by decide +kernel
theorem dL_law_848 : decode cL_law 848 = .ok (.iconst 0, 1) := by decide +kernel
theorem dL_law_849 : decode cL_law 849 = .ok (.ireturn, 1) := by decide +kernel
theorem dL_law_850 : decode cL_law 850 = .ok (.aload_n 1, 1) := by decide +kernel
theorem dL_law_851 : decode cL_law 851 = .ok (.aload_n 0, 1) := by decide +kernel
theorem dL_law_852 : decode cL_law 852 = .ok (.iload_n 3, 1) := by decide +kernel
theorem dL_law_853 : decode cL_law 853 = .ok (.iconst 1, 1) := by decide +kernel
theorem dL_law_854 : decode cL_law 854 = .ok (.iadd, 1) := by decide +kernel
theorem dL_law_855 : decode cL_law 855 = .ok (.iaload, 1) := by decide +kernel
theorem dL_law_856 : decode cL_law 856 = .ok (.aload_n 0, 1) := by decide +kernel
theorem dL_law_857 : decode cL_law 857 = .ok (.iload_n 3, 1) := by decide +kernel
theorem dL_law_858 : decode cL_law 858 = .ok (.iconst 2, 1) := by decide +kernel
theorem dL_law_859 : decode cL_law 859 = .ok (.iadd, 1) := by decide +kernel
theorem dL_law_860 : decode cL_law 860 = .ok (.iaload, 1) := by decide +kernel
theorem dL_law_861 : decode cL_law 861 = .ok (.aload_n 0, 1) := by decide +kernel
theorem dL_law_862 : decode cL_law 862 = .ok (.iload_n 3, 1) := by decide +kernel
theorem dL_law_863 : decode cL_law 863 = .ok (.iconst 3, 1) := by decide +kernel
theorem dL_law_864 : decode cL_law 864 = .ok (.iadd, 1) := by decide +kernel
theorem dL_law_865 : decode cL_law 865 = .ok (.iaload, 1) := by decide +kernel
theorem dL_law_866 : decode cL_law 866 = .ok (.invokevirtual 84, 3) := by decide +kernel
theorem dL_law_869 : decode cL_law 869 = .ok (.aload_n 2, 1) := by decide +kernel
theorem dL_law_870 : decode cL_law 870 = .ok (.aload_n 0, 1) := by decide +kernel
theorem dL_law_871 : decode cL_law 871 = .ok (.iload_n 3, 1) := by decide +kernel
theorem dL_law_872 : decode cL_law 872 = .ok (.iconst 1, 1) := by decide +kernel
theorem dL_law_873 : decode cL_law 873 = .ok (.iadd, 1) := by decide +kernel
theorem dL_law_874 : decode cL_law 874 = .ok (.iaload, 1) := by decide +kernel
theorem dL_law_875 : decode cL_law 875 = .ok (.aload_n 0, 1) := by decide +kernel
theorem dL_law_876 : decode cL_law 876 = .ok (.iload_n 3, 1) := by decide +kernel
theorem dL_law_877 : decode cL_law 877 = .ok (.iconst 2, 1) := by decide +kernel
theorem dL_law_878 : decode cL_law 878 = .ok (.iadd, 1) := by decide +kernel
theorem dL_law_879 : decode cL_law 879 = .ok (.iaload, 1) := by decide +kernel
theorem dL_law_880 : decode cL_law 880 = .ok (.aload_n 0, 1) := by decide +kernel
theorem dL_law_881 : decode cL_law 881 = .ok (.iload_n 3, 1) := by decide +kernel
theorem dL_law_882 : decode cL_law 882 = .ok (.iconst 3, 1) := by decide +kernel
theorem dL_law_883 : decode cL_law 883 = .ok (.iadd, 1) := by decide +kernel
theorem dL_law_884 : decode cL_law 884 = .ok (.iaload, 1) := by decide +kernel
theorem dL_law_885 : decode cL_law 885 = .ok (.invokevirtual 87, 3) := by decide +kernel
theorem dL_law_888 : decode cL_law 888 = .ok (.if_icmp .eq 492, 3) := by decide +kernel
theorem dL_law_891 : decode cL_law 891 = .ok (.iconst 0, 1) := by decide +kernel
theorem dL_law_892 : decode cL_law 892 = .ok (.ireturn, 1) := by decide +kernel
theorem dL_law_893 : decode cL_law 893 = .ok (.aload_n 1, 1) := by decide +kernel
theorem dL_law_894 : decode cL_law 894 = .ok (.aload_n 0, 1) := by decide +kernel
theorem dL_law_895 : decode cL_law 895 = .ok (.iload_n 3, 1) := by decide +kernel
theorem dL_law_896 : decode cL_law 896 = .ok (.iconst 1, 1) := by decide +kernel
theorem dL_law_897 : decode cL_law 897 = .ok (.iadd, 1) := by decide +kernel
theorem dL_law_898 : decode cL_law 898 = .ok (.iaload, 1) := by decide +kernel
theorem dL_law_899 : decode cL_law 899 = .ok (.invokevirtual 88, 3) := by decide +kernel
theorem dL_law_902 : decode cL_law 902 = .ok (.aload_n 2, 1) := by decide +kernel
theorem dL_law_903 : decode cL_law 903 = .ok (.aload_n 0, 1) := by decide +kernel
theorem dL_law_904 : decode cL_law 904 = .ok (.iload_n 3, 1) := by decide +kernel
theorem dL_law_905 : decode cL_law 905 = .ok (.iconst 1, 1) := by decide +kernel
theorem dL_law_906 : decode cL_law 906 = .ok (.iadd, 1) := by decide +kernel
theorem dL_law_907 : decode cL_law 907 = .ok (.iaload, 1) := by decide +kernel
theorem dL_law_908 : decode cL_law 908 = .ok (.invokevirtual 92, 3) := by decide +kernel
theorem dL_law_911 : decode cL_law 911 = .ok (.if_icmp .eq 469, 3) := by decide +kernel
theorem dL_law_914 : decode cL_law 914 = .ok (.iconst 0, 1) := by decide +kernel
theorem dL_law_915 : decode cL_law 915 = .ok (.ireturn, 1) := by decide +kernel
theorem dL_law_916 : decode cL_law 916 = .ok (.aload_n 1, 1) := by decide +kernel
theorem dL_law_917 : decode cL_law 917 = .ok (.aload_n 0, 1) := by decide +kernel
theorem dL_law_918 : decode cL_law 918 = .ok (.iload_n 3, 1) := by decide +kernel
theorem dL_law_919 : decode cL_law 919 = .ok (.iconst 1, 1) := by decide +kernel
theorem dL_law_920 : decode cL_law 920 = .ok (.iadd, 1) := by decide +kernel
theorem dL_law_921 : decode cL_law 921 = .ok (.iaload, 1) := by decide +kernel
theorem dL_law_922 : decode cL_law 922 = .ok (.aload_n 0, 1) := by decide +kernel
theorem dL_law_923 : decode cL_law 923 = .ok (.iload_n 3, 1) := by decide +kernel
theorem dL_law_924 : decode cL_law 924 = .ok (.iconst 2, 1) := by decide +kernel
theorem dL_law_925 : decode cL_law 925 = .ok (.iadd, 1) := by decide +kernel
theorem dL_law_926 : decode cL_law 926 = .ok (.iaload, 1) := by decide +kernel
theorem dL_law_927 : decode cL_law 927 = .ok (.invokevirtual 93, 3) := by decide +kernel
theorem dL_law_930 : decode cL_law 930 = .ok (.aload_n 2, 1) := by decide +kernel
theorem dL_law_931 : decode cL_law 931 = .ok (.aload_n 0, 1) := by decide +kernel
theorem dL_law_932 : decode cL_law 932 = .ok (.iload_n 3, 1) := by decide +kernel
theorem dL_law_933 : decode cL_law 933 = .ok (.iconst 1, 1) := by decide +kernel
theorem dL_law_934 : decode cL_law 934 = .ok (.iadd, 1) := by decide +kernel
theorem dL_law_935 : decode cL_law 935 = .ok (.iaload, 1) := by decide +kernel
theorem dL_law_936 : decode cL_law 936 = .ok (.aload_n 0, 1) := by decide +kernel
theorem dL_law_937 : decode cL_law 937 = .ok (.iload_n 3, 1) := by decide +kernel
theorem dL_law_938 : decode cL_law 938 = .ok (.iconst 2, 1) := by decide +kernel
theorem dL_law_939 : decode cL_law 939 = .ok (.iadd, 1) := by decide +kernel
theorem dL_law_940 : decode cL_law 940 = .ok (.iaload, 1) := by decide +kernel
theorem dL_law_941 : decode cL_law 941 = .ok (.invokevirtual 96, 3) := by decide +kernel
theorem dL_law_944 : decode cL_law 944 = .ok (.if_icmp .eq 436, 3) := by decide +kernel
theorem dL_law_947 : decode cL_law 947 = .ok (.iconst 0, 1) := by decide +kernel
theorem dL_law_948 : decode cL_law 948 = .ok (.ireturn, 1) := by decide +kernel
theorem dL_law_949 : decode cL_law 949 = .ok (.aload_n 1, 1) := by decide +kernel
theorem dL_law_950 : decode cL_law 950 = .ok (.aload_n 0, 1) := by decide +kernel
theorem dL_law_951 : decode cL_law 951 = .ok (.iload_n 3, 1) := by decide +kernel
theorem dL_law_952 : decode cL_law 952 = .ok (.iconst 1, 1) := by decide +kernel
theorem dL_law_953 : decode cL_law 953 = .ok (.iadd, 1) := by decide +kernel
theorem dL_law_954 : decode cL_law 954 = .ok (.iaload, 1) := by decide +kernel
theorem dL_law_955 : decode cL_law 955 = .ok (.aload_n 0, 1) := by decide +kernel
theorem dL_law_956 : decode cL_law 956 = .ok (.iload_n 3, 1) := by decide +kernel
theorem dL_law_957 : decode cL_law 957 = .ok (.iconst 2, 1) := by decide +kernel
theorem dL_law_958 : decode cL_law 958 = .ok (.iadd, 1) := by decide +kernel
theorem dL_law_959 : decode cL_law 959 = .ok (.iaload, 1) := by decide +kernel
theorem dL_law_960 : decode cL_law 960 = .ok (.aload_n 0, 1) := by decide +kernel
theorem dL_law_961 : decode cL_law 961 = .ok (.iload_n 3, 1) := by decide +kernel
theorem dL_law_962 : decode cL_law 962 = .ok (.iconst 3, 1) := by decide +kernel
theorem dL_law_963 : decode cL_law 963 = .ok (.iadd, 1) := by decide +kernel
theorem dL_law_964 : decode cL_law 964 = .ok (.iaload, 1) := by decide +kernel
theorem dL_law_965 : decode cL_law 965 = .ok (.invokevirtual 97, 3) := by decide +kernel
theorem dL_law_968 : decode cL_law 968 = .ok (.aload_n 2, 1) := by decide +kernel
theorem dL_law_969 : decode cL_law 969 = .ok (.aload_n 0, 1) := by decide +kernel
theorem dL_law_970 : decode cL_law 970 = .ok (.iload_n 3, 1) := by decide +kernel
theorem dL_law_971 : decode cL_law 971 = .ok (.iconst 1, 1) := by decide +kernel
theorem dL_law_972 : decode cL_law 972 = .ok (.iadd, 1) := by decide +kernel
theorem dL_law_973 : decode cL_law 973 = .ok (.iaload, 1) := by decide +kernel
theorem dL_law_974 : decode cL_law 974 = .ok (.aload_n 0, 1) := by decide +kernel
theorem dL_law_975 : decode cL_law 975 = .ok (.iload_n 3, 1) := by decide +kernel
theorem dL_law_976 : decode cL_law 976 = .ok (.iconst 2, 1) := by decide +kernel
theorem dL_law_977 : decode cL_law 977 = .ok (.iadd, 1) := by decide +kernel
theorem dL_law_978 : decode cL_law 978 = .ok (.iaload, 1) := by decide +kernel
theorem dL_law_979 : decode cL_law 979 = .ok (.aload_n 0, 1) := by decide +kernel
theorem dL_law_980 : decode cL_law 980 = .ok (.iload_n 3, 1) := by decide +kernel
theorem dL_law_981 : decode cL_law 981 = .ok (.iconst 3, 1) := by decide +kernel
theorem dL_law_982 : decode cL_law 982 = .ok (.iadd, 1) := by decide +kernel
theorem dL_law_983 : decode cL_law 983 = .ok (.iaload, 1) := by decide +kernel
theorem dL_law_984 : decode cL_law 984 = .ok (.invokevirtual 101, 3) := by decide +kernel
theorem dL_law_987 : decode cL_law 987 = .ok (.if_icmp .eq 393, 3) := by decide +kernel
theorem dL_law_990 : decode cL_law 990 = .ok (.iconst 0, 1) := by decide +kernel
theorem dL_law_991 : decode cL_law 991 = .ok (.ireturn, 1) := by decide +kernel
theorem dL_law_992 : decode cL_law 992 = .ok (.aload_n 1, 1) := by decide +kernel
theorem dL_law_993 : decode cL_law 993 = .ok (.aload_n 0, 1) := by decide +kernel
theorem dL_law_994 : decode cL_law 994 = .ok (.iload_n 3, 1) := by decide +kernel
theorem dL_law_995 : decode cL_law 995 = .ok (.iconst 1, 1) := by decide +kernel
theorem dL_law_996 : decode cL_law 996 = .ok (.iadd, 1) := by decide +kernel
theorem dL_law_997 : decode cL_law 997 = .ok (.iaload, 1) := by decide +kernel
theorem dL_law_998 : decode cL_law 998 = .ok (.aload_n 0, 1) := by decide +kernel
theorem dL_law_999 : decode cL_law 999 = .ok (.iload_n 3, 1) := by decide +kernel
theorem dL_law_1000 : decode cL_law 1000 = .ok (.iconst 2, 1) := by decide +kernel
theorem dL_law_1001 : decode cL_law 1001 = .ok (.iadd, 1) := by decide +kernel
theorem dL_law_1002 : decode cL_law 1002 = .ok (.iaload, 1) := by decide +kernel
theorem dL_law_1003 : decode cL_law 1003 = .ok (.aload_n 0, 1) := by decide +kernel
theorem dL_law_1004 : decode cL_law 1004 = .ok (.iload_n 3, 1) := by decide +kernel
theorem dL_law_1005 : decode cL_law 1005 = .ok (.iconst 3, 1) := by decide +kernel
theorem dL_law_1006 : decode cL_law 1006 = .ok (.iadd, 1) := by decide +kernel
theorem dL_law_1007 : decode cL_law 1007 = .ok (.iaload, 1) := by decide +kernel
theorem dL_law_1008 : decode cL_law 1008 = .ok (.invokevirtual 102, 3) := by decide +kernel
theorem dL_law_1011 : decode cL_law 1011 = .ok (.aload_n 2, 1) := by decide +kernel
theorem dL_law_1012 : decode cL_law 1012 = .ok (.aload_n 0, 1) := by decide +kernel
theorem dL_law_1013 : decode cL_law 1013 = .ok (.iload_n 3, 1) := by decide +kernel
theorem dL_law_1014 : decode cL_law 1014 = .ok (.iconst 1, 1) := by decide +kernel
theorem dL_law_1015 : decode cL_law 1015 = .ok (.iadd, 1) := by decide +kernel
theorem dL_law_1016 : decode cL_law 1016 = .ok (.iaload, 1) := by decide +kernel
theorem dL_law_1017 : decode cL_law 1017 = .ok (.aload_n 0, 1) := by decide +kernel
theorem dL_law_1018 : decode cL_law 1018 = .ok (.iload_n 3, 1) := by decide +kernel
theorem dL_law_1019 : decode cL_law 1019 = .ok (.iconst 2, 1) := by decide +kernel
theorem dL_law_1020 : decode cL_law 1020 = .ok (.iadd, 1) := by decide +kernel
theorem dL_law_1021 : decode cL_law 1021 = .ok (.iaload, 1) := by decide +kernel
theorem dL_law_1022 : decode cL_law 1022 = .ok (.aload_n 0, 1) := by decide +kernel
theorem dL_law_1023 : decode cL_law 1023 = .ok (.iload_n 3, 1) := by decide +kernel
theorem dL_law_1024 : decode cL_law 1024 = .ok (.iconst 3, 1) := by decide +kernel
theorem dL_law_1025 : decode cL_law 1025 = .ok (.iadd, 1) := by decide +kernel
theorem dL_law_1026 : decode cL_law 1026 = .ok (.iaload, 1) := by decide +kernel
theorem dL_law_1027 : decode cL_law 1027 = .ok (.invokevirtual 105, 3) := by decide +kernel
theorem dL_law_1030 : decode cL_law 1030 = .ok (.if_icmp .eq 350, 3) := by decide +kernel
theorem dL_law_1033 : decode cL_law 1033 = .ok (.iconst 0, 1) := by decide +kernel
theorem dL_law_1034 : decode cL_law 1034 = .ok (.ireturn, 1) := by decide +kernel
theorem dL_law_1035 : decode cL_law 1035 = .ok (.aload_n 1, 1) := by decide +kernel
theorem dL_law_1036 : decode cL_law 1036 = .ok (.aload_n 0, 1) := by decide +kernel
theorem dL_law_1037 : decode cL_law 1037 = .ok (.iload_n 3, 1) := by decide +kernel
theorem dL_law_1038 : decode cL_law 1038 = .ok (.iconst 1, 1) := by decide +kernel
theorem dL_law_1039 : decode cL_law 1039 = .ok (.iadd, 1) := by decide +kernel
theorem dL_law_1040 : decode cL_law 1040 = .ok (.iaload, 1) := by decide +kernel
theorem dL_law_1041 : decode cL_law 1041 = .ok (.aload_n 0, 1) := by decide +kernel
theorem dL_law_1042 : decode cL_law 1042 = .ok (.iload_n 3, 1) := by decide +kernel
theorem dL_law_1043 : decode cL_law 1043 = .ok (.iconst 2, 1) := by decide +kernel
theorem dL_law_1044 : decode cL_law 1044 = .ok (.iadd, 1) := by decide +kernel
theorem dL_law_1045 : decode cL_law 1045 = .ok (.iaload, 1) := by decide +kernel
theorem dL_law_1046 : decode cL_law 1046 = .ok (.aload_n 0, 1) := by decide +kernel
theorem dL_law_1047 : decode cL_law 1047 = .ok (.iload_n 3, 1) := by decide +kernel
theorem dL_law_1048 : decode cL_law 1048 = .ok (.iconst 3, 1) := by decide +kernel
theorem dL_law_1049 : decode cL_law 1049 = .ok (.iadd, 1) := by decide +kernel
theorem dL_law_1050 : decode cL_law 1050 = .ok (.iaload, 1) := by decide +kernel
theorem dL_law_1051 : decode cL_law 1051 = .ok (.invokevirtual 106, 3) := by decide +kernel
theorem dL_law_1054 : decode cL_law 1054 = .ok (.aload_n 2, 1) := by decide +kernel
theorem dL_law_1055 : decode cL_law 1055 = .ok (.aload_n 0, 1) := by decide +kernel
theorem dL_law_1056 : decode cL_law 1056 = .ok (.iload_n 3, 1) := by decide +kernel
theorem dL_law_1057 : decode cL_law 1057 = .ok (.iconst 1, 1) := by decide +kernel
theorem dL_law_1058 : decode cL_law 1058 = .ok (.iadd, 1) := by decide +kernel
theorem dL_law_1059 : decode cL_law 1059 = .ok (.iaload, 1) := by decide +kernel
theorem dL_law_1060 : decode cL_law 1060 = .ok (.aload_n 0, 1) := by decide +kernel
theorem dL_law_1061 : decode cL_law 1061 = .ok (.iload_n 3, 1) := by decide +kernel
theorem dL_law_1062 : decode cL_law 1062 = .ok (.iconst 2, 1) := by decide +kernel
theorem dL_law_1063 : decode cL_law 1063 = .ok (.iadd, 1) := by decide +kernel
theorem dL_law_1064 : decode cL_law 1064 = .ok (.iaload, 1) := by decide +kernel
theorem dL_law_1065 : decode cL_law 1065 = .ok (.aload_n 0, 1) := by decide +kernel
theorem dL_law_1066 : decode cL_law 1066 = .ok (.iload_n 3, 1) := by decide +kernel
theorem dL_law_1067 : decode cL_law 1067 = .ok (.iconst 3, 1) := by decide +kernel
theorem dL_law_1068 : decode cL_law 1068 = .ok (.iadd, 1) := by decide +kernel
theorem dL_law_1069 : decode cL_law 1069 = .ok (.iaload, 1) := by decide +kernel
theorem dL_law_1070 : decode cL_law 1070 = .ok (.invokevirtual 109, 3) := by decide +kernel
theorem dL_law_1073 : decode cL_law 1073 = .ok (.if_icmp .eq 307, 3) := by decide +kernel
theorem dL_law_1076 : decode cL_law 1076 = .ok (.iconst 0, 1) := by decide +kernel
theorem dL_law_1077 : decode cL_law 1077 = .ok (.ireturn, 1) := by decide +kernel
theorem dL_law_1078 : decode cL_law 1078 = .ok (.aload_n 1, 1) := by decide +kernel
theorem dL_law_1079 : decode cL_law 1079 = .ok (.aload_n 0, 1) := by decide +kernel
theorem dL_law_1080 : decode cL_law 1080 = .ok (.iload_n 3, 1) := by decide +kernel
theorem dL_law_1081 : decode cL_law 1081 = .ok (.iconst 1, 1) := by decide +kernel
theorem dL_law_1082 : decode cL_law 1082 = .ok (.iadd, 1) := by decide +kernel
theorem dL_law_1083 : decode cL_law 1083 = .ok (.iaload, 1) := by decide +kernel
theorem dL_law_1084 : decode cL_law 1084 = .ok (.aload_n 0, 1) := by decide +kernel
theorem dL_law_1085 : decode cL_law 1085 = .ok (.iload_n 3, 1) := by decide +kernel
theorem dL_law_1086 : decode cL_law 1086 = .ok (.iconst 2, 1) := by decide +kernel
theorem dL_law_1087 : decode cL_law 1087 = .ok (.iadd, 1) := by decide +kernel
theorem dL_law_1088 : decode cL_law 1088 = .ok (.iaload, 1) := by decide +kernel
theorem dL_law_1089 : decode cL_law 1089 = .ok (.invokevirtual 110, 3) := by decide +kernel
theorem dL_law_1092 : decode cL_law 1092 = .ok (.aload_n 2, 1) := by decide +kernel
theorem dL_law_1093 : decode cL_law 1093 = .ok (.aload_n 0, 1) := by decide +kernel
theorem dL_law_1094 : decode cL_law 1094 = .ok (.iload_n 3, 1) := by decide +kernel
theorem dL_law_1095 : decode cL_law 1095 = .ok (.iconst 1, 1) := by decide +kernel
theorem dL_law_1096 : decode cL_law 1096 = .ok (.iadd, 1) := by decide +kernel
theorem dL_law_1097 : decode cL_law 1097 = .ok (.iaload, 1) := by decide +kernel
theorem dL_law_1098 : decode cL_law 1098 = .ok (.aload_n 0, 1) := by decide +kernel
theorem dL_law_1099 : decode cL_law 1099 = .ok (.iload_n 3, 1) := by decide +kernel
theorem dL_law_1100 : decode cL_law 1100 = .ok (.iconst 2, 1) := by decide +kernel
theorem dL_law_1101 : decode cL_law 1101 = .ok (.iadd, 1) := by decide +kernel
theorem dL_law_1102 : decode cL_law 1102 = .ok (.iaload, 1) := by decide +kernel
theorem dL_law_1103 : decode cL_law 1103 = .ok (.invokevirtual 113, 3) := by decide +kernel
theorem dL_law_1106 : decode cL_law 1106 = .ok (.if_icmp .eq 274, 3) := by decide +kernel
theorem dL_law_1109 : decode cL_law 1109 = .ok (.iconst 0, 1) := by decide +kernel
theorem dL_law_1110 : decode cL_law 1110 = .ok (.ireturn, 1) := by decide +kernel
theorem dL_law_1111 : decode cL_law 1111 = .ok (.aload_n 1, 1) := by decide +kernel
theorem dL_law_1112 : decode cL_law 1112 = .ok (.aload_n 0, 1) := by decide +kernel
theorem dL_law_1113 : decode cL_law 1113 = .ok (.iload_n 3, 1) := by decide +kernel
theorem dL_law_1114 : decode cL_law 1114 = .ok (.iconst 1, 1) := by decide +kernel
theorem dL_law_1115 : decode cL_law 1115 = .ok (.iadd, 1) := by decide +kernel
theorem dL_law_1116 : decode cL_law 1116 = .ok (.iaload, 1) := by decide +kernel
theorem dL_law_1117 : decode cL_law 1117 = .ok (.aload_n 0, 1) := by decide +kernel
theorem dL_law_1118 : decode cL_law 1118 = .ok (.iload_n 3, 1) := by decide +kernel
theorem dL_law_1119 : decode cL_law 1119 = .ok (.iconst 2, 1) := by decide +kernel
theorem dL_law_1120 : decode cL_law 1120 = .ok (.iadd, 1) := by decide +kernel
theorem dL_law_1121 : decode cL_law 1121 = .ok (.iaload, 1) := by decide +kernel
theorem dL_law_1122 : decode cL_law 1122 = .ok (.aload_n 0, 1) := by decide +kernel
theorem dL_law_1123 : decode cL_law 1123 = .ok (.iload_n 3, 1) := by decide +kernel
theorem dL_law_1124 : decode cL_law 1124 = .ok (.iconst 3, 1) := by decide +kernel
theorem dL_law_1125 : decode cL_law 1125 = .ok (.iadd, 1) := by decide +kernel
theorem dL_law_1126 : decode cL_law 1126 = .ok (.iaload, 1) := by decide +kernel
theorem dL_law_1127 : decode cL_law 1127 = .ok (.invokevirtual 114, 3) := by decide +kernel
theorem dL_law_1130 : decode cL_law 1130 = .ok (.aload_n 2, 1) := by decide +kernel
theorem dL_law_1131 : decode cL_law 1131 = .ok (.aload_n 0, 1) := by decide +kernel
theorem dL_law_1132 : decode cL_law 1132 = .ok (.iload_n 3, 1) := by decide +kernel
theorem dL_law_1133 : decode cL_law 1133 = .ok (.iconst 1, 1) := by decide +kernel
theorem dL_law_1134 : decode cL_law 1134 = .ok (.iadd, 1) := by decide +kernel
theorem dL_law_1135 : decode cL_law 1135 = .ok (.iaload, 1) := by decide +kernel
theorem dL_law_1136 : decode cL_law 1136 = .ok (.aload_n 0, 1) := by decide +kernel
theorem dL_law_1137 : decode cL_law 1137 = .ok (.iload_n 3, 1) := by decide +kernel
theorem dL_law_1138 : decode cL_law 1138 = .ok (.iconst 2, 1) := by decide +kernel
theorem dL_law_1139 : decode cL_law 1139 = .ok (.iadd, 1) := by decide +kernel
theorem dL_law_1140 : decode cL_law 1140 = .ok (.iaload, 1) := by decide +kernel
theorem dL_law_1141 : decode cL_law 1141 = .ok (.aload_n 0, 1) := by decide +kernel
theorem dL_law_1142 : decode cL_law 1142 = .ok (.iload_n 3, 1) := by decide +kernel
theorem dL_law_1143 : decode cL_law 1143 = .ok (.iconst 3, 1) := by decide +kernel
theorem dL_law_1144 : decode cL_law 1144 = .ok (.iadd, 1) := by decide +kernel
theorem dL_law_1145 : decode cL_law 1145 = .ok (.iaload, 1) := by decide +kernel
theorem dL_law_1146 : decode cL_law 1146 = .ok (.invokevirtual 117, 3) := by decide +kernel
theorem dL_law_1149 : decode cL_law 1149 = .ok (.if_icmp .eq 231, 3) := by decide +kernel
theorem dL_law_1152 : decode cL_law 1152 = .ok (.iconst 0, 1) := by decide +kernel
theorem dL_law_1153 : decode cL_law 1153 = .ok (.ireturn, 1) := by decide +kernel
theorem dL_law_1154 : decode cL_law 1154 = .ok (.aload_n 1, 1) := by decide +kernel
theorem dL_law_1155 : decode cL_law 1155 = .ok (.invokevirtual 118, 3) := by decide +kernel
theorem dL_law_1158 : decode cL_law 1158 = .ok (.aload_n 2, 1) := by decide +kernel
theorem dL_law_1159 : decode cL_law 1159 = .ok (.invokevirtual 122, 3) := by decide +kernel
theorem dL_law_1162 : decode cL_law 1162 = .ok (.if_icmp .eq 218, 3) := by decide +kernel
theorem dL_law_1165 : decode cL_law 1165 = .ok (.iconst 0, 1) := by decide +kernel
theorem dL_law_1166 : decode cL_law 1166 = .ok (.ireturn, 1) := by decide +kernel
theorem dL_law_1167 : decode cL_law 1167 = .ok (.aload_n 1, 1) := by decide +kernel
theorem dL_law_1168 : decode cL_law 1168 = .ok (.aload_n 0, 1) := by decide +kernel
theorem dL_law_1169 : decode cL_law 1169 = .ok (.iload_n 3, 1) := by decide +kernel
theorem dL_law_1170 : decode cL_law 1170 = .ok (.iconst 1, 1) := by decide +kernel
theorem dL_law_1171 : decode cL_law 1171 = .ok (.iadd, 1) := by decide +kernel
theorem dL_law_1172 : decode cL_law 1172 = .ok (.iaload, 1) := by decide +kernel
theorem dL_law_1173 : decode cL_law 1173 = .ok (.invokevirtual 123, 3) := by decide +kernel
theorem dL_law_1176 : decode cL_law 1176 = .ok (.aload_n 2, 1) := by decide +kernel
theorem dL_law_1177 : decode cL_law 1177 = .ok (.aload_n 0, 1) := by decide +kernel
theorem dL_law_1178 : decode cL_law 1178 = .ok (.iload_n 3, 1) := by decide +kernel
theorem dL_law_1179 : decode cL_law 1179 = .ok (.iconst 1, 1) := by decide +kernel
theorem dL_law_1180 : decode cL_law 1180 = .ok (.iadd, 1) := by decide +kernel
theorem dL_law_1181 : decode cL_law 1181 = .ok (.iaload, 1) := by decide +kernel
theorem dL_law_1182 : decode cL_law 1182 = .ok (.invokevirtual 126, 3) := by decide +kernel
theorem dL_law_1185 : decode cL_law 1185 = .ok (.if_icmp .eq 195, 3) := by decide +kernel
theorem dL_law_1188 : decode cL_law 1188 = .ok (.iconst 0, 1) := by decide +kernel
theorem dL_law_1189 : decode cL_law 1189 = .ok (.ireturn, 1) := by decide +kernel
theorem dL_law_1190 : decode cL_law 1190 = .ok (.aload_n 1, 1) := by decide +kernel
theorem dL_law_1191 : decode cL_law 1191 = .ok (.aload_n 0, 1) := by decide +kernel
theorem dL_law_1192 : decode cL_law 1192 = .ok (.iload_n 3, 1) := by decide +kernel
theorem dL_law_1193 : decode cL_law 1193 = .ok (.iconst 1, 1) := by decide +kernel
theorem dL_law_1194 : decode cL_law 1194 = .ok (.iadd, 1) := by decide +kernel
theorem dL_law_1195 : decode cL_law 1195 = .ok (.iaload, 1) := by decide +kernel
theorem dL_law_1196 : decode cL_law 1196 = .ok (.aload_n 0, 1) := by decide +kernel
theorem dL_law_1197 : decode cL_law 1197 = .ok (.iload_n 3, 1) := by decide +kernel
theorem dL_law_1198 : decode cL_law 1198 = .ok (.iconst 2, 1) := by decide +kernel
theorem dL_law_1199 : decode cL_law 1199 = .ok (.iadd, 1) := by decide +kernel
theorem dL_law_1200 : decode cL_law 1200 = .ok (.iaload, 1) := by decide +kernel
theorem dL_law_1201 : decode cL_law 1201 = .ok (.invokevirtual 127, 3) := by decide +kernel
theorem dL_law_1204 : decode cL_law 1204 = .ok (.aload_n 2, 1) := by decide +kernel
theorem dL_law_1205 : decode cL_law 1205 = .ok (.aload_n 0, 1) := by decide +kernel
theorem dL_law_1206 : decode cL_law 1206 = .ok (.iload_n 3, 1) := by decide +kernel
theorem dL_law_1207 : decode cL_law 1207 = .ok (.iconst 1, 1) := by decide +kernel
theorem dL_law_1208 : decode cL_law 1208 = .ok (.iadd, 1) := by decide +kernel
theorem dL_law_1209 : decode cL_law 1209 = .ok (.iaload, 1) := by decide +kernel
theorem dL_law_1210 : decode cL_law 1210 = .ok (.aload_n 0, 1) := by decide +kernel
theorem dL_law_1211 : decode cL_law 1211 = .ok (.iload_n 3, 1) := by decide +kernel
theorem dL_law_1212 : decode cL_law 1212 = .ok (.iconst 2, 1) := by decide +kernel
theorem dL_law_1213 : decode cL_law 1213 = .ok (.iadd, 1) := by decide +kernel
theorem dL_law_1214 : decode cL_law 1214 = .ok (.iaload, 1) := by decide +kernel
theorem dL_law_1215 : decode cL_law 1215 = .ok (.invokevirtual 131, 3) := by decide +kernel
theorem dL_law_1218 : decode cL_law 1218 = .ok (.lcmp, 1) := by decide +kernel
theorem dL_law_1219 : decode cL_law 1219 = .ok (.ifCond .eq 161, 3) := by decide +kernel
theorem dL_law_1222 : decode cL_law 1222 = .ok (.iconst 0, 1) := by decide +kernel
theorem dL_law_1223 : decode cL_law 1223 = .ok (.ireturn, 1) := by decide +kernel
theorem dL_law_1224 : decode cL_law 1224 = .ok (.aload_n 1, 1) := by decide +kernel
theorem dL_law_1225 : decode cL_law 1225 = .ok (.aload_n 0, 1) := by decide +kernel
theorem dL_law_1226 : decode cL_law 1226 = .ok (.iload_n 3, 1) := by decide +kernel
theorem dL_law_1227 : decode cL_law 1227 = .ok (.iconst 1, 1) := by decide +kernel
theorem dL_law_1228 : decode cL_law 1228 = .ok (.iadd, 1) := by decide +kernel
theorem dL_law_1229 : decode cL_law 1229 = .ok (.iaload, 1) := by decide +kernel
theorem dL_law_1230 : decode cL_law 1230 = .ok (.aload_n 0, 1) := by decide +kernel
theorem dL_law_1231 : decode cL_law 1231 = .ok (.iload_n 3, 1) := by decide +kernel
theorem dL_law_1232 : decode cL_law 1232 = .ok (.iconst 2, 1) := by decide +kernel
theorem dL_law_1233 : decode cL_law 1233 = .ok (.iadd, 1) := by decide +kernel
theorem dL_law_1234 : decode cL_law 1234 = .ok (.iaload, 1) := by decide +kernel
theorem dL_law_1235 : decode cL_law 1235 = .ok (.invokevirtual 132, 3) := by decide +kernel
theorem dL_law_1238 : decode cL_law 1238 = .ok (.aload_n 2, 1) := by decide +kernel
theorem dL_law_1239 : decode cL_law 1239 = .ok (.aload_n 0, 1) := by decide +kernel
theorem dL_law_1240 : decode cL_law 1240 = .ok (.iload_n 3, 1) := by decide +kernel
theorem dL_law_1241 : decode cL_law 1241 = .ok (.iconst 1, 1) := by decide +kernel
theorem dL_law_1242 : decode cL_law 1242 = .ok (.iadd, 1) := by decide +kernel
theorem dL_law_1243 : decode cL_law 1243 = .ok (.iaload, 1) := by decide +kernel
theorem dL_law_1244 : decode cL_law 1244 = .ok (.aload_n 0, 1) := by decide +kernel
theorem dL_law_1245 : decode cL_law 1245 = .ok (.iload_n 3, 1) := by decide +kernel
theorem dL_law_1246 : decode cL_law 1246 = .ok (.iconst 2, 1) := by decide +kernel
theorem dL_law_1247 : decode cL_law 1247 = .ok (.iadd, 1) := by decide +kernel
theorem dL_law_1248 : decode cL_law 1248 = .ok (.iaload, 1) := by decide +kernel
theorem dL_law_1249 : decode cL_law 1249 = .ok (.invokevirtual 135, 3) := by decide +kernel
theorem dL_law_1252 : decode cL_law 1252 = .ok (.if_icmp .eq 128, 3) := by decide +kernel
theorem dL_law_1255 : decode cL_law 1255 = .ok (.iconst 0, 1) := by decide +kernel
theorem dL_law_1256 : decode cL_law 1256 = .ok (.ireturn, 1) := by decide +kernel
theorem dL_law_1257 : decode cL_law 1257 = .ok (.aload_n 1, 1) := by decide +kernel
theorem dL_law_1258 : decode cL_law 1258 = .ok (.aload_n 0, 1) := by decide +kernel
theorem dL_law_1259 : decode cL_law 1259 = .ok (.iload_n 3, 1) := by decide +kernel
theorem dL_law_1260 : decode cL_law 1260 = .ok (.iconst 1, 1) := by decide +kernel
theorem dL_law_1261 : decode cL_law 1261 = .ok (.iadd, 1) := by decide +kernel
theorem dL_law_1262 : decode cL_law 1262 = .ok (.iaload, 1) := by decide +kernel
theorem dL_law_1263 : decode cL_law 1263 = .ok (.aload_n 0, 1) := by decide +kernel
theorem dL_law_1264 : decode cL_law 1264 = .ok (.iload_n 3, 1) := by decide +kernel
theorem dL_law_1265 : decode cL_law 1265 = .ok (.iconst 2, 1) := by decide +kernel
theorem dL_law_1266 : decode cL_law 1266 = .ok (.iadd, 1) := by decide +kernel
theorem dL_law_1267 : decode cL_law 1267 = .ok (.iaload, 1) := by decide +kernel
theorem dL_law_1268 : decode cL_law 1268 = .ok (.aload_n 0, 1) := by decide +kernel
theorem dL_law_1269 : decode cL_law 1269 = .ok (.iload_n 3, 1) := by decide +kernel
theorem dL_law_1270 : decode cL_law 1270 = .ok (.iconst 3, 1) := by decide +kernel
theorem dL_law_1271 : decode cL_law 1271 = .ok (.iadd, 1) := by decide +kernel
theorem dL_law_1272 : decode cL_law 1272 = .ok (.iaload, 1) := by decide +kernel
theorem dL_law_1273 : decode cL_law 1273 = .ok (.invokevirtual 136, 3) := by decide +kernel
theorem dL_law_1276 : decode cL_law 1276 = .ok (.aload_n 2, 1) := by decide +kernel
theorem dL_law_1277 : decode cL_law 1277 = .ok (.aload_n 0, 1) := by decide +kernel
theorem dL_law_1278 : decode cL_law 1278 = .ok (.iload_n 3, 1) := by decide +kernel
theorem dL_law_1279 : decode cL_law 1279 = .ok (.iconst 1, 1) := by decide +kernel
theorem dL_law_1280 : decode cL_law 1280 = .ok (.iadd, 1) := by decide +kernel
theorem dL_law_1281 : decode cL_law 1281 = .ok (.iaload, 1) := by decide +kernel
theorem dL_law_1282 : decode cL_law 1282 = .ok (.aload_n 0, 1) := by decide +kernel
theorem dL_law_1283 : decode cL_law 1283 = .ok (.iload_n 3, 1) := by decide +kernel
theorem dL_law_1284 : decode cL_law 1284 = .ok (.iconst 2, 1) := by decide +kernel
theorem dL_law_1285 : decode cL_law 1285 = .ok (.iadd, 1) := by decide +kernel
theorem dL_law_1286 : decode cL_law 1286 = .ok (.iaload, 1) := by decide +kernel
theorem dL_law_1287 : decode cL_law 1287 = .ok (.aload_n 0, 1) := by decide +kernel
theorem dL_law_1288 : decode cL_law 1288 = .ok (.iload_n 3, 1) := by decide +kernel
theorem dL_law_1289 : decode cL_law 1289 = .ok (.iconst 3, 1) := by decide +kernel
theorem dL_law_1290 : decode cL_law 1290 = .ok (.iadd, 1) := by decide +kernel
theorem dL_law_1291 : decode cL_law 1291 = .ok (.iaload, 1) := by decide +kernel
theorem dL_law_1292 : decode cL_law 1292 = .ok (.invokevirtual 139, 3) := by decide +kernel
theorem dL_law_1295 : decode cL_law 1295 = .ok (.if_icmp .eq 85, 3) := by decide +kernel
theorem dL_law_1298 : decode cL_law 1298 = .ok (.iconst 0, 1) := by decide +kernel
theorem dL_law_1299 : decode cL_law 1299 = .ok (.ireturn, 1) := by decide +kernel
theorem dL_law_1300 : decode cL_law 1300 = .ok (.aload_n 1, 1) := by decide +kernel
theorem dL_law_1301 : decode cL_law 1301 = .ok (.aload_n 0, 1) := by decide +kernel
theorem dL_law_1302 : decode cL_law 1302 = .ok (.iload_n 3, 1) := by decide +kernel
theorem dL_law_1303 : decode cL_law 1303 = .ok (.iconst 1, 1) := by decide +kernel
theorem dL_law_1304 : decode cL_law 1304 = .ok (.iadd, 1) := by decide +kernel
theorem dL_law_1305 : decode cL_law 1305 = .ok (.iaload, 1) := by decide +kernel
theorem dL_law_1306 : decode cL_law 1306 = .ok (.invokevirtual 140, 3) := by decide +kernel
theorem dL_law_1309 : decode cL_law 1309 = .ok (.aload_n 2, 1) := by decide +kernel
theorem dL_law_1310 : decode cL_law 1310 = .ok (.aload_n 0, 1) := by decide +kernel
theorem dL_law_1311 : decode cL_law 1311 = .ok (.iload_n 3, 1) := by decide +kernel
theorem dL_law_1312 : decode cL_law 1312 = .ok (.iconst 1, 1) := by decide +kernel
theorem dL_law_1313 : decode cL_law 1313 = .ok (.iadd, 1) := by decide +kernel
theorem dL_law_1314 : decode cL_law 1314 = .ok (.iaload, 1) := by decide +kernel
theorem dL_law_1315 : decode cL_law 1315 = .ok (.invokevirtual 143, 3) := by decide +kernel
theorem dL_law_1318 : decode cL_law 1318 = .ok (.if_icmp .eq 62, 3) := by decide +kernel
theorem dL_law_1321 : decode cL_law 1321 = .ok (.iconst 0, 1) := by decide +kernel
theorem dL_law_1322 : decode cL_law 1322 = .ok (.ireturn, 1) := by decide +kernel
theorem dL_law_1323 : decode cL_law 1323 = .ok (.aload_n 1, 1) := by decide +kernel
theorem dL_law_1324 : decode cL_law 1324 = .ok (.aload_n 0, 1) := by decide +kernel
theorem dL_law_1325 : decode cL_law 1325 = .ok (.iload_n 3, 1) := by decide +kernel
theorem dL_law_1326 : decode cL_law 1326 = .ok (.iconst 1, 1) := by decide +kernel
theorem dL_law_1327 : decode cL_law 1327 = .ok (.iadd, 1) := by decide +kernel
theorem dL_law_1328 : decode cL_law 1328 = .ok (.iaload, 1) := by decide +kernel
theorem dL_law_1329 : decode cL_law 1329 = .ok (.aload_n 0, 1) := by decide +kernel
theorem dL_law_1330 : decode cL_law 1330 = .ok (.iload_n 3, 1) := by decide +kernel
theorem dL_law_1331 : decode cL_law 1331 = .ok (.iconst 2, 1) := by decide +kernel
theorem dL_law_1332 : decode cL_law 1332 = .ok (.iadd, 1) := by decide +kernel
theorem dL_law_1333 : decode cL_law 1333 = .ok (.iaload, 1) := by decide +kernel
theorem dL_law_1334 : decode cL_law 1334 = .ok (.invokevirtual 144, 3) := by decide +kernel
theorem dL_law_1337 : decode cL_law 1337 = .ok (.aload_n 2, 1) := by decide +kernel
theorem dL_law_1338 : decode cL_law 1338 = .ok (.aload_n 0, 1) := by decide +kernel
theorem dL_law_1339 : decode cL_law 1339 = .ok (.iload_n 3, 1) := by decide +kernel
theorem dL_law_1340 : decode cL_law 1340 = .ok (.iconst 1, 1) := by decide +kernel
theorem dL_law_1341 : decode cL_law 1341 = .ok (.iadd, 1) := by decide +kernel
theorem dL_law_1342 : decode cL_law 1342 = .ok (.iaload, 1) := by decide +kernel
theorem dL_law_1343 : decode cL_law 1343 = .ok (.aload_n 0, 1) := by decide +kernel
theorem dL_law_1344 : decode cL_law 1344 = .ok (.iload_n 3, 1) := by decide +kernel
theorem dL_law_1345 : decode cL_law 1345 = .ok (.iconst 2, 1) := by decide +kernel
theorem dL_law_1346 : decode cL_law 1346 = .ok (.iadd, 1) := by decide +kernel
theorem dL_law_1347 : decode cL_law 1347 = .ok (.iaload, 1) := by decide +kernel
theorem dL_law_1348 : decode cL_law 1348 = .ok (.invokevirtual 147, 3) := by decide +kernel
theorem dL_law_1351 : decode cL_law 1351 = .ok (.lcmp, 1) := by decide +kernel
theorem dL_law_1352 : decode cL_law 1352 = .ok (.ifCond .eq 28, 3) := by decide +kernel
theorem dL_law_1355 : decode cL_law 1355 = .ok (.iconst 0, 1) := by decide +kernel
theorem dL_law_1356 : decode cL_law 1356 = .ok (.ireturn, 1) := by decide +kernel
theorem dL_law_1357 : decode cL_law 1357 = .ok (.aload_n 1, 1) := by decide +kernel
theorem dL_law_1358 : decode cL_law 1358 = .ok (.aload_n 0, 1) := by decide +kernel
theorem dL_law_1359 : decode cL_law 1359 = .ok (.iload_n 3, 1) := by decide +kernel
theorem dL_law_1360 : decode cL_law 1360 = .ok (.iconst 1, 1) := by decide +kernel
theorem dL_law_1361 : decode cL_law 1361 = .ok (.iadd, 1) := by decide +kernel
theorem dL_law_1362 : decode cL_law 1362 = .ok (.iaload, 1) := by decide +kernel
theorem dL_law_1363 : decode cL_law 1363 = .ok (.invokevirtual 148, 3) := by decide +kernel
theorem dL_law_1366 : decode cL_law 1366 = .ok (.aload_n 2, 1) := by decide +kernel
theorem dL_law_1367 : decode cL_law 1367 = .ok (.aload_n 0, 1) := by decide +kernel
theorem dL_law_1368 : decode cL_law 1368 = .ok (.iload_n 3, 1) := by decide +kernel
theorem dL_law_1369 : decode cL_law 1369 = .ok (.iconst 1, 1) := by decide +kernel
theorem dL_law_1370 : decode cL_law 1370 = .ok (.iadd, 1) := by decide +kernel
theorem dL_law_1371 : decode cL_law 1371 = .ok (.iaload, 1) := by decide +kernel
theorem dL_law_1372 : decode cL_law 1372 = .ok (.invokevirtual 151, 3) := by decide +kernel
theorem dL_law_1375 : decode cL_law 1375 = .ok (.if_icmp .eq 5, 3) := by decide +kernel
theorem dL_law_1378 : decode cL_law 1378 = .ok (.iconst 0, 1) := by decide +kernel
theorem dL_law_1379 : decode cL_law 1379 = .ok (.ireturn, 1) := by decide +kernel
theorem dL_law_1380 : decode cL_law 1380 = .ok (.iinc 3 6, 3) := by decide +kernel
theorem dL_law_1383 : decode cL_law 1383 = .ok (.goto (-1365), 3) := by decide +kernel
theorem dL_law_1386 : decode cL_law 1386 = .ok (.iconst 1, 1) := by decide +kernel
theorem dL_law_1387 : decode cL_law 1387 = .ok (.ireturn, 1) := by decide +kernel
set_option maxHeartbeats 4000000 in
set_option maxRecDepth 100000 in
theorem law_0 {p : Program} {l : Launch} {e : Env} {s : State} {m : MethodId} {below : List Frame} {meth : Method} {c : Code} {b L : Nat} {xs : Nat → Int32} {D : va_G} {cy : Nat → ClassId} {aC aM : Nat → Nat} {Q : State → Prop} (C0 : LCx p s m c b L xs D cy aC) {k : Nat} {s0 s1 s2 s3 s4 s5 s6 s7 s8 s9 s10 s11 : OS} (hrel : Rel k s0 s1 s2 s3 s4 s5 s6 s7 s8 s9 s10 s11) (hk : k < 512) (hkL : 6 * k + 6 ≤ L) {H : Heap} {locs : List Loc} {ls : Array Slot} (hw : Wd D ((cellsM aM cy s11) ++ (cellsC aC cy s0 s1 s2 s3 s4 s5 s6 s7 s8 s9 s10)) (fun q => s.heap.size ≤ q) s.heap H locs) (hl : lv_has ls 4 [(3, .int (nI (6 * k))), (2, .ref (aM 0)), (1, .ref (aC 10)), (0, .ref b)])
    (kk : ∀ (s0 s1 s2 s3 s4 s5 s6 s7 s8 s9 s10 s11 : OS) (H : Heap) (locs : List Loc), Rel (k + 1) s0 s1 s2 s3 s4 s5 s6 s7 s8 s9 s10 s11 → Wd D ((cellsM aM cy s11) ++ (cellsC aC cy s0 s1 s2 s3 s4 s5 s6 s7 s8 s9 s10)) (fun q => s.heap.size ≤ q) s.heap H locs → W p l e room_1 s m #[Value.ref b] below meth c H locs 133 47662 Q (F0 m 1380 ls [])) : W p l e room_1 s m #[Value.ref b] below meth c H locs 133 47662 Q (F0 m 176 ls []) := by
  obtain ⟨hx, hb, hml, hown, hts, hK, hX, hbl, hN, haC, hL⟩ := C0
  obtain ⟨rc, rr, hc, hr, heq, hrel2⟩ := st_now hrel hk (xs (6 * k + 1))
  refine lv_aload_n hx hb dL_law_176 rfl (lv_at hl 2 rfl) ?_
  refine lv_aload_n hx hb dL_law_177 rfl (lv_at hl 3 rfl) ?_
  refine lv_iload_n hx hb dL_law_178 rfl (lv_at hl 0 rfl) ?_
  refine lv_iconst (v := 1) hx hb dL_law_179 (by decide) ?_
  refine lv_iadd hx hb dL_law_180 ?_
  refine ldX (i := 6 * k + 1) hx hb hX hbl hw.2.2 (nI_add (6 * k) 1) (by omega) hL dL_law_181 ?_
  have pg_182 := preG (av := [.ref (aC 10), .int (xs (6 * k + 1))]) hK (lastP hw.1) (lastD hw.2.1) (NL_keep hN hw.2.2 haC) NC_blind
  refine lawI (wr := (cellsM aM cy s11)) (va_runV (As := [.int (xs (6 * k + 1))]) (rest := []) ⟨hx, hb, hml, hown, hts⟩ (m10_now l D aC cy H.size s0 s1 s2 s3 s4 s5 s6 s7 s8 s9 s10 (xs (6 * k + 1)) rc hc) (wL_13 hts ⟨Nat.le_of_ble_eq_true rfl, Nat.le_of_ble_eq_true rfl⟩) ⟨pg_182.1, va_recv hK (lastP hw.1) (ci := 10) (q0 := 10) rfl eC_10, pg_182.2⟩ rfl rfl hl.1 rfl (lv_room (Nat.le_of_ble_eq_true rfl)) dL_law_182 ⟨Nat.le_of_ble_eq_true rfl, Nat.le_of_ble_eq_true rfl⟩) hw fstC (fun H locs hw => ?_)
  clear pg_182
  refine lv_aload_n hx hb dL_law_185 rfl (lv_at hl 1 rfl) ?_
  refine lv_aload_n hx hb dL_law_186 rfl (lv_at hl 3 rfl) ?_
  refine lv_iload_n hx hb dL_law_187 rfl (lv_at hl 0 rfl) ?_
  refine lv_iconst (v := 1) hx hb dL_law_188 (by decide) ?_
  refine lv_iadd hx hb dL_law_189 ?_
  refine ldX (i := 6 * k + 1) hx hb hX hbl hw.2.2 (nI_add (6 * k) 1) (by omega) hL dL_law_190 ?_
  have hw := swapW hw
  have pg_191 := preG (av := [.ref (aM 0), .int (xs (6 * k + 1))]) hK (lastP hw.1) (lastD hw.2.1) NM_keep NM_blind
  refine lawI (wr := (cellsC aC cy s0 s1 s2 s3 s4 s5 s6 s7 s8 s9 rc.2)) (va_runV (As := [.int (xs (6 * k + 1))]) (rest := [.int rc.1]) ⟨hx, hb, hml, hown, hts⟩ (m11_now l D aM cy H.size s11 (xs (6 * k + 1)) rr hr) (wL_17 hts ⟨Nat.le_of_ble_eq_true rfl, Nat.le_of_ble_eq_true rfl⟩) ⟨pg_191.1, va_recv hK (lastP hw.1) (ci := 11) (q0 := 0) rfl eM_0, pg_191.2⟩ rfl rfl hl.1 rfl (lv_room (Nat.le_of_ble_eq_true rfl)) dL_law_191 ⟨Nat.le_of_ble_eq_true rfl, Nat.le_of_ble_eq_true rfl⟩) hw fstM (fun H locs hw => ?_)
  clear pg_191
  have hw := swapW hw
  refine lv_icmp_eq (tgt := 1380) hx hb dL_law_194 (by decide) (fun c_194 => ?_) (fun c_194 => ?_)
  · exact kk s0 s1 s2 s3 s4 s5 s6 s7 s8 s9 rc.2 rr.2 H locs hrel2 hw
  · exact absurd heq c_194
set_option maxHeartbeats 4000000 in
set_option maxRecDepth 100000 in
theorem law_1 {p : Program} {l : Launch} {e : Env} {s : State} {m : MethodId} {below : List Frame} {meth : Method} {c : Code} {b L : Nat} {xs : Nat → Int32} {D : va_G} {cy : Nat → ClassId} {aC aM : Nat → Nat} {Q : State → Prop} (C0 : LCx p s m c b L xs D cy aC) {k : Nat} {s0 s1 s2 s3 s4 s5 s6 s7 s8 s9 s10 s11 : OS} (hrel : Rel k s0 s1 s2 s3 s4 s5 s6 s7 s8 s9 s10 s11) (hk : k < 512) (hkL : 6 * k + 6 ≤ L) {H : Heap} {locs : List Loc} {ls : Array Slot} (hw : Wd D ((cellsM aM cy s11) ++ (cellsC aC cy s0 s1 s2 s3 s4 s5 s6 s7 s8 s9 s10)) (fun q => s.heap.size ≤ q) s.heap H locs) (hl : lv_has ls 4 [(3, .int (nI (6 * k))), (2, .ref (aM 0)), (1, .ref (aC 10)), (0, .ref b)])
    (kk : ∀ (s0 s1 s2 s3 s4 s5 s6 s7 s8 s9 s10 s11 : OS) (H : Heap) (locs : List Loc), Rel (k + 1) s0 s1 s2 s3 s4 s5 s6 s7 s8 s9 s10 s11 → Wd D ((cellsM aM cy s11) ++ (cellsC aC cy s0 s1 s2 s3 s4 s5 s6 s7 s8 s9 s10)) (fun q => s.heap.size ≤ q) s.heap H locs → W p l e room_1 s m #[Value.ref b] below meth c H locs 133 47662 Q (F0 m 1380 ls [])) : W p l e room_1 s m #[Value.ref b] below meth c H locs 133 47662 Q (F0 m 199 ls []) := by
  obtain ⟨hx, hb, hml, hown, hts, hK, hX, hbl, hN, haC, hL⟩ := C0
  obtain ⟨rc, rr, hc, hr, heq, hrel2⟩ := st_gas hrel hk (xs (6 * k + 1)) (xs (6 * k + 2))
  refine lv_aload_n hx hb dL_law_199 rfl (lv_at hl 2 rfl) ?_
  refine lv_aload_n hx hb dL_law_200 rfl (lv_at hl 3 rfl) ?_
  refine lv_iload_n hx hb dL_law_201 rfl (lv_at hl 0 rfl) ?_
  refine lv_iconst (v := 1) hx hb dL_law_202 (by decide) ?_
  refine lv_iadd hx hb dL_law_203 ?_
  refine ldX (i := 6 * k + 1) hx hb hX hbl hw.2.2 (nI_add (6 * k) 1) (by omega) hL dL_law_204 ?_
  refine lv_aload_n hx hb dL_law_205 rfl (lv_at hl 3 rfl) ?_
  refine lv_iload_n hx hb dL_law_206 rfl (lv_at hl 0 rfl) ?_
  refine lv_iconst (v := 2) hx hb dL_law_207 (by decide) ?_
  refine lv_iadd hx hb dL_law_208 ?_
  refine ldX (i := 6 * k + 2) hx hb hX hbl hw.2.2 (nI_add (6 * k) 2) (by omega) hL dL_law_209 ?_
  have pg_210 := preG (av := [.ref (aC 10), .int (xs (6 * k + 1)), .int (xs (6 * k + 2))]) hK (lastP hw.1) (lastD hw.2.1) (NL_keep hN hw.2.2 haC) NC_blind
  refine lawI (wr := (cellsM aM cy s11)) (va_runV (As := [.int (xs (6 * k + 1)), .int (xs (6 * k + 2))]) (rest := []) ⟨hx, hb, hml, hown, hts⟩ (m10_gas l D aC cy H.size s0 s1 s2 s3 s4 s5 s6 s7 s8 s9 s10 (xs (6 * k + 1)) (xs (6 * k + 2)) rc hc) (wL_18 hts ⟨Nat.le_of_ble_eq_true rfl, Nat.le_of_ble_eq_true rfl⟩) ⟨pg_210.1, va_recv hK (lastP hw.1) (ci := 10) (q0 := 10) rfl eC_10, pg_210.2⟩ rfl rfl hl.1 rfl (lv_room (Nat.le_of_ble_eq_true rfl)) dL_law_210 ⟨Nat.le_of_ble_eq_true rfl, Nat.le_of_ble_eq_true rfl⟩) hw fstC (fun H locs hw => ?_)
  clear pg_210
  refine lv_aload_n hx hb dL_law_213 rfl (lv_at hl 1 rfl) ?_
  refine lv_aload_n hx hb dL_law_214 rfl (lv_at hl 3 rfl) ?_
  refine lv_iload_n hx hb dL_law_215 rfl (lv_at hl 0 rfl) ?_
  refine lv_iconst (v := 1) hx hb dL_law_216 (by decide) ?_
  refine lv_iadd hx hb dL_law_217 ?_
  refine ldX (i := 6 * k + 1) hx hb hX hbl hw.2.2 (nI_add (6 * k) 1) (by omega) hL dL_law_218 ?_
  refine lv_aload_n hx hb dL_law_219 rfl (lv_at hl 3 rfl) ?_
  refine lv_iload_n hx hb dL_law_220 rfl (lv_at hl 0 rfl) ?_
  refine lv_iconst (v := 2) hx hb dL_law_221 (by decide) ?_
  refine lv_iadd hx hb dL_law_222 ?_
  refine ldX (i := 6 * k + 2) hx hb hX hbl hw.2.2 (nI_add (6 * k) 2) (by omega) hL dL_law_223 ?_
  have hw := swapW hw
  have pg_224 := preG (av := [.ref (aM 0), .int (xs (6 * k + 1)), .int (xs (6 * k + 2))]) hK (lastP hw.1) (lastD hw.2.1) NM_keep NM_blind
  refine lawI (wr := (cellsC aC cy s0 s1 s2 s3 s4 s5 s6 s7 s8 s9 rc.2)) (va_runV (As := [.int (xs (6 * k + 1)), .int (xs (6 * k + 2))]) (rest := [.int rc.1]) ⟨hx, hb, hml, hown, hts⟩ (m11_gas l D aM cy H.size s11 (xs (6 * k + 1)) (xs (6 * k + 2)) rr hr) (wL_22 hts ⟨Nat.le_of_ble_eq_true rfl, Nat.le_of_ble_eq_true rfl⟩) ⟨pg_224.1, va_recv hK (lastP hw.1) (ci := 11) (q0 := 0) rfl eM_0, pg_224.2⟩ rfl rfl hl.1 rfl (lv_room (Nat.le_of_ble_eq_true rfl)) dL_law_224 ⟨Nat.le_of_ble_eq_true rfl, Nat.le_of_ble_eq_true rfl⟩) hw fstM (fun H locs hw => ?_)
  clear pg_224
  have hw := swapW hw
  refine lv_icmp_eq (tgt := 1380) hx hb dL_law_227 (by decide) (fun c_227 => ?_) (fun c_227 => ?_)
  · exact kk s0 s1 s2 s3 s4 s5 s6 s7 s8 s9 rc.2 rr.2 H locs hrel2 hw
  · exact absurd heq c_227
set_option maxHeartbeats 4000000 in
set_option maxRecDepth 100000 in
theorem law_2 {p : Program} {l : Launch} {e : Env} {s : State} {m : MethodId} {below : List Frame} {meth : Method} {c : Code} {b L : Nat} {xs : Nat → Int32} {D : va_G} {cy : Nat → ClassId} {aC aM : Nat → Nat} {Q : State → Prop} (C0 : LCx p s m c b L xs D cy aC) {k : Nat} {s0 s1 s2 s3 s4 s5 s6 s7 s8 s9 s10 s11 : OS} (hrel : Rel k s0 s1 s2 s3 s4 s5 s6 s7 s8 s9 s10 s11) (hk : k < 512) (hkL : 6 * k + 6 ≤ L) {H : Heap} {locs : List Loc} {ls : Array Slot} (hw : Wd D ((cellsM aM cy s11) ++ (cellsC aC cy s0 s1 s2 s3 s4 s5 s6 s7 s8 s9 s10)) (fun q => s.heap.size ≤ q) s.heap H locs) (hl : lv_has ls 4 [(3, .int (nI (6 * k))), (2, .ref (aM 0)), (1, .ref (aC 10)), (0, .ref b)])
    (kk : ∀ (s0 s1 s2 s3 s4 s5 s6 s7 s8 s9 s10 s11 : OS) (H : Heap) (locs : List Loc), Rel (k + 1) s0 s1 s2 s3 s4 s5 s6 s7 s8 s9 s10 s11 → Wd D ((cellsM aM cy s11) ++ (cellsC aC cy s0 s1 s2 s3 s4 s5 s6 s7 s8 s9 s10)) (fun q => s.heap.size ≤ q) s.heap H locs → W p l e room_1 s m #[Value.ref b] below meth c H locs 133 47662 Q (F0 m 1380 ls [])) : W p l e room_1 s m #[Value.ref b] below meth c H locs 133 47662 Q (F0 m 232 ls []) := by
  obtain ⟨hx, hb, hml, hown, hts, hK, hX, hbl, hN, haC, hL⟩ := C0
  by_cases hz : xs (6 * k + 5) = 0
  · obtain ⟨rc, rr, hc, hr, heq, hrel2⟩ := st_stone hrel hk (xs (6 * k + 1)) (xs (6 * k + 2)) (xs (6 * k + 3)) (xs (6 * k + 4)) (0 : Int32) (Or.inl rfl)
    refine lv_aload_n hx hb dL_law_232 rfl (lv_at hl 2 rfl) ?_
    refine lv_aload_n hx hb dL_law_233 rfl (lv_at hl 3 rfl) ?_
    refine lv_iload_n hx hb dL_law_234 rfl (lv_at hl 0 rfl) ?_
    refine lv_iconst (v := 1) hx hb dL_law_235 (by decide) ?_
    refine lv_iadd hx hb dL_law_236 ?_
    refine ldX (i := 6 * k + 1) hx hb hX hbl hw.2.2 (nI_add (6 * k) 1) (by omega) hL dL_law_237 ?_
    refine lv_aload_n hx hb dL_law_238 rfl (lv_at hl 3 rfl) ?_
    refine lv_iload_n hx hb dL_law_239 rfl (lv_at hl 0 rfl) ?_
    refine lv_iconst (v := 2) hx hb dL_law_240 (by decide) ?_
    refine lv_iadd hx hb dL_law_241 ?_
    refine ldX (i := 6 * k + 2) hx hb hX hbl hw.2.2 (nI_add (6 * k) 2) (by omega) hL dL_law_242 ?_
    refine lv_aload_n hx hb dL_law_243 rfl (lv_at hl 3 rfl) ?_
    refine lv_iload_n hx hb dL_law_244 rfl (lv_at hl 0 rfl) ?_
    refine lv_iconst (v := 3) hx hb dL_law_245 (by decide) ?_
    refine lv_iadd hx hb dL_law_246 ?_
    refine ldX (i := 6 * k + 3) hx hb hX hbl hw.2.2 (nI_add (6 * k) 3) (by omega) hL dL_law_247 ?_
    refine lv_aload_n hx hb dL_law_248 rfl (lv_at hl 3 rfl) ?_
    refine lv_iload_n hx hb dL_law_249 rfl (lv_at hl 0 rfl) ?_
    refine lv_iconst (v := 4) hx hb dL_law_250 (by decide) ?_
    refine lv_iadd hx hb dL_law_251 ?_
    refine ldX (i := 6 * k + 4) hx hb hX hbl hw.2.2 (nI_add (6 * k) 4) (by omega) hL dL_law_252 ?_
    refine lv_aload_n hx hb dL_law_253 rfl (lv_at hl 3 rfl) ?_
    refine lv_iload_n hx hb dL_law_254 rfl (lv_at hl 0 rfl) ?_
    refine lv_iconst (v := 5) hx hb dL_law_255 (by decide) ?_
    refine lv_iadd hx hb dL_law_256 ?_
    refine ldX (i := 6 * k + 5) hx hb hX hbl hw.2.2 (nI_add (6 * k) 5) (by omega) hL dL_law_257 ?_
    refine lv_if_eq (tgt := 265) hx hb dL_law_258 (by decide) (fun c_258 => ?_) (fun c_258 => ?_)
    rotate_left
    · exact absurd hz c_258
    refine lv_iconst (v := 0) hx hb dL_law_265 (by decide) ?_
    have pg_266 := preG (av := [.ref (aC 10), .int (xs (6 * k + 1)), .int (xs (6 * k + 2)), .int (xs (6 * k + 3)), .int (xs (6 * k + 4)), .int (0 : Int32)]) hK (lastP hw.1) (lastD hw.2.1) (NL_keep hN hw.2.2 haC) NC_blind
    refine lawI (wr := (cellsM aM cy s11)) (va_runV (As := [.int (xs (6 * k + 1)), .int (xs (6 * k + 2)), .int (xs (6 * k + 3)), .int (xs (6 * k + 4)), .int (0 : Int32)]) (rest := []) ⟨hx, hb, hml, hown, hts⟩ (m10_stone l D aC cy H.size s0 s1 s2 s3 s4 s5 s6 s7 s8 s9 s10 (xs (6 * k + 1)) (xs (6 * k + 2)) (xs (6 * k + 3)) (xs (6 * k + 4)) (0 : Int32) rc hc) (wL_23 hts ⟨Nat.le_of_ble_eq_true rfl, Nat.le_of_ble_eq_true rfl⟩) ⟨pg_266.1, va_recv hK (lastP hw.1) (ci := 10) (q0 := 10) rfl eC_10, pg_266.2⟩ rfl rfl hl.1 rfl (lv_room (Nat.le_of_ble_eq_true rfl)) dL_law_266 ⟨Nat.le_of_ble_eq_true rfl, Nat.le_of_ble_eq_true rfl⟩) hw fstC (fun H locs hw => ?_)
    clear pg_266
    refine lv_aload_n hx hb dL_law_269 rfl (lv_at hl 1 rfl) ?_
    refine lv_aload_n hx hb dL_law_270 rfl (lv_at hl 3 rfl) ?_
    refine lv_iload_n hx hb dL_law_271 rfl (lv_at hl 0 rfl) ?_
    refine lv_iconst (v := 1) hx hb dL_law_272 (by decide) ?_
    refine lv_iadd hx hb dL_law_273 ?_
    refine ldX (i := 6 * k + 1) hx hb hX hbl hw.2.2 (nI_add (6 * k) 1) (by omega) hL dL_law_274 ?_
    refine lv_aload_n hx hb dL_law_275 rfl (lv_at hl 3 rfl) ?_
    refine lv_iload_n hx hb dL_law_276 rfl (lv_at hl 0 rfl) ?_
    refine lv_iconst (v := 2) hx hb dL_law_277 (by decide) ?_
    refine lv_iadd hx hb dL_law_278 ?_
    refine ldX (i := 6 * k + 2) hx hb hX hbl hw.2.2 (nI_add (6 * k) 2) (by omega) hL dL_law_279 ?_
    refine lv_aload_n hx hb dL_law_280 rfl (lv_at hl 3 rfl) ?_
    refine lv_iload_n hx hb dL_law_281 rfl (lv_at hl 0 rfl) ?_
    refine lv_iconst (v := 3) hx hb dL_law_282 (by decide) ?_
    refine lv_iadd hx hb dL_law_283 ?_
    refine ldX (i := 6 * k + 3) hx hb hX hbl hw.2.2 (nI_add (6 * k) 3) (by omega) hL dL_law_284 ?_
    refine lv_aload_n hx hb dL_law_285 rfl (lv_at hl 3 rfl) ?_
    refine lv_iload_n hx hb dL_law_286 rfl (lv_at hl 0 rfl) ?_
    refine lv_iconst (v := 4) hx hb dL_law_287 (by decide) ?_
    refine lv_iadd hx hb dL_law_288 ?_
    refine ldX (i := 6 * k + 4) hx hb hX hbl hw.2.2 (nI_add (6 * k) 4) (by omega) hL dL_law_289 ?_
    refine lv_aload_n hx hb dL_law_290 rfl (lv_at hl 3 rfl) ?_
    refine lv_iload_n hx hb dL_law_291 rfl (lv_at hl 0 rfl) ?_
    refine lv_iconst (v := 5) hx hb dL_law_292 (by decide) ?_
    refine lv_iadd hx hb dL_law_293 ?_
    refine ldX (i := 6 * k + 5) hx hb hX hbl hw.2.2 (nI_add (6 * k) 5) (by omega) hL dL_law_294 ?_
    refine lv_if_eq (tgt := 302) hx hb dL_law_295 (by decide) (fun c_295 => ?_) (fun c_295 => ?_)
    rotate_left
    · exact absurd hz c_295
    refine lv_iconst (v := 0) hx hb dL_law_302 (by decide) ?_
    have hw := swapW hw
    have pg_303 := preG (av := [.ref (aM 0), .int (xs (6 * k + 1)), .int (xs (6 * k + 2)), .int (xs (6 * k + 3)), .int (xs (6 * k + 4)), .int (0 : Int32)]) hK (lastP hw.1) (lastD hw.2.1) NM_keep NM_blind
    refine lawI (wr := (cellsC aC cy s0 rc.2.1 s2 s3 rc.2.2 s5 s6 s7 s8 s9 s10)) (va_runV (As := [.int (xs (6 * k + 1)), .int (xs (6 * k + 2)), .int (xs (6 * k + 3)), .int (xs (6 * k + 4)), .int (0 : Int32)]) (rest := [.int rc.1]) ⟨hx, hb, hml, hown, hts⟩ (m11_stone l D aM cy H.size s11 (xs (6 * k + 1)) (xs (6 * k + 2)) (xs (6 * k + 3)) (xs (6 * k + 4)) (0 : Int32) rr hr) (wL_27 hts ⟨Nat.le_of_ble_eq_true rfl, Nat.le_of_ble_eq_true rfl⟩) ⟨pg_303.1, va_recv hK (lastP hw.1) (ci := 11) (q0 := 0) rfl eM_0, pg_303.2⟩ rfl rfl hl.1 rfl (lv_room (Nat.le_of_ble_eq_true rfl)) dL_law_303 ⟨Nat.le_of_ble_eq_true rfl, Nat.le_of_ble_eq_true rfl⟩) hw fstM (fun H locs hw => ?_)
    clear pg_303
    have hw := swapW hw
    refine lv_icmp_eq (tgt := 1380) hx hb dL_law_306 (by decide) (fun c_306 => ?_) (fun c_306 => ?_)
    · exact kk s0 rc.2.1 s2 s3 rc.2.2 s5 s6 s7 s8 s9 s10 rr.2 H locs hrel2 hw
    · exact absurd heq c_306
  · obtain ⟨rc, rr, hc, hr, heq, hrel2⟩ := st_stone hrel hk (xs (6 * k + 1)) (xs (6 * k + 2)) (xs (6 * k + 3)) (xs (6 * k + 4)) (1 : Int32) (Or.inr rfl)
    refine lv_aload_n hx hb dL_law_232 rfl (lv_at hl 2 rfl) ?_
    refine lv_aload_n hx hb dL_law_233 rfl (lv_at hl 3 rfl) ?_
    refine lv_iload_n hx hb dL_law_234 rfl (lv_at hl 0 rfl) ?_
    refine lv_iconst (v := 1) hx hb dL_law_235 (by decide) ?_
    refine lv_iadd hx hb dL_law_236 ?_
    refine ldX (i := 6 * k + 1) hx hb hX hbl hw.2.2 (nI_add (6 * k) 1) (by omega) hL dL_law_237 ?_
    refine lv_aload_n hx hb dL_law_238 rfl (lv_at hl 3 rfl) ?_
    refine lv_iload_n hx hb dL_law_239 rfl (lv_at hl 0 rfl) ?_
    refine lv_iconst (v := 2) hx hb dL_law_240 (by decide) ?_
    refine lv_iadd hx hb dL_law_241 ?_
    refine ldX (i := 6 * k + 2) hx hb hX hbl hw.2.2 (nI_add (6 * k) 2) (by omega) hL dL_law_242 ?_
    refine lv_aload_n hx hb dL_law_243 rfl (lv_at hl 3 rfl) ?_
    refine lv_iload_n hx hb dL_law_244 rfl (lv_at hl 0 rfl) ?_
    refine lv_iconst (v := 3) hx hb dL_law_245 (by decide) ?_
    refine lv_iadd hx hb dL_law_246 ?_
    refine ldX (i := 6 * k + 3) hx hb hX hbl hw.2.2 (nI_add (6 * k) 3) (by omega) hL dL_law_247 ?_
    refine lv_aload_n hx hb dL_law_248 rfl (lv_at hl 3 rfl) ?_
    refine lv_iload_n hx hb dL_law_249 rfl (lv_at hl 0 rfl) ?_
    refine lv_iconst (v := 4) hx hb dL_law_250 (by decide) ?_
    refine lv_iadd hx hb dL_law_251 ?_
    refine ldX (i := 6 * k + 4) hx hb hX hbl hw.2.2 (nI_add (6 * k) 4) (by omega) hL dL_law_252 ?_
    refine lv_aload_n hx hb dL_law_253 rfl (lv_at hl 3 rfl) ?_
    refine lv_iload_n hx hb dL_law_254 rfl (lv_at hl 0 rfl) ?_
    refine lv_iconst (v := 5) hx hb dL_law_255 (by decide) ?_
    refine lv_iadd hx hb dL_law_256 ?_
    refine ldX (i := 6 * k + 5) hx hb hX hbl hw.2.2 (nI_add (6 * k) 5) (by omega) hL dL_law_257 ?_
    refine lv_if_eq (tgt := 265) hx hb dL_law_258 (by decide) (fun c_258 => ?_) (fun c_258 => ?_)
    · exact absurd c_258 hz
    refine lv_iconst (v := 1) hx hb dL_law_261 (by decide) ?_
    refine lv_goto (tgt := 266) hx hb dL_law_262 (by decide) ?_
    have pg_266 := preG (av := [.ref (aC 10), .int (xs (6 * k + 1)), .int (xs (6 * k + 2)), .int (xs (6 * k + 3)), .int (xs (6 * k + 4)), .int (1 : Int32)]) hK (lastP hw.1) (lastD hw.2.1) (NL_keep hN hw.2.2 haC) NC_blind
    refine lawI (wr := (cellsM aM cy s11)) (va_runV (As := [.int (xs (6 * k + 1)), .int (xs (6 * k + 2)), .int (xs (6 * k + 3)), .int (xs (6 * k + 4)), .int (1 : Int32)]) (rest := []) ⟨hx, hb, hml, hown, hts⟩ (m10_stone l D aC cy H.size s0 s1 s2 s3 s4 s5 s6 s7 s8 s9 s10 (xs (6 * k + 1)) (xs (6 * k + 2)) (xs (6 * k + 3)) (xs (6 * k + 4)) (1 : Int32) rc hc) (wL_23 hts ⟨Nat.le_of_ble_eq_true rfl, Nat.le_of_ble_eq_true rfl⟩) ⟨pg_266.1, va_recv hK (lastP hw.1) (ci := 10) (q0 := 10) rfl eC_10, pg_266.2⟩ rfl rfl hl.1 rfl (lv_room (Nat.le_of_ble_eq_true rfl)) dL_law_266 ⟨Nat.le_of_ble_eq_true rfl, Nat.le_of_ble_eq_true rfl⟩) hw fstC (fun H locs hw => ?_)
    clear pg_266
    refine lv_aload_n hx hb dL_law_269 rfl (lv_at hl 1 rfl) ?_
    refine lv_aload_n hx hb dL_law_270 rfl (lv_at hl 3 rfl) ?_
    refine lv_iload_n hx hb dL_law_271 rfl (lv_at hl 0 rfl) ?_
    refine lv_iconst (v := 1) hx hb dL_law_272 (by decide) ?_
    refine lv_iadd hx hb dL_law_273 ?_
    refine ldX (i := 6 * k + 1) hx hb hX hbl hw.2.2 (nI_add (6 * k) 1) (by omega) hL dL_law_274 ?_
    refine lv_aload_n hx hb dL_law_275 rfl (lv_at hl 3 rfl) ?_
    refine lv_iload_n hx hb dL_law_276 rfl (lv_at hl 0 rfl) ?_
    refine lv_iconst (v := 2) hx hb dL_law_277 (by decide) ?_
    refine lv_iadd hx hb dL_law_278 ?_
    refine ldX (i := 6 * k + 2) hx hb hX hbl hw.2.2 (nI_add (6 * k) 2) (by omega) hL dL_law_279 ?_
    refine lv_aload_n hx hb dL_law_280 rfl (lv_at hl 3 rfl) ?_
    refine lv_iload_n hx hb dL_law_281 rfl (lv_at hl 0 rfl) ?_
    refine lv_iconst (v := 3) hx hb dL_law_282 (by decide) ?_
    refine lv_iadd hx hb dL_law_283 ?_
    refine ldX (i := 6 * k + 3) hx hb hX hbl hw.2.2 (nI_add (6 * k) 3) (by omega) hL dL_law_284 ?_
    refine lv_aload_n hx hb dL_law_285 rfl (lv_at hl 3 rfl) ?_
    refine lv_iload_n hx hb dL_law_286 rfl (lv_at hl 0 rfl) ?_
    refine lv_iconst (v := 4) hx hb dL_law_287 (by decide) ?_
    refine lv_iadd hx hb dL_law_288 ?_
    refine ldX (i := 6 * k + 4) hx hb hX hbl hw.2.2 (nI_add (6 * k) 4) (by omega) hL dL_law_289 ?_
    refine lv_aload_n hx hb dL_law_290 rfl (lv_at hl 3 rfl) ?_
    refine lv_iload_n hx hb dL_law_291 rfl (lv_at hl 0 rfl) ?_
    refine lv_iconst (v := 5) hx hb dL_law_292 (by decide) ?_
    refine lv_iadd hx hb dL_law_293 ?_
    refine ldX (i := 6 * k + 5) hx hb hX hbl hw.2.2 (nI_add (6 * k) 5) (by omega) hL dL_law_294 ?_
    refine lv_if_eq (tgt := 302) hx hb dL_law_295 (by decide) (fun c_295 => ?_) (fun c_295 => ?_)
    · exact absurd c_295 hz
    refine lv_iconst (v := 1) hx hb dL_law_298 (by decide) ?_
    refine lv_goto (tgt := 303) hx hb dL_law_299 (by decide) ?_
    have hw := swapW hw
    have pg_303 := preG (av := [.ref (aM 0), .int (xs (6 * k + 1)), .int (xs (6 * k + 2)), .int (xs (6 * k + 3)), .int (xs (6 * k + 4)), .int (1 : Int32)]) hK (lastP hw.1) (lastD hw.2.1) NM_keep NM_blind
    refine lawI (wr := (cellsC aC cy s0 rc.2.1 s2 s3 rc.2.2 s5 s6 s7 s8 s9 s10)) (va_runV (As := [.int (xs (6 * k + 1)), .int (xs (6 * k + 2)), .int (xs (6 * k + 3)), .int (xs (6 * k + 4)), .int (1 : Int32)]) (rest := [.int rc.1]) ⟨hx, hb, hml, hown, hts⟩ (m11_stone l D aM cy H.size s11 (xs (6 * k + 1)) (xs (6 * k + 2)) (xs (6 * k + 3)) (xs (6 * k + 4)) (1 : Int32) rr hr) (wL_27 hts ⟨Nat.le_of_ble_eq_true rfl, Nat.le_of_ble_eq_true rfl⟩) ⟨pg_303.1, va_recv hK (lastP hw.1) (ci := 11) (q0 := 0) rfl eM_0, pg_303.2⟩ rfl rfl hl.1 rfl (lv_room (Nat.le_of_ble_eq_true rfl)) dL_law_303 ⟨Nat.le_of_ble_eq_true rfl, Nat.le_of_ble_eq_true rfl⟩) hw fstM (fun H locs hw => ?_)
    clear pg_303
    have hw := swapW hw
    refine lv_icmp_eq (tgt := 1380) hx hb dL_law_306 (by decide) (fun c_306 => ?_) (fun c_306 => ?_)
    · exact kk s0 rc.2.1 s2 s3 rc.2.2 s5 s6 s7 s8 s9 s10 rr.2 H locs hrel2 hw
    · exact absurd heq c_306
set_option maxHeartbeats 4000000 in
set_option maxRecDepth 100000 in
theorem law_3 {p : Program} {l : Launch} {e : Env} {s : State} {m : MethodId} {below : List Frame} {meth : Method} {c : Code} {b L : Nat} {xs : Nat → Int32} {D : va_G} {cy : Nat → ClassId} {aC aM : Nat → Nat} {Q : State → Prop} (C0 : LCx p s m c b L xs D cy aC) {k : Nat} {s0 s1 s2 s3 s4 s5 s6 s7 s8 s9 s10 s11 : OS} (hrel : Rel k s0 s1 s2 s3 s4 s5 s6 s7 s8 s9 s10 s11) (hk : k < 512) (hkL : 6 * k + 6 ≤ L) {H : Heap} {locs : List Loc} {ls : Array Slot} (hw : Wd D ((cellsM aM cy s11) ++ (cellsC aC cy s0 s1 s2 s3 s4 s5 s6 s7 s8 s9 s10)) (fun q => s.heap.size ≤ q) s.heap H locs) (hl : lv_has ls 4 [(3, .int (nI (6 * k))), (2, .ref (aM 0)), (1, .ref (aC 10)), (0, .ref b)])
    (kk : ∀ (s0 s1 s2 s3 s4 s5 s6 s7 s8 s9 s10 s11 : OS) (H : Heap) (locs : List Loc), Rel (k + 1) s0 s1 s2 s3 s4 s5 s6 s7 s8 s9 s10 s11 → Wd D ((cellsM aM cy s11) ++ (cellsC aC cy s0 s1 s2 s3 s4 s5 s6 s7 s8 s9 s10)) (fun q => s.heap.size ≤ q) s.heap H locs → W p l e room_1 s m #[Value.ref b] below meth c H locs 133 47662 Q (F0 m 1380 ls [])) : W p l e room_1 s m #[Value.ref b] below meth c H locs 133 47662 Q (F0 m 311 ls []) := by
  obtain ⟨hx, hb, hml, hown, hts, hK, hX, hbl, hN, haC, hL⟩ := C0
  obtain ⟨rc, rr, hc, hr, heq, hrel2⟩ := st_move hrel hk (xs (6 * k + 1)) (xs (6 * k + 2))
  refine lv_aload_n hx hb dL_law_311 rfl (lv_at hl 2 rfl) ?_
  refine lv_aload_n hx hb dL_law_312 rfl (lv_at hl 3 rfl) ?_
  refine lv_iload_n hx hb dL_law_313 rfl (lv_at hl 0 rfl) ?_
  refine lv_iconst (v := 1) hx hb dL_law_314 (by decide) ?_
  refine lv_iadd hx hb dL_law_315 ?_
  refine ldX (i := 6 * k + 1) hx hb hX hbl hw.2.2 (nI_add (6 * k) 1) (by omega) hL dL_law_316 ?_
  refine lv_aload_n hx hb dL_law_317 rfl (lv_at hl 3 rfl) ?_
  refine lv_iload_n hx hb dL_law_318 rfl (lv_at hl 0 rfl) ?_
  refine lv_iconst (v := 2) hx hb dL_law_319 (by decide) ?_
  refine lv_iadd hx hb dL_law_320 ?_
  refine ldX (i := 6 * k + 2) hx hb hX hbl hw.2.2 (nI_add (6 * k) 2) (by omega) hL dL_law_321 ?_
  have pg_322 := preG (av := [.ref (aC 10), .int (xs (6 * k + 1)), .int (xs (6 * k + 2))]) hK (lastP hw.1) (lastD hw.2.1) (NL_keep hN hw.2.2 haC) NC_blind
  refine lawI (wr := (cellsM aM cy s11)) (va_runV (As := [.int (xs (6 * k + 1)), .int (xs (6 * k + 2))]) (rest := []) ⟨hx, hb, hml, hown, hts⟩ (m10_move l D aC cy H.size s0 s1 s2 s3 s4 s5 s6 s7 s8 s9 s10 (xs (6 * k + 1)) (xs (6 * k + 2)) rc hc) (wL_28 hts ⟨Nat.le_of_ble_eq_true rfl, Nat.le_of_ble_eq_true rfl⟩) ⟨pg_322.1, va_recv hK (lastP hw.1) (ci := 10) (q0 := 10) rfl eC_10, pg_322.2⟩ rfl rfl hl.1 rfl (lv_room (Nat.le_of_ble_eq_true rfl)) dL_law_322 ⟨Nat.le_of_ble_eq_true rfl, Nat.le_of_ble_eq_true rfl⟩) hw fstC (fun H locs hw => ?_)
  clear pg_322
  refine lv_aload_n hx hb dL_law_325 rfl (lv_at hl 1 rfl) ?_
  refine lv_aload_n hx hb dL_law_326 rfl (lv_at hl 3 rfl) ?_
  refine lv_iload_n hx hb dL_law_327 rfl (lv_at hl 0 rfl) ?_
  refine lv_iconst (v := 1) hx hb dL_law_328 (by decide) ?_
  refine lv_iadd hx hb dL_law_329 ?_
  refine ldX (i := 6 * k + 1) hx hb hX hbl hw.2.2 (nI_add (6 * k) 1) (by omega) hL dL_law_330 ?_
  refine lv_aload_n hx hb dL_law_331 rfl (lv_at hl 3 rfl) ?_
  refine lv_iload_n hx hb dL_law_332 rfl (lv_at hl 0 rfl) ?_
  refine lv_iconst (v := 2) hx hb dL_law_333 (by decide) ?_
  refine lv_iadd hx hb dL_law_334 ?_
  refine ldX (i := 6 * k + 2) hx hb hX hbl hw.2.2 (nI_add (6 * k) 2) (by omega) hL dL_law_335 ?_
  have hw := swapW hw
  have pg_336 := preG (av := [.ref (aM 0), .int (xs (6 * k + 1)), .int (xs (6 * k + 2))]) hK (lastP hw.1) (lastD hw.2.1) NM_keep NM_blind
  refine lawI (wr := (cellsC aC cy s0 rc.2.1 s2 s3 rc.2.2 s5 s6 s7 s8 s9 s10)) (va_runV (As := [.int (xs (6 * k + 1)), .int (xs (6 * k + 2))]) (rest := [.int rc.1]) ⟨hx, hb, hml, hown, hts⟩ (m11_move l D aM cy H.size s11 (xs (6 * k + 1)) (xs (6 * k + 2)) rr hr) (wL_31 hts ⟨Nat.le_of_ble_eq_true rfl, Nat.le_of_ble_eq_true rfl⟩) ⟨pg_336.1, va_recv hK (lastP hw.1) (ci := 11) (q0 := 0) rfl eM_0, pg_336.2⟩ rfl rfl hl.1 rfl (lv_room (Nat.le_of_ble_eq_true rfl)) dL_law_336 ⟨Nat.le_of_ble_eq_true rfl, Nat.le_of_ble_eq_true rfl⟩) hw fstM (fun H locs hw => ?_)
  clear pg_336
  have hw := swapW hw
  refine lv_icmp_eq (tgt := 1380) hx hb dL_law_339 (by decide) (fun c_339 => ?_) (fun c_339 => ?_)
  · exact kk s0 rc.2.1 s2 s3 rc.2.2 s5 s6 s7 s8 s9 s10 rr.2 H locs hrel2 hw
  · exact absurd heq c_339
set_option maxHeartbeats 4000000 in
set_option maxRecDepth 100000 in
theorem law_4 {p : Program} {l : Launch} {e : Env} {s : State} {m : MethodId} {below : List Frame} {meth : Method} {c : Code} {b L : Nat} {xs : Nat → Int32} {D : va_G} {cy : Nat → ClassId} {aC aM : Nat → Nat} {Q : State → Prop} (C0 : LCx p s m c b L xs D cy aC) {k : Nat} {s0 s1 s2 s3 s4 s5 s6 s7 s8 s9 s10 s11 : OS} (hrel : Rel k s0 s1 s2 s3 s4 s5 s6 s7 s8 s9 s10 s11) (hk : k < 512) (hkL : 6 * k + 6 ≤ L) {H : Heap} {locs : List Loc} {ls : Array Slot} (hw : Wd D ((cellsM aM cy s11) ++ (cellsC aC cy s0 s1 s2 s3 s4 s5 s6 s7 s8 s9 s10)) (fun q => s.heap.size ≤ q) s.heap H locs) (hl : lv_has ls 4 [(3, .int (nI (6 * k))), (2, .ref (aM 0)), (1, .ref (aC 10)), (0, .ref b)])
    (kk : ∀ (s0 s1 s2 s3 s4 s5 s6 s7 s8 s9 s10 s11 : OS) (H : Heap) (locs : List Loc), Rel (k + 1) s0 s1 s2 s3 s4 s5 s6 s7 s8 s9 s10 s11 → Wd D ((cellsM aM cy s11) ++ (cellsC aC cy s0 s1 s2 s3 s4 s5 s6 s7 s8 s9 s10)) (fun q => s.heap.size ≤ q) s.heap H locs → W p l e room_1 s m #[Value.ref b] below meth c H locs 133 47662 Q (F0 m 1380 ls [])) : W p l e room_1 s m #[Value.ref b] below meth c H locs 133 47662 Q (F0 m 344 ls []) := by
  obtain ⟨hx, hb, hml, hown, hts, hK, hX, hbl, hN, haC, hL⟩ := C0
  obtain ⟨rc, rr, hc, hr, heq, hrel2⟩ := st_open hrel hk (xs (6 * k + 1))
  refine lv_aload_n hx hb dL_law_344 rfl (lv_at hl 2 rfl) ?_
  refine lv_aload_n hx hb dL_law_345 rfl (lv_at hl 3 rfl) ?_
  refine lv_iload_n hx hb dL_law_346 rfl (lv_at hl 0 rfl) ?_
  refine lv_iconst (v := 1) hx hb dL_law_347 (by decide) ?_
  refine lv_iadd hx hb dL_law_348 ?_
  refine ldX (i := 6 * k + 1) hx hb hX hbl hw.2.2 (nI_add (6 * k) 1) (by omega) hL dL_law_349 ?_
  have pg_350 := preG (av := [.ref (aC 10), .int (xs (6 * k + 1))]) hK (lastP hw.1) (lastD hw.2.1) (NL_keep hN hw.2.2 haC) NC_blind
  refine lawI (wr := (cellsM aM cy s11)) (va_runV (As := [.int (xs (6 * k + 1))]) (rest := []) ⟨hx, hb, hml, hown, hts⟩ (m10_open l D aC cy H.size s0 s1 s2 s3 s4 s5 s6 s7 s8 s9 s10 (xs (6 * k + 1)) rc hc) (wL_32 hts ⟨Nat.le_of_ble_eq_true rfl, Nat.le_of_ble_eq_true rfl⟩) ⟨pg_350.1, va_recv hK (lastP hw.1) (ci := 10) (q0 := 10) rfl eC_10, pg_350.2⟩ rfl rfl hl.1 rfl (lv_room (Nat.le_of_ble_eq_true rfl)) dL_law_350 ⟨Nat.le_of_ble_eq_true rfl, Nat.le_of_ble_eq_true rfl⟩) hw fstC (fun H locs hw => ?_)
  clear pg_350
  refine lv_aload_n hx hb dL_law_353 rfl (lv_at hl 1 rfl) ?_
  refine lv_aload_n hx hb dL_law_354 rfl (lv_at hl 3 rfl) ?_
  refine lv_iload_n hx hb dL_law_355 rfl (lv_at hl 0 rfl) ?_
  refine lv_iconst (v := 1) hx hb dL_law_356 (by decide) ?_
  refine lv_iadd hx hb dL_law_357 ?_
  refine ldX (i := 6 * k + 1) hx hb hX hbl hw.2.2 (nI_add (6 * k) 1) (by omega) hL dL_law_358 ?_
  have hw := swapW hw
  have pg_359 := preG (av := [.ref (aM 0), .int (xs (6 * k + 1))]) hK (lastP hw.1) (lastD hw.2.1) NM_keep NM_blind
  refine lawI (wr := (cellsC aC cy s0 rc.2.1 s2 s3 rc.2.2 s5 s6 s7 s8 s9 s10)) (va_runV (As := [.int (xs (6 * k + 1))]) (rest := [.int rc.1]) ⟨hx, hb, hml, hown, hts⟩ (m11_open l D aM cy H.size s11 (xs (6 * k + 1)) rr hr) (wL_35 hts ⟨Nat.le_of_ble_eq_true rfl, Nat.le_of_ble_eq_true rfl⟩) ⟨pg_359.1, va_recv hK (lastP hw.1) (ci := 11) (q0 := 0) rfl eM_0, pg_359.2⟩ rfl rfl hl.1 rfl (lv_room (Nat.le_of_ble_eq_true rfl)) dL_law_359 ⟨Nat.le_of_ble_eq_true rfl, Nat.le_of_ble_eq_true rfl⟩) hw fstM (fun H locs hw => ?_)
  clear pg_359
  have hw := swapW hw
  refine lv_icmp_eq (tgt := 1380) hx hb dL_law_362 (by decide) (fun c_362 => ?_) (fun c_362 => ?_)
  · exact kk s0 rc.2.1 s2 s3 rc.2.2 s5 s6 s7 s8 s9 s10 rr.2 H locs hrel2 hw
  · exact absurd heq c_362
set_option maxHeartbeats 4000000 in
set_option maxRecDepth 100000 in
theorem law_5 {p : Program} {l : Launch} {e : Env} {s : State} {m : MethodId} {below : List Frame} {meth : Method} {c : Code} {b L : Nat} {xs : Nat → Int32} {D : va_G} {cy : Nat → ClassId} {aC aM : Nat → Nat} {Q : State → Prop} (C0 : LCx p s m c b L xs D cy aC) {k : Nat} {s0 s1 s2 s3 s4 s5 s6 s7 s8 s9 s10 s11 : OS} (hrel : Rel k s0 s1 s2 s3 s4 s5 s6 s7 s8 s9 s10 s11) (hk : k < 512) (hkL : 6 * k + 6 ≤ L) {H : Heap} {locs : List Loc} {ls : Array Slot} (hw : Wd D ((cellsM aM cy s11) ++ (cellsC aC cy s0 s1 s2 s3 s4 s5 s6 s7 s8 s9 s10)) (fun q => s.heap.size ≤ q) s.heap H locs) (hl : lv_has ls 4 [(3, .int (nI (6 * k))), (2, .ref (aM 0)), (1, .ref (aC 10)), (0, .ref b)])
    (kk : ∀ (s0 s1 s2 s3 s4 s5 s6 s7 s8 s9 s10 s11 : OS) (H : Heap) (locs : List Loc), Rel (k + 1) s0 s1 s2 s3 s4 s5 s6 s7 s8 s9 s10 s11 → Wd D ((cellsM aM cy s11) ++ (cellsC aC cy s0 s1 s2 s3 s4 s5 s6 s7 s8 s9 s10)) (fun q => s.heap.size ≤ q) s.heap H locs → W p l e room_1 s m #[Value.ref b] below meth c H locs 133 47662 Q (F0 m 1380 ls [])) : W p l e room_1 s m #[Value.ref b] below meth c H locs 133 47662 Q (F0 m 367 ls []) := by
  obtain ⟨hx, hb, hml, hown, hts, hK, hX, hbl, hN, haC, hL⟩ := C0
  obtain ⟨rc, rr, hc, hr, heq, hrel2⟩ := st_feed hrel hk (xs (6 * k + 1)) (xs (6 * k + 2)) (xs (6 * k + 3)) (xs (6 * k + 4)) (xs (6 * k + 5))
  refine lv_aload_n hx hb dL_law_367 rfl (lv_at hl 2 rfl) ?_
  refine lv_aload_n hx hb dL_law_368 rfl (lv_at hl 3 rfl) ?_
  refine lv_iload_n hx hb dL_law_369 rfl (lv_at hl 0 rfl) ?_
  refine lv_iconst (v := 1) hx hb dL_law_370 (by decide) ?_
  refine lv_iadd hx hb dL_law_371 ?_
  refine ldX (i := 6 * k + 1) hx hb hX hbl hw.2.2 (nI_add (6 * k) 1) (by omega) hL dL_law_372 ?_
  refine lv_aload_n hx hb dL_law_373 rfl (lv_at hl 3 rfl) ?_
  refine lv_iload_n hx hb dL_law_374 rfl (lv_at hl 0 rfl) ?_
  refine lv_iconst (v := 2) hx hb dL_law_375 (by decide) ?_
  refine lv_iadd hx hb dL_law_376 ?_
  refine ldX (i := 6 * k + 2) hx hb hX hbl hw.2.2 (nI_add (6 * k) 2) (by omega) hL dL_law_377 ?_
  refine lv_aload_n hx hb dL_law_378 rfl (lv_at hl 3 rfl) ?_
  refine lv_iload_n hx hb dL_law_379 rfl (lv_at hl 0 rfl) ?_
  refine lv_iconst (v := 3) hx hb dL_law_380 (by decide) ?_
  refine lv_iadd hx hb dL_law_381 ?_
  refine ldX (i := 6 * k + 3) hx hb hX hbl hw.2.2 (nI_add (6 * k) 3) (by omega) hL dL_law_382 ?_
  refine lv_aload_n hx hb dL_law_383 rfl (lv_at hl 3 rfl) ?_
  refine lv_iload_n hx hb dL_law_384 rfl (lv_at hl 0 rfl) ?_
  refine lv_iconst (v := 4) hx hb dL_law_385 (by decide) ?_
  refine lv_iadd hx hb dL_law_386 ?_
  refine ldX (i := 6 * k + 4) hx hb hX hbl hw.2.2 (nI_add (6 * k) 4) (by omega) hL dL_law_387 ?_
  refine lv_aload_n hx hb dL_law_388 rfl (lv_at hl 3 rfl) ?_
  refine lv_iload_n hx hb dL_law_389 rfl (lv_at hl 0 rfl) ?_
  refine lv_iconst (v := 5) hx hb dL_law_390 (by decide) ?_
  refine lv_iadd hx hb dL_law_391 ?_
  refine ldX (i := 6 * k + 5) hx hb hX hbl hw.2.2 (nI_add (6 * k) 5) (by omega) hL dL_law_392 ?_
  have pg_393 := preG (av := [.ref (aC 10), .int (xs (6 * k + 1)), .int (xs (6 * k + 2)), .int (xs (6 * k + 3)), .int (xs (6 * k + 4)), .int (xs (6 * k + 5))]) hK (lastP hw.1) (lastD hw.2.1) (NL_keep hN hw.2.2 haC) NC_blind
  refine lawI (wr := (cellsM aM cy s11)) (va_runV (As := [.int (xs (6 * k + 1)), .int (xs (6 * k + 2)), .int (xs (6 * k + 3)), .int (xs (6 * k + 4)), .int (xs (6 * k + 5))]) (rest := []) ⟨hx, hb, hml, hown, hts⟩ (m10_feed l D aC cy H.size s0 s1 s2 s3 s4 s5 s6 s7 s8 s9 s10 (xs (6 * k + 1)) (xs (6 * k + 2)) (xs (6 * k + 3)) (xs (6 * k + 4)) (xs (6 * k + 5)) rc hc) (wL_36 hts ⟨Nat.le_of_ble_eq_true rfl, Nat.le_of_ble_eq_true rfl⟩) ⟨pg_393.1, va_recv hK (lastP hw.1) (ci := 10) (q0 := 10) rfl eC_10, pg_393.2⟩ rfl rfl hl.1 rfl (lv_room (Nat.le_of_ble_eq_true rfl)) dL_law_393 ⟨Nat.le_of_ble_eq_true rfl, Nat.le_of_ble_eq_true rfl⟩) hw fstC (fun H locs hw => ?_)
  clear pg_393
  refine lv_aload_n hx hb dL_law_396 rfl (lv_at hl 1 rfl) ?_
  refine lv_aload_n hx hb dL_law_397 rfl (lv_at hl 3 rfl) ?_
  refine lv_iload_n hx hb dL_law_398 rfl (lv_at hl 0 rfl) ?_
  refine lv_iconst (v := 1) hx hb dL_law_399 (by decide) ?_
  refine lv_iadd hx hb dL_law_400 ?_
  refine ldX (i := 6 * k + 1) hx hb hX hbl hw.2.2 (nI_add (6 * k) 1) (by omega) hL dL_law_401 ?_
  refine lv_aload_n hx hb dL_law_402 rfl (lv_at hl 3 rfl) ?_
  refine lv_iload_n hx hb dL_law_403 rfl (lv_at hl 0 rfl) ?_
  refine lv_iconst (v := 2) hx hb dL_law_404 (by decide) ?_
  refine lv_iadd hx hb dL_law_405 ?_
  refine ldX (i := 6 * k + 2) hx hb hX hbl hw.2.2 (nI_add (6 * k) 2) (by omega) hL dL_law_406 ?_
  refine lv_aload_n hx hb dL_law_407 rfl (lv_at hl 3 rfl) ?_
  refine lv_iload_n hx hb dL_law_408 rfl (lv_at hl 0 rfl) ?_
  refine lv_iconst (v := 3) hx hb dL_law_409 (by decide) ?_
  refine lv_iadd hx hb dL_law_410 ?_
  refine ldX (i := 6 * k + 3) hx hb hX hbl hw.2.2 (nI_add (6 * k) 3) (by omega) hL dL_law_411 ?_
  refine lv_aload_n hx hb dL_law_412 rfl (lv_at hl 3 rfl) ?_
  refine lv_iload_n hx hb dL_law_413 rfl (lv_at hl 0 rfl) ?_
  refine lv_iconst (v := 4) hx hb dL_law_414 (by decide) ?_
  refine lv_iadd hx hb dL_law_415 ?_
  refine ldX (i := 6 * k + 4) hx hb hX hbl hw.2.2 (nI_add (6 * k) 4) (by omega) hL dL_law_416 ?_
  refine lv_aload_n hx hb dL_law_417 rfl (lv_at hl 3 rfl) ?_
  refine lv_iload_n hx hb dL_law_418 rfl (lv_at hl 0 rfl) ?_
  refine lv_iconst (v := 5) hx hb dL_law_419 (by decide) ?_
  refine lv_iadd hx hb dL_law_420 ?_
  refine ldX (i := 6 * k + 5) hx hb hX hbl hw.2.2 (nI_add (6 * k) 5) (by omega) hL dL_law_421 ?_
  have hw := swapW hw
  have pg_422 := preG (av := [.ref (aM 0), .int (xs (6 * k + 1)), .int (xs (6 * k + 2)), .int (xs (6 * k + 3)), .int (xs (6 * k + 4)), .int (xs (6 * k + 5))]) hK (lastP hw.1) (lastD hw.2.1) NM_keep NM_blind
  refine lawI (wr := (cellsC aC cy s0 s1 s2 s3 s4 s5 s6 s7 rc.2 s9 s10)) (va_runV (As := [.int (xs (6 * k + 1)), .int (xs (6 * k + 2)), .int (xs (6 * k + 3)), .int (xs (6 * k + 4)), .int (xs (6 * k + 5))]) (rest := [.int rc.1]) ⟨hx, hb, hml, hown, hts⟩ (m11_feed l D aM cy H.size s11 (xs (6 * k + 1)) (xs (6 * k + 2)) (xs (6 * k + 3)) (xs (6 * k + 4)) (xs (6 * k + 5)) rr hr) (wL_40 hts ⟨Nat.le_of_ble_eq_true rfl, Nat.le_of_ble_eq_true rfl⟩) ⟨pg_422.1, va_recv hK (lastP hw.1) (ci := 11) (q0 := 0) rfl eM_0, pg_422.2⟩ rfl rfl hl.1 rfl (lv_room (Nat.le_of_ble_eq_true rfl)) dL_law_422 ⟨Nat.le_of_ble_eq_true rfl, Nat.le_of_ble_eq_true rfl⟩) hw fstM (fun H locs hw => ?_)
  clear pg_422
  have hw := swapW hw
  refine lv_icmp_eq (tgt := 1380) hx hb dL_law_425 (by decide) (fun c_425 => ?_) (fun c_425 => ?_)
  · exact kk s0 s1 s2 s3 s4 s5 s6 s7 rc.2 s9 s10 rr.2 H locs hrel2 hw
  · exact absurd heq c_425
set_option maxHeartbeats 4000000 in
set_option maxRecDepth 100000 in
theorem law_6 {p : Program} {l : Launch} {e : Env} {s : State} {m : MethodId} {below : List Frame} {meth : Method} {c : Code} {b L : Nat} {xs : Nat → Int32} {D : va_G} {cy : Nat → ClassId} {aC aM : Nat → Nat} {Q : State → Prop} (C0 : LCx p s m c b L xs D cy aC) {k : Nat} {s0 s1 s2 s3 s4 s5 s6 s7 s8 s9 s10 s11 : OS} (hrel : Rel k s0 s1 s2 s3 s4 s5 s6 s7 s8 s9 s10 s11) (hk : k < 512) (hkL : 6 * k + 6 ≤ L) {H : Heap} {locs : List Loc} {ls : Array Slot} (hw : Wd D ((cellsM aM cy s11) ++ (cellsC aC cy s0 s1 s2 s3 s4 s5 s6 s7 s8 s9 s10)) (fun q => s.heap.size ≤ q) s.heap H locs) (hl : lv_has ls 4 [(3, .int (nI (6 * k))), (2, .ref (aM 0)), (1, .ref (aC 10)), (0, .ref b)])
    (kk : ∀ (s0 s1 s2 s3 s4 s5 s6 s7 s8 s9 s10 s11 : OS) (H : Heap) (locs : List Loc), Rel (k + 1) s0 s1 s2 s3 s4 s5 s6 s7 s8 s9 s10 s11 → Wd D ((cellsM aM cy s11) ++ (cellsC aC cy s0 s1 s2 s3 s4 s5 s6 s7 s8 s9 s10)) (fun q => s.heap.size ≤ q) s.heap H locs → W p l e room_1 s m #[Value.ref b] below meth c H locs 133 47662 Q (F0 m 1380 ls [])) : W p l e room_1 s m #[Value.ref b] below meth c H locs 133 47662 Q (F0 m 430 ls []) := by
  obtain ⟨hx, hb, hml, hown, hts, hK, hX, hbl, hN, haC, hL⟩ := C0
  obtain ⟨rc, rr, hc, hr, heq, hrel2⟩ := st_cut hrel hk (xs (6 * k + 1)) (xs (6 * k + 2)) (xs (6 * k + 3))
  refine lv_aload_n hx hb dL_law_430 rfl (lv_at hl 2 rfl) ?_
  refine lv_aload_n hx hb dL_law_431 rfl (lv_at hl 3 rfl) ?_
  refine lv_iload_n hx hb dL_law_432 rfl (lv_at hl 0 rfl) ?_
  refine lv_iconst (v := 1) hx hb dL_law_433 (by decide) ?_
  refine lv_iadd hx hb dL_law_434 ?_
  refine ldX (i := 6 * k + 1) hx hb hX hbl hw.2.2 (nI_add (6 * k) 1) (by omega) hL dL_law_435 ?_
  refine lv_aload_n hx hb dL_law_436 rfl (lv_at hl 3 rfl) ?_
  refine lv_iload_n hx hb dL_law_437 rfl (lv_at hl 0 rfl) ?_
  refine lv_iconst (v := 2) hx hb dL_law_438 (by decide) ?_
  refine lv_iadd hx hb dL_law_439 ?_
  refine ldX (i := 6 * k + 2) hx hb hX hbl hw.2.2 (nI_add (6 * k) 2) (by omega) hL dL_law_440 ?_
  refine lv_aload_n hx hb dL_law_441 rfl (lv_at hl 3 rfl) ?_
  refine lv_iload_n hx hb dL_law_442 rfl (lv_at hl 0 rfl) ?_
  refine lv_iconst (v := 3) hx hb dL_law_443 (by decide) ?_
  refine lv_iadd hx hb dL_law_444 ?_
  refine ldX (i := 6 * k + 3) hx hb hX hbl hw.2.2 (nI_add (6 * k) 3) (by omega) hL dL_law_445 ?_
  have pg_446 := preG (av := [.ref (aC 10), .int (xs (6 * k + 1)), .int (xs (6 * k + 2)), .int (xs (6 * k + 3))]) hK (lastP hw.1) (lastD hw.2.1) (NL_keep hN hw.2.2 haC) NC_blind
  refine lawI (wr := (cellsM aM cy s11)) (va_runV (As := [.int (xs (6 * k + 1)), .int (xs (6 * k + 2)), .int (xs (6 * k + 3))]) (rest := []) ⟨hx, hb, hml, hown, hts⟩ (m10_cut l D aC cy H.size s0 s1 s2 s3 s4 s5 s6 s7 s8 s9 s10 (xs (6 * k + 1)) (xs (6 * k + 2)) (xs (6 * k + 3)) rc hc) (wL_41 hts ⟨Nat.le_of_ble_eq_true rfl, Nat.le_of_ble_eq_true rfl⟩) ⟨pg_446.1, va_recv hK (lastP hw.1) (ci := 10) (q0 := 10) rfl eC_10, pg_446.2⟩ rfl rfl hl.1 rfl (lv_room (Nat.le_of_ble_eq_true rfl)) dL_law_446 ⟨Nat.le_of_ble_eq_true rfl, Nat.le_of_ble_eq_true rfl⟩) hw fstC (fun H locs hw => ?_)
  clear pg_446
  refine lv_aload_n hx hb dL_law_449 rfl (lv_at hl 1 rfl) ?_
  refine lv_aload_n hx hb dL_law_450 rfl (lv_at hl 3 rfl) ?_
  refine lv_iload_n hx hb dL_law_451 rfl (lv_at hl 0 rfl) ?_
  refine lv_iconst (v := 1) hx hb dL_law_452 (by decide) ?_
  refine lv_iadd hx hb dL_law_453 ?_
  refine ldX (i := 6 * k + 1) hx hb hX hbl hw.2.2 (nI_add (6 * k) 1) (by omega) hL dL_law_454 ?_
  refine lv_aload_n hx hb dL_law_455 rfl (lv_at hl 3 rfl) ?_
  refine lv_iload_n hx hb dL_law_456 rfl (lv_at hl 0 rfl) ?_
  refine lv_iconst (v := 2) hx hb dL_law_457 (by decide) ?_
  refine lv_iadd hx hb dL_law_458 ?_
  refine ldX (i := 6 * k + 2) hx hb hX hbl hw.2.2 (nI_add (6 * k) 2) (by omega) hL dL_law_459 ?_
  refine lv_aload_n hx hb dL_law_460 rfl (lv_at hl 3 rfl) ?_
  refine lv_iload_n hx hb dL_law_461 rfl (lv_at hl 0 rfl) ?_
  refine lv_iconst (v := 3) hx hb dL_law_462 (by decide) ?_
  refine lv_iadd hx hb dL_law_463 ?_
  refine ldX (i := 6 * k + 3) hx hb hX hbl hw.2.2 (nI_add (6 * k) 3) (by omega) hL dL_law_464 ?_
  have hw := swapW hw
  have pg_465 := preG (av := [.ref (aM 0), .int (xs (6 * k + 1)), .int (xs (6 * k + 2)), .int (xs (6 * k + 3))]) hK (lastP hw.1) (lastD hw.2.1) NM_keep NM_blind
  refine lawI (wr := (cellsC aC cy s0 rc.2.1 s2 s3 rc.2.2.1 s5 s6 s7 rc.2.2.2 s9 s10)) (va_runV (As := [.int (xs (6 * k + 1)), .int (xs (6 * k + 2)), .int (xs (6 * k + 3))]) (rest := [.int rc.1]) ⟨hx, hb, hml, hown, hts⟩ (m11_cut l D aM cy H.size s11 (xs (6 * k + 1)) (xs (6 * k + 2)) (xs (6 * k + 3)) rr hr) (wL_45 hts ⟨Nat.le_of_ble_eq_true rfl, Nat.le_of_ble_eq_true rfl⟩) ⟨pg_465.1, va_recv hK (lastP hw.1) (ci := 11) (q0 := 0) rfl eM_0, pg_465.2⟩ rfl rfl hl.1 rfl (lv_room (Nat.le_of_ble_eq_true rfl)) dL_law_465 ⟨Nat.le_of_ble_eq_true rfl, Nat.le_of_ble_eq_true rfl⟩) hw fstM (fun H locs hw => ?_)
  clear pg_465
  have hw := swapW hw
  refine lv_icmp_eq (tgt := 1380) hx hb dL_law_468 (by decide) (fun c_468 => ?_) (fun c_468 => ?_)
  · exact kk s0 rc.2.1 s2 s3 rc.2.2.1 s5 s6 s7 rc.2.2.2 s9 s10 rr.2 H locs hrel2 hw
  · exact absurd heq c_468
set_option maxHeartbeats 4000000 in
set_option maxRecDepth 100000 in
theorem law_7 {p : Program} {l : Launch} {e : Env} {s : State} {m : MethodId} {below : List Frame} {meth : Method} {c : Code} {b L : Nat} {xs : Nat → Int32} {D : va_G} {cy : Nat → ClassId} {aC aM : Nat → Nat} {Q : State → Prop} (C0 : LCx p s m c b L xs D cy aC) {k : Nat} {s0 s1 s2 s3 s4 s5 s6 s7 s8 s9 s10 s11 : OS} (hrel : Rel k s0 s1 s2 s3 s4 s5 s6 s7 s8 s9 s10 s11) (hk : k < 512) (hkL : 6 * k + 6 ≤ L) {H : Heap} {locs : List Loc} {ls : Array Slot} (hw : Wd D ((cellsM aM cy s11) ++ (cellsC aC cy s0 s1 s2 s3 s4 s5 s6 s7 s8 s9 s10)) (fun q => s.heap.size ≤ q) s.heap H locs) (hl : lv_has ls 4 [(3, .int (nI (6 * k))), (2, .ref (aM 0)), (1, .ref (aC 10)), (0, .ref b)])
    (kk : ∀ (s0 s1 s2 s3 s4 s5 s6 s7 s8 s9 s10 s11 : OS) (H : Heap) (locs : List Loc), Rel (k + 1) s0 s1 s2 s3 s4 s5 s6 s7 s8 s9 s10 s11 → Wd D ((cellsM aM cy s11) ++ (cellsC aC cy s0 s1 s2 s3 s4 s5 s6 s7 s8 s9 s10)) (fun q => s.heap.size ≤ q) s.heap H locs → W p l e room_1 s m #[Value.ref b] below meth c H locs 133 47662 Q (F0 m 1380 ls [])) : W p l e room_1 s m #[Value.ref b] below meth c H locs 133 47662 Q (F0 m 473 ls []) := by
  obtain ⟨hx, hb, hml, hown, hts, hK, hX, hbl, hN, haC, hL⟩ := C0
  obtain ⟨rc, rr, hc, hr, heq, hrel2⟩ := st_trial hrel hk (xs (6 * k + 1)) (xs (6 * k + 2)) (xs (6 * k + 3))
  refine lv_aload_n hx hb dL_law_473 rfl (lv_at hl 2 rfl) ?_
  refine lv_aload_n hx hb dL_law_474 rfl (lv_at hl 3 rfl) ?_
  refine lv_iload_n hx hb dL_law_475 rfl (lv_at hl 0 rfl) ?_
  refine lv_iconst (v := 1) hx hb dL_law_476 (by decide) ?_
  refine lv_iadd hx hb dL_law_477 ?_
  refine ldX (i := 6 * k + 1) hx hb hX hbl hw.2.2 (nI_add (6 * k) 1) (by omega) hL dL_law_478 ?_
  refine lv_aload_n hx hb dL_law_479 rfl (lv_at hl 3 rfl) ?_
  refine lv_iload_n hx hb dL_law_480 rfl (lv_at hl 0 rfl) ?_
  refine lv_iconst (v := 2) hx hb dL_law_481 (by decide) ?_
  refine lv_iadd hx hb dL_law_482 ?_
  refine ldX (i := 6 * k + 2) hx hb hX hbl hw.2.2 (nI_add (6 * k) 2) (by omega) hL dL_law_483 ?_
  refine lv_aload_n hx hb dL_law_484 rfl (lv_at hl 3 rfl) ?_
  refine lv_iload_n hx hb dL_law_485 rfl (lv_at hl 0 rfl) ?_
  refine lv_iconst (v := 3) hx hb dL_law_486 (by decide) ?_
  refine lv_iadd hx hb dL_law_487 ?_
  refine ldX (i := 6 * k + 3) hx hb hX hbl hw.2.2 (nI_add (6 * k) 3) (by omega) hL dL_law_488 ?_
  have pg_489 := preG (av := [.ref (aC 10), .int (xs (6 * k + 1)), .int (xs (6 * k + 2)), .int (xs (6 * k + 3))]) hK (lastP hw.1) (lastD hw.2.1) (NL_keep hN hw.2.2 haC) NC_blind
  refine lawI (wr := (cellsM aM cy s11)) (va_runV (As := [.int (xs (6 * k + 1)), .int (xs (6 * k + 2)), .int (xs (6 * k + 3))]) (rest := []) ⟨hx, hb, hml, hown, hts⟩ (m10_trial l D aC cy H.size s0 s1 s2 s3 s4 s5 s6 s7 s8 s9 s10 (xs (6 * k + 1)) (xs (6 * k + 2)) (xs (6 * k + 3)) rc hc) (wL_46 hts ⟨Nat.le_of_ble_eq_true rfl, Nat.le_of_ble_eq_true rfl⟩) ⟨pg_489.1, va_recv hK (lastP hw.1) (ci := 10) (q0 := 10) rfl eC_10, pg_489.2⟩ rfl rfl hl.1 rfl (lv_room (Nat.le_of_ble_eq_true rfl)) dL_law_489 ⟨Nat.le_of_ble_eq_true rfl, Nat.le_of_ble_eq_true rfl⟩) hw fstC (fun H locs hw => ?_)
  clear pg_489
  refine lv_aload_n hx hb dL_law_492 rfl (lv_at hl 1 rfl) ?_
  refine lv_aload_n hx hb dL_law_493 rfl (lv_at hl 3 rfl) ?_
  refine lv_iload_n hx hb dL_law_494 rfl (lv_at hl 0 rfl) ?_
  refine lv_iconst (v := 1) hx hb dL_law_495 (by decide) ?_
  refine lv_iadd hx hb dL_law_496 ?_
  refine ldX (i := 6 * k + 1) hx hb hX hbl hw.2.2 (nI_add (6 * k) 1) (by omega) hL dL_law_497 ?_
  refine lv_aload_n hx hb dL_law_498 rfl (lv_at hl 3 rfl) ?_
  refine lv_iload_n hx hb dL_law_499 rfl (lv_at hl 0 rfl) ?_
  refine lv_iconst (v := 2) hx hb dL_law_500 (by decide) ?_
  refine lv_iadd hx hb dL_law_501 ?_
  refine ldX (i := 6 * k + 2) hx hb hX hbl hw.2.2 (nI_add (6 * k) 2) (by omega) hL dL_law_502 ?_
  refine lv_aload_n hx hb dL_law_503 rfl (lv_at hl 3 rfl) ?_
  refine lv_iload_n hx hb dL_law_504 rfl (lv_at hl 0 rfl) ?_
  refine lv_iconst (v := 3) hx hb dL_law_505 (by decide) ?_
  refine lv_iadd hx hb dL_law_506 ?_
  refine ldX (i := 6 * k + 3) hx hb hX hbl hw.2.2 (nI_add (6 * k) 3) (by omega) hL dL_law_507 ?_
  have hw := swapW hw
  have pg_508 := preG (av := [.ref (aM 0), .int (xs (6 * k + 1)), .int (xs (6 * k + 2)), .int (xs (6 * k + 3))]) hK (lastP hw.1) (lastD hw.2.1) NM_keep NM_blind
  refine lawI (wr := (cellsC aC cy s0 rc.2.1 s2 s3 rc.2.2 s5 s6 s7 s8 s9 s10)) (va_runV (As := [.int (xs (6 * k + 1)), .int (xs (6 * k + 2)), .int (xs (6 * k + 3))]) (rest := [.int rc.1]) ⟨hx, hb, hml, hown, hts⟩ (m11_trial l D aM cy H.size s11 (xs (6 * k + 1)) (xs (6 * k + 2)) (xs (6 * k + 3)) rr hr) (wL_49 hts ⟨Nat.le_of_ble_eq_true rfl, Nat.le_of_ble_eq_true rfl⟩) ⟨pg_508.1, va_recv hK (lastP hw.1) (ci := 11) (q0 := 0) rfl eM_0, pg_508.2⟩ rfl rfl hl.1 rfl (lv_room (Nat.le_of_ble_eq_true rfl)) dL_law_508 ⟨Nat.le_of_ble_eq_true rfl, Nat.le_of_ble_eq_true rfl⟩) hw fstM (fun H locs hw => ?_)
  clear pg_508
  have hw := swapW hw
  refine lv_icmp_eq (tgt := 1380) hx hb dL_law_511 (by decide) (fun c_511 => ?_) (fun c_511 => ?_)
  · exact kk s0 rc.2.1 s2 s3 rc.2.2 s5 s6 s7 s8 s9 s10 rr.2 H locs hrel2 hw
  · exact absurd heq c_511
set_option maxHeartbeats 4000000 in
set_option maxRecDepth 100000 in
theorem law_8 {p : Program} {l : Launch} {e : Env} {s : State} {m : MethodId} {below : List Frame} {meth : Method} {c : Code} {b L : Nat} {xs : Nat → Int32} {D : va_G} {cy : Nat → ClassId} {aC aM : Nat → Nat} {Q : State → Prop} (C0 : LCx p s m c b L xs D cy aC) {k : Nat} {s0 s1 s2 s3 s4 s5 s6 s7 s8 s9 s10 s11 : OS} (hrel : Rel k s0 s1 s2 s3 s4 s5 s6 s7 s8 s9 s10 s11) (hk : k < 512) (hkL : 6 * k + 6 ≤ L) {H : Heap} {locs : List Loc} {ls : Array Slot} (hw : Wd D ((cellsM aM cy s11) ++ (cellsC aC cy s0 s1 s2 s3 s4 s5 s6 s7 s8 s9 s10)) (fun q => s.heap.size ≤ q) s.heap H locs) (hl : lv_has ls 4 [(3, .int (nI (6 * k))), (2, .ref (aM 0)), (1, .ref (aC 10)), (0, .ref b)])
    (kk : ∀ (s0 s1 s2 s3 s4 s5 s6 s7 s8 s9 s10 s11 : OS) (H : Heap) (locs : List Loc), Rel (k + 1) s0 s1 s2 s3 s4 s5 s6 s7 s8 s9 s10 s11 → Wd D ((cellsM aM cy s11) ++ (cellsC aC cy s0 s1 s2 s3 s4 s5 s6 s7 s8 s9 s10)) (fun q => s.heap.size ≤ q) s.heap H locs → W p l e room_1 s m #[Value.ref b] below meth c H locs 133 47662 Q (F0 m 1380 ls [])) : W p l e room_1 s m #[Value.ref b] below meth c H locs 133 47662 Q (F0 m 516 ls []) := by
  obtain ⟨hx, hb, hml, hown, hts, hK, hX, hbl, hN, haC, hL⟩ := C0
  obtain ⟨rc, rr, hc, hr, heq, hrel2⟩ := st_asker hrel hk (xs (6 * k + 1)) (xs (6 * k + 2))
  refine lv_aload_n hx hb dL_law_516 rfl (lv_at hl 2 rfl) ?_
  refine lv_aload_n hx hb dL_law_517 rfl (lv_at hl 3 rfl) ?_
  refine lv_iload_n hx hb dL_law_518 rfl (lv_at hl 0 rfl) ?_
  refine lv_iconst (v := 1) hx hb dL_law_519 (by decide) ?_
  refine lv_iadd hx hb dL_law_520 ?_
  refine ldX (i := 6 * k + 1) hx hb hX hbl hw.2.2 (nI_add (6 * k) 1) (by omega) hL dL_law_521 ?_
  refine lv_aload_n hx hb dL_law_522 rfl (lv_at hl 3 rfl) ?_
  refine lv_iload_n hx hb dL_law_523 rfl (lv_at hl 0 rfl) ?_
  refine lv_iconst (v := 2) hx hb dL_law_524 (by decide) ?_
  refine lv_iadd hx hb dL_law_525 ?_
  refine ldX (i := 6 * k + 2) hx hb hX hbl hw.2.2 (nI_add (6 * k) 2) (by omega) hL dL_law_526 ?_
  have pg_527 := preG (av := [.ref (aC 10), .int (xs (6 * k + 1)), .int (xs (6 * k + 2))]) hK (lastP hw.1) (lastD hw.2.1) (NL_keep hN hw.2.2 haC) NC_blind
  refine lawI (wr := (cellsM aM cy s11)) (va_runV (As := [.int (xs (6 * k + 1)), .int (xs (6 * k + 2))]) (rest := []) ⟨hx, hb, hml, hown, hts⟩ (m10_asker l D aC cy H.size s0 s1 s2 s3 s4 s5 s6 s7 s8 s9 s10 (xs (6 * k + 1)) (xs (6 * k + 2)) rc hc) (wL_50 hts ⟨Nat.le_of_ble_eq_true rfl, Nat.le_of_ble_eq_true rfl⟩) ⟨pg_527.1, va_recv hK (lastP hw.1) (ci := 10) (q0 := 10) rfl eC_10, pg_527.2⟩ rfl rfl hl.1 rfl (lv_room (Nat.le_of_ble_eq_true rfl)) dL_law_527 ⟨Nat.le_of_ble_eq_true rfl, Nat.le_of_ble_eq_true rfl⟩) hw fstC (fun H locs hw => ?_)
  clear pg_527
  refine lv_aload_n hx hb dL_law_530 rfl (lv_at hl 1 rfl) ?_
  refine lv_aload_n hx hb dL_law_531 rfl (lv_at hl 3 rfl) ?_
  refine lv_iload_n hx hb dL_law_532 rfl (lv_at hl 0 rfl) ?_
  refine lv_iconst (v := 1) hx hb dL_law_533 (by decide) ?_
  refine lv_iadd hx hb dL_law_534 ?_
  refine ldX (i := 6 * k + 1) hx hb hX hbl hw.2.2 (nI_add (6 * k) 1) (by omega) hL dL_law_535 ?_
  refine lv_aload_n hx hb dL_law_536 rfl (lv_at hl 3 rfl) ?_
  refine lv_iload_n hx hb dL_law_537 rfl (lv_at hl 0 rfl) ?_
  refine lv_iconst (v := 2) hx hb dL_law_538 (by decide) ?_
  refine lv_iadd hx hb dL_law_539 ?_
  refine ldX (i := 6 * k + 2) hx hb hX hbl hw.2.2 (nI_add (6 * k) 2) (by omega) hL dL_law_540 ?_
  have hw := swapW hw
  have pg_541 := preG (av := [.ref (aM 0), .int (xs (6 * k + 1)), .int (xs (6 * k + 2))]) hK (lastP hw.1) (lastD hw.2.1) NM_keep NM_blind
  refine lawI (wr := (cellsC aC cy s0 s1 rc.2 s3 s4 s5 s6 s7 s8 s9 s10)) (va_runV (As := [.int (xs (6 * k + 1)), .int (xs (6 * k + 2))]) (rest := [.int rc.1]) ⟨hx, hb, hml, hown, hts⟩ (m11_asker l D aM cy H.size s11 (xs (6 * k + 1)) (xs (6 * k + 2)) rr hr) (wL_54 hts ⟨Nat.le_of_ble_eq_true rfl, Nat.le_of_ble_eq_true rfl⟩) ⟨pg_541.1, va_recv hK (lastP hw.1) (ci := 11) (q0 := 0) rfl eM_0, pg_541.2⟩ rfl rfl hl.1 rfl (lv_room (Nat.le_of_ble_eq_true rfl)) dL_law_541 ⟨Nat.le_of_ble_eq_true rfl, Nat.le_of_ble_eq_true rfl⟩) hw fstM (fun H locs hw => ?_)
  clear pg_541
  have hw := swapW hw
  refine lv_icmp_eq (tgt := 1380) hx hb dL_law_544 (by decide) (fun c_544 => ?_) (fun c_544 => ?_)
  · exact kk s0 s1 rc.2 s3 s4 s5 s6 s7 s8 s9 s10 rr.2 H locs hrel2 hw
  · exact absurd heq c_544
set_option maxHeartbeats 4000000 in
set_option maxRecDepth 100000 in
theorem law_9 {p : Program} {l : Launch} {e : Env} {s : State} {m : MethodId} {below : List Frame} {meth : Method} {c : Code} {b L : Nat} {xs : Nat → Int32} {D : va_G} {cy : Nat → ClassId} {aC aM : Nat → Nat} {Q : State → Prop} (C0 : LCx p s m c b L xs D cy aC) {k : Nat} {s0 s1 s2 s3 s4 s5 s6 s7 s8 s9 s10 s11 : OS} (hrel : Rel k s0 s1 s2 s3 s4 s5 s6 s7 s8 s9 s10 s11) (hk : k < 512) (hkL : 6 * k + 6 ≤ L) {H : Heap} {locs : List Loc} {ls : Array Slot} (hw : Wd D ((cellsM aM cy s11) ++ (cellsC aC cy s0 s1 s2 s3 s4 s5 s6 s7 s8 s9 s10)) (fun q => s.heap.size ≤ q) s.heap H locs) (hl : lv_has ls 4 [(3, .int (nI (6 * k))), (2, .ref (aM 0)), (1, .ref (aC 10)), (0, .ref b)])
    (kk : ∀ (s0 s1 s2 s3 s4 s5 s6 s7 s8 s9 s10 s11 : OS) (H : Heap) (locs : List Loc), Rel (k + 1) s0 s1 s2 s3 s4 s5 s6 s7 s8 s9 s10 s11 → Wd D ((cellsM aM cy s11) ++ (cellsC aC cy s0 s1 s2 s3 s4 s5 s6 s7 s8 s9 s10)) (fun q => s.heap.size ≤ q) s.heap H locs → W p l e room_1 s m #[Value.ref b] below meth c H locs 133 47662 Q (F0 m 1380 ls [])) : W p l e room_1 s m #[Value.ref b] below meth c H locs 133 47662 Q (F0 m 549 ls []) := by
  obtain ⟨hx, hb, hml, hown, hts, hK, hX, hbl, hN, haC, hL⟩ := C0
  obtain ⟨rc, rr, hc, hr, heq, hrel2⟩ := st_rules hrel hk (xs (6 * k + 1)) (xs (6 * k + 2)) (xs (6 * k + 3))
  refine lv_aload_n hx hb dL_law_549 rfl (lv_at hl 2 rfl) ?_
  refine lv_aload_n hx hb dL_law_550 rfl (lv_at hl 3 rfl) ?_
  refine lv_iload_n hx hb dL_law_551 rfl (lv_at hl 0 rfl) ?_
  refine lv_iconst (v := 1) hx hb dL_law_552 (by decide) ?_
  refine lv_iadd hx hb dL_law_553 ?_
  refine ldX (i := 6 * k + 1) hx hb hX hbl hw.2.2 (nI_add (6 * k) 1) (by omega) hL dL_law_554 ?_
  refine lv_aload_n hx hb dL_law_555 rfl (lv_at hl 3 rfl) ?_
  refine lv_iload_n hx hb dL_law_556 rfl (lv_at hl 0 rfl) ?_
  refine lv_iconst (v := 2) hx hb dL_law_557 (by decide) ?_
  refine lv_iadd hx hb dL_law_558 ?_
  refine ldX (i := 6 * k + 2) hx hb hX hbl hw.2.2 (nI_add (6 * k) 2) (by omega) hL dL_law_559 ?_
  refine lv_aload_n hx hb dL_law_560 rfl (lv_at hl 3 rfl) ?_
  refine lv_iload_n hx hb dL_law_561 rfl (lv_at hl 0 rfl) ?_
  refine lv_iconst (v := 3) hx hb dL_law_562 (by decide) ?_
  refine lv_iadd hx hb dL_law_563 ?_
  refine ldX (i := 6 * k + 3) hx hb hX hbl hw.2.2 (nI_add (6 * k) 3) (by omega) hL dL_law_564 ?_
  have pg_565 := preG (av := [.ref (aC 10), .int (xs (6 * k + 1)), .int (xs (6 * k + 2)), .int (xs (6 * k + 3))]) hK (lastP hw.1) (lastD hw.2.1) (NL_keep hN hw.2.2 haC) NC_blind
  refine lawI (wr := (cellsM aM cy s11)) (va_runV (As := [.int (xs (6 * k + 1)), .int (xs (6 * k + 2)), .int (xs (6 * k + 3))]) (rest := []) ⟨hx, hb, hml, hown, hts⟩ (m10_rules l D aC cy H.size s0 s1 s2 s3 s4 s5 s6 s7 s8 s9 s10 (xs (6 * k + 1)) (xs (6 * k + 2)) (xs (6 * k + 3)) rc hc) (wL_55 hts ⟨Nat.le_of_ble_eq_true rfl, Nat.le_of_ble_eq_true rfl⟩) ⟨pg_565.1, va_recv hK (lastP hw.1) (ci := 10) (q0 := 10) rfl eC_10, pg_565.2⟩ rfl rfl hl.1 rfl (lv_room (Nat.le_of_ble_eq_true rfl)) dL_law_565 ⟨Nat.le_of_ble_eq_true rfl, Nat.le_of_ble_eq_true rfl⟩) hw fstC (fun H locs hw => ?_)
  clear pg_565
  refine lv_aload_n hx hb dL_law_568 rfl (lv_at hl 1 rfl) ?_
  refine lv_aload_n hx hb dL_law_569 rfl (lv_at hl 3 rfl) ?_
  refine lv_iload_n hx hb dL_law_570 rfl (lv_at hl 0 rfl) ?_
  refine lv_iconst (v := 1) hx hb dL_law_571 (by decide) ?_
  refine lv_iadd hx hb dL_law_572 ?_
  refine ldX (i := 6 * k + 1) hx hb hX hbl hw.2.2 (nI_add (6 * k) 1) (by omega) hL dL_law_573 ?_
  refine lv_aload_n hx hb dL_law_574 rfl (lv_at hl 3 rfl) ?_
  refine lv_iload_n hx hb dL_law_575 rfl (lv_at hl 0 rfl) ?_
  refine lv_iconst (v := 2) hx hb dL_law_576 (by decide) ?_
  refine lv_iadd hx hb dL_law_577 ?_
  refine ldX (i := 6 * k + 2) hx hb hX hbl hw.2.2 (nI_add (6 * k) 2) (by omega) hL dL_law_578 ?_
  refine lv_aload_n hx hb dL_law_579 rfl (lv_at hl 3 rfl) ?_
  refine lv_iload_n hx hb dL_law_580 rfl (lv_at hl 0 rfl) ?_
  refine lv_iconst (v := 3) hx hb dL_law_581 (by decide) ?_
  refine lv_iadd hx hb dL_law_582 ?_
  refine ldX (i := 6 * k + 3) hx hb hX hbl hw.2.2 (nI_add (6 * k) 3) (by omega) hL dL_law_583 ?_
  have hw := swapW hw
  have pg_584 := preG (av := [.ref (aM 0), .int (xs (6 * k + 1)), .int (xs (6 * k + 2)), .int (xs (6 * k + 3))]) hK (lastP hw.1) (lastD hw.2.1) NM_keep NM_blind
  refine lawI (wr := (cellsC aC cy s0 s1 s2 s3 s4 rc.2.1 rc.2.2.1 s7 rc.2.2.2 s9 s10)) (va_runV (As := [.int (xs (6 * k + 1)), .int (xs (6 * k + 2)), .int (xs (6 * k + 3))]) (rest := [.int rc.1]) ⟨hx, hb, hml, hown, hts⟩ (m11_rules l D aM cy H.size s11 (xs (6 * k + 1)) (xs (6 * k + 2)) (xs (6 * k + 3)) rr hr) (wL_58 hts ⟨Nat.le_of_ble_eq_true rfl, Nat.le_of_ble_eq_true rfl⟩) ⟨pg_584.1, va_recv hK (lastP hw.1) (ci := 11) (q0 := 0) rfl eM_0, pg_584.2⟩ rfl rfl hl.1 rfl (lv_room (Nat.le_of_ble_eq_true rfl)) dL_law_584 ⟨Nat.le_of_ble_eq_true rfl, Nat.le_of_ble_eq_true rfl⟩) hw fstM (fun H locs hw => ?_)
  clear pg_584
  have hw := swapW hw
  refine lv_icmp_eq (tgt := 1380) hx hb dL_law_587 (by decide) (fun c_587 => ?_) (fun c_587 => ?_)
  · exact kk s0 s1 s2 s3 s4 rc.2.1 rc.2.2.1 s7 rc.2.2.2 s9 s10 rr.2 H locs hrel2 hw
  · exact absurd heq c_587
set_option maxHeartbeats 4000000 in
set_option maxRecDepth 100000 in
theorem law_10 {p : Program} {l : Launch} {e : Env} {s : State} {m : MethodId} {below : List Frame} {meth : Method} {c : Code} {b L : Nat} {xs : Nat → Int32} {D : va_G} {cy : Nat → ClassId} {aC aM : Nat → Nat} {Q : State → Prop} (C0 : LCx p s m c b L xs D cy aC) {k : Nat} {s0 s1 s2 s3 s4 s5 s6 s7 s8 s9 s10 s11 : OS} (hrel : Rel k s0 s1 s2 s3 s4 s5 s6 s7 s8 s9 s10 s11) (hk : k < 512) (hkL : 6 * k + 6 ≤ L) {H : Heap} {locs : List Loc} {ls : Array Slot} (hw : Wd D ((cellsM aM cy s11) ++ (cellsC aC cy s0 s1 s2 s3 s4 s5 s6 s7 s8 s9 s10)) (fun q => s.heap.size ≤ q) s.heap H locs) (hl : lv_has ls 4 [(3, .int (nI (6 * k))), (2, .ref (aM 0)), (1, .ref (aC 10)), (0, .ref b)])
    (kk : ∀ (s0 s1 s2 s3 s4 s5 s6 s7 s8 s9 s10 s11 : OS) (H : Heap) (locs : List Loc), Rel (k + 1) s0 s1 s2 s3 s4 s5 s6 s7 s8 s9 s10 s11 → Wd D ((cellsM aM cy s11) ++ (cellsC aC cy s0 s1 s2 s3 s4 s5 s6 s7 s8 s9 s10)) (fun q => s.heap.size ≤ q) s.heap H locs → W p l e room_1 s m #[Value.ref b] below meth c H locs 133 47662 Q (F0 m 1380 ls [])) : W p l e room_1 s m #[Value.ref b] below meth c H locs 133 47662 Q (F0 m 592 ls []) := by
  obtain ⟨hx, hb, hml, hown, hts, hK, hX, hbl, hN, haC, hL⟩ := C0
  obtain ⟨rc, rr, hc, hr, heq, hrel2⟩ := st_lend hrel hk (xs (6 * k + 1)) (xs (6 * k + 2))
  refine lv_aload_n hx hb dL_law_592 rfl (lv_at hl 2 rfl) ?_
  refine lv_aload_n hx hb dL_law_593 rfl (lv_at hl 3 rfl) ?_
  refine lv_iload_n hx hb dL_law_594 rfl (lv_at hl 0 rfl) ?_
  refine lv_iconst (v := 1) hx hb dL_law_595 (by decide) ?_
  refine lv_iadd hx hb dL_law_596 ?_
  refine ldX (i := 6 * k + 1) hx hb hX hbl hw.2.2 (nI_add (6 * k) 1) (by omega) hL dL_law_597 ?_
  refine lv_aload_n hx hb dL_law_598 rfl (lv_at hl 3 rfl) ?_
  refine lv_iload_n hx hb dL_law_599 rfl (lv_at hl 0 rfl) ?_
  refine lv_iconst (v := 2) hx hb dL_law_600 (by decide) ?_
  refine lv_iadd hx hb dL_law_601 ?_
  refine ldX (i := 6 * k + 2) hx hb hX hbl hw.2.2 (nI_add (6 * k) 2) (by omega) hL dL_law_602 ?_
  have pg_603 := preG (av := [.ref (aC 10), .int (xs (6 * k + 1)), .int (xs (6 * k + 2))]) hK (lastP hw.1) (lastD hw.2.1) (NL_keep hN hw.2.2 haC) NC_blind
  refine lawI (wr := (cellsM aM cy s11)) (va_runV (As := [.int (xs (6 * k + 1)), .int (xs (6 * k + 2))]) (rest := []) ⟨hx, hb, hml, hown, hts⟩ (m10_lend l D aC cy H.size s0 s1 s2 s3 s4 s5 s6 s7 s8 s9 s10 (xs (6 * k + 1)) (xs (6 * k + 2)) rc hc) (wL_59 hts ⟨Nat.le_of_ble_eq_true rfl, Nat.le_of_ble_eq_true rfl⟩) ⟨pg_603.1, va_recv hK (lastP hw.1) (ci := 10) (q0 := 10) rfl eC_10, pg_603.2⟩ rfl rfl hl.1 rfl (lv_room (Nat.le_of_ble_eq_true rfl)) dL_law_603 ⟨Nat.le_of_ble_eq_true rfl, Nat.le_of_ble_eq_true rfl⟩) hw fstC (fun H locs hw => ?_)
  clear pg_603
  refine lv_aload_n hx hb dL_law_606 rfl (lv_at hl 1 rfl) ?_
  refine lv_aload_n hx hb dL_law_607 rfl (lv_at hl 3 rfl) ?_
  refine lv_iload_n hx hb dL_law_608 rfl (lv_at hl 0 rfl) ?_
  refine lv_iconst (v := 1) hx hb dL_law_609 (by decide) ?_
  refine lv_iadd hx hb dL_law_610 ?_
  refine ldX (i := 6 * k + 1) hx hb hX hbl hw.2.2 (nI_add (6 * k) 1) (by omega) hL dL_law_611 ?_
  refine lv_aload_n hx hb dL_law_612 rfl (lv_at hl 3 rfl) ?_
  refine lv_iload_n hx hb dL_law_613 rfl (lv_at hl 0 rfl) ?_
  refine lv_iconst (v := 2) hx hb dL_law_614 (by decide) ?_
  refine lv_iadd hx hb dL_law_615 ?_
  refine ldX (i := 6 * k + 2) hx hb hX hbl hw.2.2 (nI_add (6 * k) 2) (by omega) hL dL_law_616 ?_
  have hw := swapW hw
  have pg_617 := preG (av := [.ref (aM 0), .int (xs (6 * k + 1)), .int (xs (6 * k + 2))]) hK (lastP hw.1) (lastD hw.2.1) NM_keep NM_blind
  refine lawI (wr := (cellsC aC cy s0 rc.2.1 rc.2.2.1 s3 rc.2.2.2.1 rc.2.2.2.2.1 rc.2.2.2.2.2 s7 s8 s9 s10)) (va_runV (As := [.int (xs (6 * k + 1)), .int (xs (6 * k + 2))]) (rest := [.int rc.1]) ⟨hx, hb, hml, hown, hts⟩ (m11_lend l D aM cy H.size s11 (xs (6 * k + 1)) (xs (6 * k + 2)) rr hr) (wL_62 hts ⟨Nat.le_of_ble_eq_true rfl, Nat.le_of_ble_eq_true rfl⟩) ⟨pg_617.1, va_recv hK (lastP hw.1) (ci := 11) (q0 := 0) rfl eM_0, pg_617.2⟩ rfl rfl hl.1 rfl (lv_room (Nat.le_of_ble_eq_true rfl)) dL_law_617 ⟨Nat.le_of_ble_eq_true rfl, Nat.le_of_ble_eq_true rfl⟩) hw fstM (fun H locs hw => ?_)
  clear pg_617
  have hw := swapW hw
  refine lv_icmp_eq (tgt := 1380) hx hb dL_law_620 (by decide) (fun c_620 => ?_) (fun c_620 => ?_)
  · exact kk s0 rc.2.1 rc.2.2.1 s3 rc.2.2.2.1 rc.2.2.2.2.1 rc.2.2.2.2.2 s7 s8 s9 s10 rr.2 H locs hrel2 hw
  · exact absurd heq c_620
set_option maxHeartbeats 4000000 in
set_option maxRecDepth 100000 in
theorem law_11 {p : Program} {l : Launch} {e : Env} {s : State} {m : MethodId} {below : List Frame} {meth : Method} {c : Code} {b L : Nat} {xs : Nat → Int32} {D : va_G} {cy : Nat → ClassId} {aC aM : Nat → Nat} {Q : State → Prop} (C0 : LCx p s m c b L xs D cy aC) {k : Nat} {s0 s1 s2 s3 s4 s5 s6 s7 s8 s9 s10 s11 : OS} (hrel : Rel k s0 s1 s2 s3 s4 s5 s6 s7 s8 s9 s10 s11) (hk : k < 512) (hkL : 6 * k + 6 ≤ L) {H : Heap} {locs : List Loc} {ls : Array Slot} (hw : Wd D ((cellsM aM cy s11) ++ (cellsC aC cy s0 s1 s2 s3 s4 s5 s6 s7 s8 s9 s10)) (fun q => s.heap.size ≤ q) s.heap H locs) (hl : lv_has ls 4 [(3, .int (nI (6 * k))), (2, .ref (aM 0)), (1, .ref (aC 10)), (0, .ref b)])
    (kk : ∀ (s0 s1 s2 s3 s4 s5 s6 s7 s8 s9 s10 s11 : OS) (H : Heap) (locs : List Loc), Rel (k + 1) s0 s1 s2 s3 s4 s5 s6 s7 s8 s9 s10 s11 → Wd D ((cellsM aM cy s11) ++ (cellsC aC cy s0 s1 s2 s3 s4 s5 s6 s7 s8 s9 s10)) (fun q => s.heap.size ≤ q) s.heap H locs → W p l e room_1 s m #[Value.ref b] below meth c H locs 133 47662 Q (F0 m 1380 ls [])) : W p l e room_1 s m #[Value.ref b] below meth c H locs 133 47662 Q (F0 m 625 ls []) := by
  obtain ⟨hx, hb, hml, hown, hts, hK, hX, hbl, hN, haC, hL⟩ := C0
  obtain ⟨rc, rr, hc, hr, heq, hrel2⟩ := st_back hrel hk (xs (6 * k + 1)) (xs (6 * k + 2)) (xs (6 * k + 3)) (xs (6 * k + 4)) (xs (6 * k + 5))
  refine lv_aload_n hx hb dL_law_625 rfl (lv_at hl 2 rfl) ?_
  refine lv_aload_n hx hb dL_law_626 rfl (lv_at hl 3 rfl) ?_
  refine lv_iload_n hx hb dL_law_627 rfl (lv_at hl 0 rfl) ?_
  refine lv_iconst (v := 1) hx hb dL_law_628 (by decide) ?_
  refine lv_iadd hx hb dL_law_629 ?_
  refine ldX (i := 6 * k + 1) hx hb hX hbl hw.2.2 (nI_add (6 * k) 1) (by omega) hL dL_law_630 ?_
  refine lv_aload_n hx hb dL_law_631 rfl (lv_at hl 3 rfl) ?_
  refine lv_iload_n hx hb dL_law_632 rfl (lv_at hl 0 rfl) ?_
  refine lv_iconst (v := 2) hx hb dL_law_633 (by decide) ?_
  refine lv_iadd hx hb dL_law_634 ?_
  refine ldX (i := 6 * k + 2) hx hb hX hbl hw.2.2 (nI_add (6 * k) 2) (by omega) hL dL_law_635 ?_
  refine lv_aload_n hx hb dL_law_636 rfl (lv_at hl 3 rfl) ?_
  refine lv_iload_n hx hb dL_law_637 rfl (lv_at hl 0 rfl) ?_
  refine lv_iconst (v := 3) hx hb dL_law_638 (by decide) ?_
  refine lv_iadd hx hb dL_law_639 ?_
  refine ldX (i := 6 * k + 3) hx hb hX hbl hw.2.2 (nI_add (6 * k) 3) (by omega) hL dL_law_640 ?_
  refine lv_aload_n hx hb dL_law_641 rfl (lv_at hl 3 rfl) ?_
  refine lv_iload_n hx hb dL_law_642 rfl (lv_at hl 0 rfl) ?_
  refine lv_iconst (v := 4) hx hb dL_law_643 (by decide) ?_
  refine lv_iadd hx hb dL_law_644 ?_
  refine ldX (i := 6 * k + 4) hx hb hX hbl hw.2.2 (nI_add (6 * k) 4) (by omega) hL dL_law_645 ?_
  refine lv_aload_n hx hb dL_law_646 rfl (lv_at hl 3 rfl) ?_
  refine lv_iload_n hx hb dL_law_647 rfl (lv_at hl 0 rfl) ?_
  refine lv_iconst (v := 5) hx hb dL_law_648 (by decide) ?_
  refine lv_iadd hx hb dL_law_649 ?_
  refine ldX (i := 6 * k + 5) hx hb hX hbl hw.2.2 (nI_add (6 * k) 5) (by omega) hL dL_law_650 ?_
  have pg_651 := preG (av := [.ref (aC 10), .int (xs (6 * k + 1)), .int (xs (6 * k + 2)), .int (xs (6 * k + 3)), .int (xs (6 * k + 4)), .int (xs (6 * k + 5))]) hK (lastP hw.1) (lastD hw.2.1) (NL_keep hN hw.2.2 haC) NC_blind
  refine lawI (wr := (cellsM aM cy s11)) (va_runV (As := [.int (xs (6 * k + 1)), .int (xs (6 * k + 2)), .int (xs (6 * k + 3)), .int (xs (6 * k + 4)), .int (xs (6 * k + 5))]) (rest := []) ⟨hx, hb, hml, hown, hts⟩ (m10_back l D aC cy H.size s0 s1 s2 s3 s4 s5 s6 s7 s8 s9 s10 (xs (6 * k + 1)) (xs (6 * k + 2)) (xs (6 * k + 3)) (xs (6 * k + 4)) (xs (6 * k + 5)) rc hc) (wL_63 hts ⟨Nat.le_of_ble_eq_true rfl, Nat.le_of_ble_eq_true rfl⟩) ⟨pg_651.1, va_recv hK (lastP hw.1) (ci := 10) (q0 := 10) rfl eC_10, pg_651.2⟩ rfl rfl hl.1 rfl (lv_room (Nat.le_of_ble_eq_true rfl)) dL_law_651 ⟨Nat.le_of_ble_eq_true rfl, Nat.le_of_ble_eq_true rfl⟩) hw fstC (fun H locs hw => ?_)
  clear pg_651
  refine lv_aload_n hx hb dL_law_654 rfl (lv_at hl 1 rfl) ?_
  refine lv_aload_n hx hb dL_law_655 rfl (lv_at hl 3 rfl) ?_
  refine lv_iload_n hx hb dL_law_656 rfl (lv_at hl 0 rfl) ?_
  refine lv_iconst (v := 1) hx hb dL_law_657 (by decide) ?_
  refine lv_iadd hx hb dL_law_658 ?_
  refine ldX (i := 6 * k + 1) hx hb hX hbl hw.2.2 (nI_add (6 * k) 1) (by omega) hL dL_law_659 ?_
  refine lv_aload_n hx hb dL_law_660 rfl (lv_at hl 3 rfl) ?_
  refine lv_iload_n hx hb dL_law_661 rfl (lv_at hl 0 rfl) ?_
  refine lv_iconst (v := 2) hx hb dL_law_662 (by decide) ?_
  refine lv_iadd hx hb dL_law_663 ?_
  refine ldX (i := 6 * k + 2) hx hb hX hbl hw.2.2 (nI_add (6 * k) 2) (by omega) hL dL_law_664 ?_
  refine lv_aload_n hx hb dL_law_665 rfl (lv_at hl 3 rfl) ?_
  refine lv_iload_n hx hb dL_law_666 rfl (lv_at hl 0 rfl) ?_
  refine lv_iconst (v := 3) hx hb dL_law_667 (by decide) ?_
  refine lv_iadd hx hb dL_law_668 ?_
  refine ldX (i := 6 * k + 3) hx hb hX hbl hw.2.2 (nI_add (6 * k) 3) (by omega) hL dL_law_669 ?_
  refine lv_aload_n hx hb dL_law_670 rfl (lv_at hl 3 rfl) ?_
  refine lv_iload_n hx hb dL_law_671 rfl (lv_at hl 0 rfl) ?_
  refine lv_iconst (v := 4) hx hb dL_law_672 (by decide) ?_
  refine lv_iadd hx hb dL_law_673 ?_
  refine ldX (i := 6 * k + 4) hx hb hX hbl hw.2.2 (nI_add (6 * k) 4) (by omega) hL dL_law_674 ?_
  refine lv_aload_n hx hb dL_law_675 rfl (lv_at hl 3 rfl) ?_
  refine lv_iload_n hx hb dL_law_676 rfl (lv_at hl 0 rfl) ?_
  refine lv_iconst (v := 5) hx hb dL_law_677 (by decide) ?_
  refine lv_iadd hx hb dL_law_678 ?_
  refine ldX (i := 6 * k + 5) hx hb hX hbl hw.2.2 (nI_add (6 * k) 5) (by omega) hL dL_law_679 ?_
  have hw := swapW hw
  have pg_680 := preG (av := [.ref (aM 0), .int (xs (6 * k + 1)), .int (xs (6 * k + 2)), .int (xs (6 * k + 3)), .int (xs (6 * k + 4)), .int (xs (6 * k + 5))]) hK (lastP hw.1) (lastD hw.2.1) NM_keep NM_blind
  refine lawI (wr := (cellsC aC cy s0 rc.2.1 rc.2.2.1 s3 rc.2.2.2 s5 s6 s7 s8 s9 s10)) (va_runV (As := [.int (xs (6 * k + 1)), .int (xs (6 * k + 2)), .int (xs (6 * k + 3)), .int (xs (6 * k + 4)), .int (xs (6 * k + 5))]) (rest := [.int rc.1]) ⟨hx, hb, hml, hown, hts⟩ (m11_back l D aM cy H.size s11 (xs (6 * k + 1)) (xs (6 * k + 2)) (xs (6 * k + 3)) (xs (6 * k + 4)) (xs (6 * k + 5)) rr hr) (wL_66 hts ⟨Nat.le_of_ble_eq_true rfl, Nat.le_of_ble_eq_true rfl⟩) ⟨pg_680.1, va_recv hK (lastP hw.1) (ci := 11) (q0 := 0) rfl eM_0, pg_680.2⟩ rfl rfl hl.1 rfl (lv_room (Nat.le_of_ble_eq_true rfl)) dL_law_680 ⟨Nat.le_of_ble_eq_true rfl, Nat.le_of_ble_eq_true rfl⟩) hw fstM (fun H locs hw => ?_)
  clear pg_680
  have hw := swapW hw
  refine lv_icmp_eq (tgt := 1380) hx hb dL_law_683 (by decide) (fun c_683 => ?_) (fun c_683 => ?_)
  · exact kk s0 rc.2.1 rc.2.2.1 s3 rc.2.2.2 s5 s6 s7 s8 s9 s10 rr.2 H locs hrel2 hw
  · exact absurd heq c_683
set_option maxHeartbeats 4000000 in
set_option maxRecDepth 100000 in
theorem law_12 {p : Program} {l : Launch} {e : Env} {s : State} {m : MethodId} {below : List Frame} {meth : Method} {c : Code} {b L : Nat} {xs : Nat → Int32} {D : va_G} {cy : Nat → ClassId} {aC aM : Nat → Nat} {Q : State → Prop} (C0 : LCx p s m c b L xs D cy aC) {k : Nat} {s0 s1 s2 s3 s4 s5 s6 s7 s8 s9 s10 s11 : OS} (hrel : Rel k s0 s1 s2 s3 s4 s5 s6 s7 s8 s9 s10 s11) (hk : k < 512) (hkL : 6 * k + 6 ≤ L) {H : Heap} {locs : List Loc} {ls : Array Slot} (hw : Wd D ((cellsM aM cy s11) ++ (cellsC aC cy s0 s1 s2 s3 s4 s5 s6 s7 s8 s9 s10)) (fun q => s.heap.size ≤ q) s.heap H locs) (hl : lv_has ls 4 [(3, .int (nI (6 * k))), (2, .ref (aM 0)), (1, .ref (aC 10)), (0, .ref b)])
    (kk : ∀ (s0 s1 s2 s3 s4 s5 s6 s7 s8 s9 s10 s11 : OS) (H : Heap) (locs : List Loc), Rel (k + 1) s0 s1 s2 s3 s4 s5 s6 s7 s8 s9 s10 s11 → Wd D ((cellsM aM cy s11) ++ (cellsC aC cy s0 s1 s2 s3 s4 s5 s6 s7 s8 s9 s10)) (fun q => s.heap.size ≤ q) s.heap H locs → W p l e room_1 s m #[Value.ref b] below meth c H locs 133 47662 Q (F0 m 1380 ls [])) : W p l e room_1 s m #[Value.ref b] below meth c H locs 133 47662 Q (F0 m 688 ls []) := by
  obtain ⟨hx, hb, hml, hown, hts, hK, hX, hbl, hN, haC, hL⟩ := C0
  obtain ⟨rc, rr, hc, hr, heq, hrel2⟩ := st_loan hrel hk (xs (6 * k + 1)) (xs (6 * k + 2))
  refine lv_aload_n hx hb dL_law_688 rfl (lv_at hl 2 rfl) ?_
  refine lv_aload_n hx hb dL_law_689 rfl (lv_at hl 3 rfl) ?_
  refine lv_iload_n hx hb dL_law_690 rfl (lv_at hl 0 rfl) ?_
  refine lv_iconst (v := 1) hx hb dL_law_691 (by decide) ?_
  refine lv_iadd hx hb dL_law_692 ?_
  refine ldX (i := 6 * k + 1) hx hb hX hbl hw.2.2 (nI_add (6 * k) 1) (by omega) hL dL_law_693 ?_
  refine lv_aload_n hx hb dL_law_694 rfl (lv_at hl 3 rfl) ?_
  refine lv_iload_n hx hb dL_law_695 rfl (lv_at hl 0 rfl) ?_
  refine lv_iconst (v := 2) hx hb dL_law_696 (by decide) ?_
  refine lv_iadd hx hb dL_law_697 ?_
  refine ldX (i := 6 * k + 2) hx hb hX hbl hw.2.2 (nI_add (6 * k) 2) (by omega) hL dL_law_698 ?_
  have pg_699 := preG (av := [.ref (aC 10), .int (xs (6 * k + 1)), .int (xs (6 * k + 2))]) hK (lastP hw.1) (lastD hw.2.1) (NL_keep hN hw.2.2 haC) NC_blind
  refine lawI (wr := (cellsM aM cy s11)) (va_runV (As := [.int (xs (6 * k + 1)), .int (xs (6 * k + 2))]) (rest := []) ⟨hx, hb, hml, hown, hts⟩ (m10_loan l D aC cy H.size s0 s1 s2 s3 s4 s5 s6 s7 s8 s9 s10 (xs (6 * k + 1)) (xs (6 * k + 2)) rc hc) (wL_67 hts ⟨Nat.le_of_ble_eq_true rfl, Nat.le_of_ble_eq_true rfl⟩) ⟨pg_699.1, va_recv hK (lastP hw.1) (ci := 10) (q0 := 10) rfl eC_10, pg_699.2⟩ rfl rfl hl.1 rfl (lv_room (Nat.le_of_ble_eq_true rfl)) dL_law_699 ⟨Nat.le_of_ble_eq_true rfl, Nat.le_of_ble_eq_true rfl⟩) hw fstC (fun H locs hw => ?_)
  clear pg_699
  refine lv_aload_n hx hb dL_law_702 rfl (lv_at hl 1 rfl) ?_
  refine lv_aload_n hx hb dL_law_703 rfl (lv_at hl 3 rfl) ?_
  refine lv_iload_n hx hb dL_law_704 rfl (lv_at hl 0 rfl) ?_
  refine lv_iconst (v := 1) hx hb dL_law_705 (by decide) ?_
  refine lv_iadd hx hb dL_law_706 ?_
  refine ldX (i := 6 * k + 1) hx hb hX hbl hw.2.2 (nI_add (6 * k) 1) (by omega) hL dL_law_707 ?_
  refine lv_aload_n hx hb dL_law_708 rfl (lv_at hl 3 rfl) ?_
  refine lv_iload_n hx hb dL_law_709 rfl (lv_at hl 0 rfl) ?_
  refine lv_iconst (v := 2) hx hb dL_law_710 (by decide) ?_
  refine lv_iadd hx hb dL_law_711 ?_
  refine ldX (i := 6 * k + 2) hx hb hX hbl hw.2.2 (nI_add (6 * k) 2) (by omega) hL dL_law_712 ?_
  have hw := swapW hw
  have pg_713 := preG (av := [.ref (aM 0), .int (xs (6 * k + 1)), .int (xs (6 * k + 2))]) hK (lastP hw.1) (lastD hw.2.1) NM_keep NM_blind
  refine lawI (wr := (cellsC aC cy s0 s1 s2 s3 s4 s5 s6 s7 s8 s9 s10)) (va_runV (As := [.int (xs (6 * k + 1)), .int (xs (6 * k + 2))]) (rest := [.int rc]) ⟨hx, hb, hml, hown, hts⟩ (m11_loan l D aM cy H.size s11 (xs (6 * k + 1)) (xs (6 * k + 2)) rr hr) (wL_70 hts ⟨Nat.le_of_ble_eq_true rfl, Nat.le_of_ble_eq_true rfl⟩) ⟨pg_713.1, va_recv hK (lastP hw.1) (ci := 11) (q0 := 0) rfl eM_0, pg_713.2⟩ rfl rfl hl.1 rfl (lv_room (Nat.le_of_ble_eq_true rfl)) dL_law_713 ⟨Nat.le_of_ble_eq_true rfl, Nat.le_of_ble_eq_true rfl⟩) hw fstM (fun H locs hw => ?_)
  clear pg_713
  have hw := swapW hw
  refine lv_icmp_eq (tgt := 1380) hx hb dL_law_716 (by decide) (fun c_716 => ?_) (fun c_716 => ?_)
  · exact kk s0 s1 s2 s3 s4 s5 s6 s7 s8 s9 s10 s11 H locs hrel2 hw
  · exact absurd heq c_716
set_option maxHeartbeats 4000000 in
set_option maxRecDepth 100000 in
theorem law_13 {p : Program} {l : Launch} {e : Env} {s : State} {m : MethodId} {below : List Frame} {meth : Method} {c : Code} {b L : Nat} {xs : Nat → Int32} {D : va_G} {cy : Nat → ClassId} {aC aM : Nat → Nat} {Q : State → Prop} (C0 : LCx p s m c b L xs D cy aC) {k : Nat} {s0 s1 s2 s3 s4 s5 s6 s7 s8 s9 s10 s11 : OS} (hrel : Rel k s0 s1 s2 s3 s4 s5 s6 s7 s8 s9 s10 s11) (hk : k < 512) (hkL : 6 * k + 6 ≤ L) {H : Heap} {locs : List Loc} {ls : Array Slot} (hw : Wd D ((cellsM aM cy s11) ++ (cellsC aC cy s0 s1 s2 s3 s4 s5 s6 s7 s8 s9 s10)) (fun q => s.heap.size ≤ q) s.heap H locs) (hl : lv_has ls 4 [(3, .int (nI (6 * k))), (2, .ref (aM 0)), (1, .ref (aC 10)), (0, .ref b)])
    (kk : ∀ (s0 s1 s2 s3 s4 s5 s6 s7 s8 s9 s10 s11 : OS) (H : Heap) (locs : List Loc), Rel (k + 1) s0 s1 s2 s3 s4 s5 s6 s7 s8 s9 s10 s11 → Wd D ((cellsM aM cy s11) ++ (cellsC aC cy s0 s1 s2 s3 s4 s5 s6 s7 s8 s9 s10)) (fun q => s.heap.size ≤ q) s.heap H locs → W p l e room_1 s m #[Value.ref b] below meth c H locs 133 47662 Q (F0 m 1380 ls [])) : W p l e room_1 s m #[Value.ref b] below meth c H locs 133 47662 Q (F0 m 721 ls []) := by
  obtain ⟨hx, hb, hml, hown, hts, hK, hX, hbl, hN, haC, hL⟩ := C0
  obtain ⟨rc, rr, hc, hr, heq, hrel2⟩ := st_piece hrel hk (xs (6 * k + 1)) (xs (6 * k + 2))
  refine lv_aload_n hx hb dL_law_721 rfl (lv_at hl 2 rfl) ?_
  refine lv_aload_n hx hb dL_law_722 rfl (lv_at hl 3 rfl) ?_
  refine lv_iload_n hx hb dL_law_723 rfl (lv_at hl 0 rfl) ?_
  refine lv_iconst (v := 1) hx hb dL_law_724 (by decide) ?_
  refine lv_iadd hx hb dL_law_725 ?_
  refine ldX (i := 6 * k + 1) hx hb hX hbl hw.2.2 (nI_add (6 * k) 1) (by omega) hL dL_law_726 ?_
  refine lv_aload_n hx hb dL_law_727 rfl (lv_at hl 3 rfl) ?_
  refine lv_iload_n hx hb dL_law_728 rfl (lv_at hl 0 rfl) ?_
  refine lv_iconst (v := 2) hx hb dL_law_729 (by decide) ?_
  refine lv_iadd hx hb dL_law_730 ?_
  refine ldX (i := 6 * k + 2) hx hb hX hbl hw.2.2 (nI_add (6 * k) 2) (by omega) hL dL_law_731 ?_
  have pg_732 := preG (av := [.ref (aC 10), .int (xs (6 * k + 1)), .int (xs (6 * k + 2))]) hK (lastP hw.1) (lastD hw.2.1) (NL_keep hN hw.2.2 haC) NC_blind
  refine lawI (wr := (cellsM aM cy s11)) (va_runV (As := [.int (xs (6 * k + 1)), .int (xs (6 * k + 2))]) (rest := []) ⟨hx, hb, hml, hown, hts⟩ (m10_piece l D aC cy H.size s0 s1 s2 s3 s4 s5 s6 s7 s8 s9 s10 (xs (6 * k + 1)) (xs (6 * k + 2)) rc hc) (wL_71 hts ⟨Nat.le_of_ble_eq_true rfl, Nat.le_of_ble_eq_true rfl⟩) ⟨pg_732.1, va_recv hK (lastP hw.1) (ci := 10) (q0 := 10) rfl eC_10, pg_732.2⟩ rfl rfl hl.1 rfl (lv_room (Nat.le_of_ble_eq_true rfl)) dL_law_732 ⟨Nat.le_of_ble_eq_true rfl, Nat.le_of_ble_eq_true rfl⟩) hw fstC (fun H locs hw => ?_)
  clear pg_732
  refine lv_aload_n hx hb dL_law_735 rfl (lv_at hl 1 rfl) ?_
  refine lv_aload_n hx hb dL_law_736 rfl (lv_at hl 3 rfl) ?_
  refine lv_iload_n hx hb dL_law_737 rfl (lv_at hl 0 rfl) ?_
  refine lv_iconst (v := 1) hx hb dL_law_738 (by decide) ?_
  refine lv_iadd hx hb dL_law_739 ?_
  refine ldX (i := 6 * k + 1) hx hb hX hbl hw.2.2 (nI_add (6 * k) 1) (by omega) hL dL_law_740 ?_
  refine lv_aload_n hx hb dL_law_741 rfl (lv_at hl 3 rfl) ?_
  refine lv_iload_n hx hb dL_law_742 rfl (lv_at hl 0 rfl) ?_
  refine lv_iconst (v := 2) hx hb dL_law_743 (by decide) ?_
  refine lv_iadd hx hb dL_law_744 ?_
  refine ldX (i := 6 * k + 2) hx hb hX hbl hw.2.2 (nI_add (6 * k) 2) (by omega) hL dL_law_745 ?_
  have hw := swapW hw
  have pg_746 := preG (av := [.ref (aM 0), .int (xs (6 * k + 1)), .int (xs (6 * k + 2))]) hK (lastP hw.1) (lastD hw.2.1) NM_keep NM_blind
  refine lawI (wr := (cellsC aC cy s0 s1 s2 s3 s4 s5 s6 s7 s8 s9 s10)) (va_runV (As := [.int (xs (6 * k + 1)), .int (xs (6 * k + 2))]) (rest := [.int rc]) ⟨hx, hb, hml, hown, hts⟩ (m11_piece l D aM cy H.size s11 (xs (6 * k + 1)) (xs (6 * k + 2)) rr hr) (wL_74 hts ⟨Nat.le_of_ble_eq_true rfl, Nat.le_of_ble_eq_true rfl⟩) ⟨pg_746.1, va_recv hK (lastP hw.1) (ci := 11) (q0 := 0) rfl eM_0, pg_746.2⟩ rfl rfl hl.1 rfl (lv_room (Nat.le_of_ble_eq_true rfl)) dL_law_746 ⟨Nat.le_of_ble_eq_true rfl, Nat.le_of_ble_eq_true rfl⟩) hw fstM (fun H locs hw => ?_)
  clear pg_746
  have hw := swapW hw
  refine lv_icmp_eq (tgt := 1380) hx hb dL_law_749 (by decide) (fun c_749 => ?_) (fun c_749 => ?_)
  · exact kk s0 s1 s2 s3 s4 s5 s6 s7 s8 s9 s10 s11 H locs hrel2 hw
  · exact absurd heq c_749
set_option maxHeartbeats 4000000 in
set_option maxRecDepth 100000 in
theorem law_14 {p : Program} {l : Launch} {e : Env} {s : State} {m : MethodId} {below : List Frame} {meth : Method} {c : Code} {b L : Nat} {xs : Nat → Int32} {D : va_G} {cy : Nat → ClassId} {aC aM : Nat → Nat} {Q : State → Prop} (C0 : LCx p s m c b L xs D cy aC) {k : Nat} {s0 s1 s2 s3 s4 s5 s6 s7 s8 s9 s10 s11 : OS} (hrel : Rel k s0 s1 s2 s3 s4 s5 s6 s7 s8 s9 s10 s11) (hk : k < 512) (hkL : 6 * k + 6 ≤ L) {H : Heap} {locs : List Loc} {ls : Array Slot} (hw : Wd D ((cellsM aM cy s11) ++ (cellsC aC cy s0 s1 s2 s3 s4 s5 s6 s7 s8 s9 s10)) (fun q => s.heap.size ≤ q) s.heap H locs) (hl : lv_has ls 4 [(3, .int (nI (6 * k))), (2, .ref (aM 0)), (1, .ref (aC 10)), (0, .ref b)])
    (kk : ∀ (s0 s1 s2 s3 s4 s5 s6 s7 s8 s9 s10 s11 : OS) (H : Heap) (locs : List Loc), Rel (k + 1) s0 s1 s2 s3 s4 s5 s6 s7 s8 s9 s10 s11 → Wd D ((cellsM aM cy s11) ++ (cellsC aC cy s0 s1 s2 s3 s4 s5 s6 s7 s8 s9 s10)) (fun q => s.heap.size ≤ q) s.heap H locs → W p l e room_1 s m #[Value.ref b] below meth c H locs 133 47662 Q (F0 m 1380 ls [])) : W p l e room_1 s m #[Value.ref b] below meth c H locs 133 47662 Q (F0 m 754 ls []) := by
  obtain ⟨hx, hb, hml, hown, hts, hK, hX, hbl, hN, haC, hL⟩ := C0
  obtain ⟨rc, rr, hc, hr, heq, hrel2⟩ := st_was hrel hk (xs (6 * k + 1)) (xs (6 * k + 2)) (xs (6 * k + 3))
  refine lv_aload_n hx hb dL_law_754 rfl (lv_at hl 2 rfl) ?_
  refine lv_aload_n hx hb dL_law_755 rfl (lv_at hl 3 rfl) ?_
  refine lv_iload_n hx hb dL_law_756 rfl (lv_at hl 0 rfl) ?_
  refine lv_iconst (v := 1) hx hb dL_law_757 (by decide) ?_
  refine lv_iadd hx hb dL_law_758 ?_
  refine ldX (i := 6 * k + 1) hx hb hX hbl hw.2.2 (nI_add (6 * k) 1) (by omega) hL dL_law_759 ?_
  refine lv_aload_n hx hb dL_law_760 rfl (lv_at hl 3 rfl) ?_
  refine lv_iload_n hx hb dL_law_761 rfl (lv_at hl 0 rfl) ?_
  refine lv_iconst (v := 2) hx hb dL_law_762 (by decide) ?_
  refine lv_iadd hx hb dL_law_763 ?_
  refine ldX (i := 6 * k + 2) hx hb hX hbl hw.2.2 (nI_add (6 * k) 2) (by omega) hL dL_law_764 ?_
  refine lv_aload_n hx hb dL_law_765 rfl (lv_at hl 3 rfl) ?_
  refine lv_iload_n hx hb dL_law_766 rfl (lv_at hl 0 rfl) ?_
  refine lv_iconst (v := 3) hx hb dL_law_767 (by decide) ?_
  refine lv_iadd hx hb dL_law_768 ?_
  refine ldX (i := 6 * k + 3) hx hb hX hbl hw.2.2 (nI_add (6 * k) 3) (by omega) hL dL_law_769 ?_
  have pg_770 := preG (av := [.ref (aC 10), .int (xs (6 * k + 1)), .int (xs (6 * k + 2)), .int (xs (6 * k + 3))]) hK (lastP hw.1) (lastD hw.2.1) (NL_keep hN hw.2.2 haC) NC_blind
  refine lawI (wr := (cellsM aM cy s11)) (va_runV (As := [.int (xs (6 * k + 1)), .int (xs (6 * k + 2)), .int (xs (6 * k + 3))]) (rest := []) ⟨hx, hb, hml, hown, hts⟩ (m10_was l D aC cy H.size s0 s1 s2 s3 s4 s5 s6 s7 s8 s9 s10 (xs (6 * k + 1)) (xs (6 * k + 2)) (xs (6 * k + 3)) rc hc) (wL_75 hts ⟨Nat.le_of_ble_eq_true rfl, Nat.le_of_ble_eq_true rfl⟩) ⟨pg_770.1, va_recv hK (lastP hw.1) (ci := 10) (q0 := 10) rfl eC_10, pg_770.2⟩ rfl rfl hl.1 rfl (lv_room (Nat.le_of_ble_eq_true rfl)) dL_law_770 ⟨Nat.le_of_ble_eq_true rfl, Nat.le_of_ble_eq_true rfl⟩) hw fstC (fun H locs hw => ?_)
  clear pg_770
  refine lv_aload_n hx hb dL_law_773 rfl (lv_at hl 1 rfl) ?_
  refine lv_aload_n hx hb dL_law_774 rfl (lv_at hl 3 rfl) ?_
  refine lv_iload_n hx hb dL_law_775 rfl (lv_at hl 0 rfl) ?_
  refine lv_iconst (v := 1) hx hb dL_law_776 (by decide) ?_
  refine lv_iadd hx hb dL_law_777 ?_
  refine ldX (i := 6 * k + 1) hx hb hX hbl hw.2.2 (nI_add (6 * k) 1) (by omega) hL dL_law_778 ?_
  refine lv_aload_n hx hb dL_law_779 rfl (lv_at hl 3 rfl) ?_
  refine lv_iload_n hx hb dL_law_780 rfl (lv_at hl 0 rfl) ?_
  refine lv_iconst (v := 2) hx hb dL_law_781 (by decide) ?_
  refine lv_iadd hx hb dL_law_782 ?_
  refine ldX (i := 6 * k + 2) hx hb hX hbl hw.2.2 (nI_add (6 * k) 2) (by omega) hL dL_law_783 ?_
  refine lv_aload_n hx hb dL_law_784 rfl (lv_at hl 3 rfl) ?_
  refine lv_iload_n hx hb dL_law_785 rfl (lv_at hl 0 rfl) ?_
  refine lv_iconst (v := 3) hx hb dL_law_786 (by decide) ?_
  refine lv_iadd hx hb dL_law_787 ?_
  refine ldX (i := 6 * k + 3) hx hb hX hbl hw.2.2 (nI_add (6 * k) 3) (by omega) hL dL_law_788 ?_
  have hw := swapW hw
  have pg_789 := preG (av := [.ref (aM 0), .int (xs (6 * k + 1)), .int (xs (6 * k + 2)), .int (xs (6 * k + 3))]) hK (lastP hw.1) (lastD hw.2.1) NM_keep NM_blind
  refine lawI (wr := (cellsC aC cy s0 s1 s2 s3 s4 s5 s6 s7 s8 s9 s10)) (va_runV (As := [.int (xs (6 * k + 1)), .int (xs (6 * k + 2)), .int (xs (6 * k + 3))]) (rest := [.int rc]) ⟨hx, hb, hml, hown, hts⟩ (m11_was l D aM cy H.size s11 (xs (6 * k + 1)) (xs (6 * k + 2)) (xs (6 * k + 3)) rr hr) (wL_78 hts ⟨Nat.le_of_ble_eq_true rfl, Nat.le_of_ble_eq_true rfl⟩) ⟨pg_789.1, va_recv hK (lastP hw.1) (ci := 11) (q0 := 0) rfl eM_0, pg_789.2⟩ rfl rfl hl.1 rfl (lv_room (Nat.le_of_ble_eq_true rfl)) dL_law_789 ⟨Nat.le_of_ble_eq_true rfl, Nat.le_of_ble_eq_true rfl⟩) hw fstM (fun H locs hw => ?_)
  clear pg_789
  have hw := swapW hw
  refine lv_icmp_eq (tgt := 1380) hx hb dL_law_792 (by decide) (fun c_792 => ?_) (fun c_792 => ?_)
  · exact kk s0 s1 s2 s3 s4 s5 s6 s7 s8 s9 s10 s11 H locs hrel2 hw
  · exact absurd heq c_792
set_option maxHeartbeats 4000000 in
set_option maxRecDepth 100000 in
theorem law_15 {p : Program} {l : Launch} {e : Env} {s : State} {m : MethodId} {below : List Frame} {meth : Method} {c : Code} {b L : Nat} {xs : Nat → Int32} {D : va_G} {cy : Nat → ClassId} {aC aM : Nat → Nat} {Q : State → Prop} (C0 : LCx p s m c b L xs D cy aC) {k : Nat} {s0 s1 s2 s3 s4 s5 s6 s7 s8 s9 s10 s11 : OS} (hrel : Rel k s0 s1 s2 s3 s4 s5 s6 s7 s8 s9 s10 s11) (hk : k < 512) (hkL : 6 * k + 6 ≤ L) {H : Heap} {locs : List Loc} {ls : Array Slot} (hw : Wd D ((cellsM aM cy s11) ++ (cellsC aC cy s0 s1 s2 s3 s4 s5 s6 s7 s8 s9 s10)) (fun q => s.heap.size ≤ q) s.heap H locs) (hl : lv_has ls 4 [(3, .int (nI (6 * k))), (2, .ref (aM 0)), (1, .ref (aC 10)), (0, .ref b)])
    (kk : ∀ (s0 s1 s2 s3 s4 s5 s6 s7 s8 s9 s10 s11 : OS) (H : Heap) (locs : List Loc), Rel (k + 1) s0 s1 s2 s3 s4 s5 s6 s7 s8 s9 s10 s11 → Wd D ((cellsM aM cy s11) ++ (cellsC aC cy s0 s1 s2 s3 s4 s5 s6 s7 s8 s9 s10)) (fun q => s.heap.size ≤ q) s.heap H locs → W p l e room_1 s m #[Value.ref b] below meth c H locs 133 47662 Q (F0 m 1380 ls [])) : W p l e room_1 s m #[Value.ref b] below meth c H locs 133 47662 Q (F0 m 797 ls []) := by
  obtain ⟨hx, hb, hml, hown, hts, hK, hX, hbl, hN, haC, hL⟩ := C0
  obtain ⟨rc, rr, hc, hr, heq, hrel2⟩ := st_weigh hrel hk (xs (6 * k + 1)) (xs (6 * k + 2)) (xs (6 * k + 3)) (xs (6 * k + 4))
  refine lv_aload_n hx hb dL_law_797 rfl (lv_at hl 2 rfl) ?_
  refine lv_aload_n hx hb dL_law_798 rfl (lv_at hl 3 rfl) ?_
  refine lv_iload_n hx hb dL_law_799 rfl (lv_at hl 0 rfl) ?_
  refine lv_iconst (v := 1) hx hb dL_law_800 (by decide) ?_
  refine lv_iadd hx hb dL_law_801 ?_
  refine ldX (i := 6 * k + 1) hx hb hX hbl hw.2.2 (nI_add (6 * k) 1) (by omega) hL dL_law_802 ?_
  refine lv_aload_n hx hb dL_law_803 rfl (lv_at hl 3 rfl) ?_
  refine lv_iload_n hx hb dL_law_804 rfl (lv_at hl 0 rfl) ?_
  refine lv_iconst (v := 2) hx hb dL_law_805 (by decide) ?_
  refine lv_iadd hx hb dL_law_806 ?_
  refine ldX (i := 6 * k + 2) hx hb hX hbl hw.2.2 (nI_add (6 * k) 2) (by omega) hL dL_law_807 ?_
  refine lv_aload_n hx hb dL_law_808 rfl (lv_at hl 3 rfl) ?_
  refine lv_iload_n hx hb dL_law_809 rfl (lv_at hl 0 rfl) ?_
  refine lv_iconst (v := 3) hx hb dL_law_810 (by decide) ?_
  refine lv_iadd hx hb dL_law_811 ?_
  refine ldX (i := 6 * k + 3) hx hb hX hbl hw.2.2 (nI_add (6 * k) 3) (by omega) hL dL_law_812 ?_
  refine lv_aload_n hx hb dL_law_813 rfl (lv_at hl 3 rfl) ?_
  refine lv_iload_n hx hb dL_law_814 rfl (lv_at hl 0 rfl) ?_
  refine lv_iconst (v := 4) hx hb dL_law_815 (by decide) ?_
  refine lv_iadd hx hb dL_law_816 ?_
  refine ldX (i := 6 * k + 4) hx hb hX hbl hw.2.2 (nI_add (6 * k) 4) (by omega) hL dL_law_817 ?_
  have pg_818 := preG (av := [.ref (aC 10), .int (xs (6 * k + 1)), .int (xs (6 * k + 2)), .int (xs (6 * k + 3)), .int (xs (6 * k + 4))]) hK (lastP hw.1) (lastD hw.2.1) (NL_keep hN hw.2.2 haC) NC_blind
  refine lawI (wr := (cellsM aM cy s11)) (va_runV (As := [.int (xs (6 * k + 1)), .int (xs (6 * k + 2)), .int (xs (6 * k + 3)), .int (xs (6 * k + 4))]) (rest := []) ⟨hx, hb, hml, hown, hts⟩ (m10_weigh l D aC cy H.size s0 s1 s2 s3 s4 s5 s6 s7 s8 s9 s10 (xs (6 * k + 1)) (xs (6 * k + 2)) (xs (6 * k + 3)) (xs (6 * k + 4)) rc hc) (wL_79 hts ⟨Nat.le_of_ble_eq_true rfl, Nat.le_of_ble_eq_true rfl⟩) ⟨pg_818.1, va_recv hK (lastP hw.1) (ci := 10) (q0 := 10) rfl eC_10, pg_818.2⟩ rfl rfl hl.1 rfl (lv_room (Nat.le_of_ble_eq_true rfl)) dL_law_818 ⟨Nat.le_of_ble_eq_true rfl, Nat.le_of_ble_eq_true rfl⟩) hw fstC (fun H locs hw => ?_)
  clear pg_818
  refine lv_aload_n hx hb dL_law_821 rfl (lv_at hl 1 rfl) ?_
  refine lv_aload_n hx hb dL_law_822 rfl (lv_at hl 3 rfl) ?_
  refine lv_iload_n hx hb dL_law_823 rfl (lv_at hl 0 rfl) ?_
  refine lv_iconst (v := 1) hx hb dL_law_824 (by decide) ?_
  refine lv_iadd hx hb dL_law_825 ?_
  refine ldX (i := 6 * k + 1) hx hb hX hbl hw.2.2 (nI_add (6 * k) 1) (by omega) hL dL_law_826 ?_
  refine lv_aload_n hx hb dL_law_827 rfl (lv_at hl 3 rfl) ?_
  refine lv_iload_n hx hb dL_law_828 rfl (lv_at hl 0 rfl) ?_
  refine lv_iconst (v := 2) hx hb dL_law_829 (by decide) ?_
  refine lv_iadd hx hb dL_law_830 ?_
  refine ldX (i := 6 * k + 2) hx hb hX hbl hw.2.2 (nI_add (6 * k) 2) (by omega) hL dL_law_831 ?_
  refine lv_aload_n hx hb dL_law_832 rfl (lv_at hl 3 rfl) ?_
  refine lv_iload_n hx hb dL_law_833 rfl (lv_at hl 0 rfl) ?_
  refine lv_iconst (v := 3) hx hb dL_law_834 (by decide) ?_
  refine lv_iadd hx hb dL_law_835 ?_
  refine ldX (i := 6 * k + 3) hx hb hX hbl hw.2.2 (nI_add (6 * k) 3) (by omega) hL dL_law_836 ?_
  refine lv_aload_n hx hb dL_law_837 rfl (lv_at hl 3 rfl) ?_
  refine lv_iload_n hx hb dL_law_838 rfl (lv_at hl 0 rfl) ?_
  refine lv_iconst (v := 4) hx hb dL_law_839 (by decide) ?_
  refine lv_iadd hx hb dL_law_840 ?_
  refine ldX (i := 6 * k + 4) hx hb hX hbl hw.2.2 (nI_add (6 * k) 4) (by omega) hL dL_law_841 ?_
  have hw := swapW hw
  have pg_842 := preG (av := [.ref (aM 0), .int (xs (6 * k + 1)), .int (xs (6 * k + 2)), .int (xs (6 * k + 3)), .int (xs (6 * k + 4))]) hK (lastP hw.1) (lastD hw.2.1) NM_keep NM_blind
  refine lawI (wr := (cellsC aC cy s0 s1 s2 s3 s4 s5 s6 rc.2 s8 s9 s10)) (va_runV (As := [.int (xs (6 * k + 1)), .int (xs (6 * k + 2)), .int (xs (6 * k + 3)), .int (xs (6 * k + 4))]) (rest := [.int rc.1]) ⟨hx, hb, hml, hown, hts⟩ (m11_weigh l D aM cy H.size s11 (xs (6 * k + 1)) (xs (6 * k + 2)) (xs (6 * k + 3)) (xs (6 * k + 4)) rr hr) (wL_83 hts ⟨Nat.le_of_ble_eq_true rfl, Nat.le_of_ble_eq_true rfl⟩) ⟨pg_842.1, va_recv hK (lastP hw.1) (ci := 11) (q0 := 0) rfl eM_0, pg_842.2⟩ rfl rfl hl.1 rfl (lv_room (Nat.le_of_ble_eq_true rfl)) dL_law_842 ⟨Nat.le_of_ble_eq_true rfl, Nat.le_of_ble_eq_true rfl⟩) hw fstM (fun H locs hw => ?_)
  clear pg_842
  have hw := swapW hw
  refine lv_icmp_eq (tgt := 1380) hx hb dL_law_845 (by decide) (fun c_845 => ?_) (fun c_845 => ?_)
  · exact kk s0 s1 s2 s3 s4 s5 s6 rc.2 s8 s9 s10 rr.2 H locs hrel2 hw
  · exact absurd heq c_845
set_option maxHeartbeats 4000000 in
set_option maxRecDepth 100000 in
theorem law_16 {p : Program} {l : Launch} {e : Env} {s : State} {m : MethodId} {below : List Frame} {meth : Method} {c : Code} {b L : Nat} {xs : Nat → Int32} {D : va_G} {cy : Nat → ClassId} {aC aM : Nat → Nat} {Q : State → Prop} (C0 : LCx p s m c b L xs D cy aC) {k : Nat} {s0 s1 s2 s3 s4 s5 s6 s7 s8 s9 s10 s11 : OS} (hrel : Rel k s0 s1 s2 s3 s4 s5 s6 s7 s8 s9 s10 s11) (hk : k < 512) (hkL : 6 * k + 6 ≤ L) {H : Heap} {locs : List Loc} {ls : Array Slot} (hw : Wd D ((cellsM aM cy s11) ++ (cellsC aC cy s0 s1 s2 s3 s4 s5 s6 s7 s8 s9 s10)) (fun q => s.heap.size ≤ q) s.heap H locs) (hl : lv_has ls 4 [(3, .int (nI (6 * k))), (2, .ref (aM 0)), (1, .ref (aC 10)), (0, .ref b)])
    (kk : ∀ (s0 s1 s2 s3 s4 s5 s6 s7 s8 s9 s10 s11 : OS) (H : Heap) (locs : List Loc), Rel (k + 1) s0 s1 s2 s3 s4 s5 s6 s7 s8 s9 s10 s11 → Wd D ((cellsM aM cy s11) ++ (cellsC aC cy s0 s1 s2 s3 s4 s5 s6 s7 s8 s9 s10)) (fun q => s.heap.size ≤ q) s.heap H locs → W p l e room_1 s m #[Value.ref b] below meth c H locs 133 47662 Q (F0 m 1380 ls [])) : W p l e room_1 s m #[Value.ref b] below meth c H locs 133 47662 Q (F0 m 850 ls []) := by
  obtain ⟨hx, hb, hml, hown, hts, hK, hX, hbl, hN, haC, hL⟩ := C0
  obtain ⟨rc, rr, hc, hr, heq, hrel2⟩ := st_drifts hrel hk (xs (6 * k + 1)) (xs (6 * k + 2)) (xs (6 * k + 3))
  refine lv_aload_n hx hb dL_law_850 rfl (lv_at hl 2 rfl) ?_
  refine lv_aload_n hx hb dL_law_851 rfl (lv_at hl 3 rfl) ?_
  refine lv_iload_n hx hb dL_law_852 rfl (lv_at hl 0 rfl) ?_
  refine lv_iconst (v := 1) hx hb dL_law_853 (by decide) ?_
  refine lv_iadd hx hb dL_law_854 ?_
  refine ldX (i := 6 * k + 1) hx hb hX hbl hw.2.2 (nI_add (6 * k) 1) (by omega) hL dL_law_855 ?_
  refine lv_aload_n hx hb dL_law_856 rfl (lv_at hl 3 rfl) ?_
  refine lv_iload_n hx hb dL_law_857 rfl (lv_at hl 0 rfl) ?_
  refine lv_iconst (v := 2) hx hb dL_law_858 (by decide) ?_
  refine lv_iadd hx hb dL_law_859 ?_
  refine ldX (i := 6 * k + 2) hx hb hX hbl hw.2.2 (nI_add (6 * k) 2) (by omega) hL dL_law_860 ?_
  refine lv_aload_n hx hb dL_law_861 rfl (lv_at hl 3 rfl) ?_
  refine lv_iload_n hx hb dL_law_862 rfl (lv_at hl 0 rfl) ?_
  refine lv_iconst (v := 3) hx hb dL_law_863 (by decide) ?_
  refine lv_iadd hx hb dL_law_864 ?_
  refine ldX (i := 6 * k + 3) hx hb hX hbl hw.2.2 (nI_add (6 * k) 3) (by omega) hL dL_law_865 ?_
  have pg_866 := preG (av := [.ref (aC 10), .int (xs (6 * k + 1)), .int (xs (6 * k + 2)), .int (xs (6 * k + 3))]) hK (lastP hw.1) (lastD hw.2.1) (NL_keep hN hw.2.2 haC) NC_blind
  refine lawI (wr := (cellsM aM cy s11)) (va_runV (As := [.int (xs (6 * k + 1)), .int (xs (6 * k + 2)), .int (xs (6 * k + 3))]) (rest := []) ⟨hx, hb, hml, hown, hts⟩ (m10_drifts l D aC cy H.size s0 s1 s2 s3 s4 s5 s6 s7 s8 s9 s10 (xs (6 * k + 1)) (xs (6 * k + 2)) (xs (6 * k + 3)) rc hc) (wL_84 hts ⟨Nat.le_of_ble_eq_true rfl, Nat.le_of_ble_eq_true rfl⟩) ⟨pg_866.1, va_recv hK (lastP hw.1) (ci := 10) (q0 := 10) rfl eC_10, pg_866.2⟩ rfl rfl hl.1 rfl (lv_room (Nat.le_of_ble_eq_true rfl)) dL_law_866 ⟨Nat.le_of_ble_eq_true rfl, Nat.le_of_ble_eq_true rfl⟩) hw fstC (fun H locs hw => ?_)
  clear pg_866
  refine lv_aload_n hx hb dL_law_869 rfl (lv_at hl 1 rfl) ?_
  refine lv_aload_n hx hb dL_law_870 rfl (lv_at hl 3 rfl) ?_
  refine lv_iload_n hx hb dL_law_871 rfl (lv_at hl 0 rfl) ?_
  refine lv_iconst (v := 1) hx hb dL_law_872 (by decide) ?_
  refine lv_iadd hx hb dL_law_873 ?_
  refine ldX (i := 6 * k + 1) hx hb hX hbl hw.2.2 (nI_add (6 * k) 1) (by omega) hL dL_law_874 ?_
  refine lv_aload_n hx hb dL_law_875 rfl (lv_at hl 3 rfl) ?_
  refine lv_iload_n hx hb dL_law_876 rfl (lv_at hl 0 rfl) ?_
  refine lv_iconst (v := 2) hx hb dL_law_877 (by decide) ?_
  refine lv_iadd hx hb dL_law_878 ?_
  refine ldX (i := 6 * k + 2) hx hb hX hbl hw.2.2 (nI_add (6 * k) 2) (by omega) hL dL_law_879 ?_
  refine lv_aload_n hx hb dL_law_880 rfl (lv_at hl 3 rfl) ?_
  refine lv_iload_n hx hb dL_law_881 rfl (lv_at hl 0 rfl) ?_
  refine lv_iconst (v := 3) hx hb dL_law_882 (by decide) ?_
  refine lv_iadd hx hb dL_law_883 ?_
  refine ldX (i := 6 * k + 3) hx hb hX hbl hw.2.2 (nI_add (6 * k) 3) (by omega) hL dL_law_884 ?_
  have hw := swapW hw
  have pg_885 := preG (av := [.ref (aM 0), .int (xs (6 * k + 1)), .int (xs (6 * k + 2)), .int (xs (6 * k + 3))]) hK (lastP hw.1) (lastD hw.2.1) NM_keep NM_blind
  refine lawI (wr := (cellsC aC cy s0 s1 s2 s3 s4 s5 s6 s7 s8 s9 s10)) (va_runV (As := [.int (xs (6 * k + 1)), .int (xs (6 * k + 2)), .int (xs (6 * k + 3))]) (rest := [.int rc]) ⟨hx, hb, hml, hown, hts⟩ (m11_drifts l D aM cy H.size s11 (xs (6 * k + 1)) (xs (6 * k + 2)) (xs (6 * k + 3)) rr hr) (wL_87 hts ⟨Nat.le_of_ble_eq_true rfl, Nat.le_of_ble_eq_true rfl⟩) ⟨pg_885.1, va_recv hK (lastP hw.1) (ci := 11) (q0 := 0) rfl eM_0, pg_885.2⟩ rfl rfl hl.1 rfl (lv_room (Nat.le_of_ble_eq_true rfl)) dL_law_885 ⟨Nat.le_of_ble_eq_true rfl, Nat.le_of_ble_eq_true rfl⟩) hw fstM (fun H locs hw => ?_)
  clear pg_885
  have hw := swapW hw
  refine lv_icmp_eq (tgt := 1380) hx hb dL_law_888 (by decide) (fun c_888 => ?_) (fun c_888 => ?_)
  · exact kk s0 s1 s2 s3 s4 s5 s6 s7 s8 s9 s10 s11 H locs hrel2 hw
  · exact absurd heq c_888
set_option maxHeartbeats 4000000 in
set_option maxRecDepth 100000 in
theorem law_17 {p : Program} {l : Launch} {e : Env} {s : State} {m : MethodId} {below : List Frame} {meth : Method} {c : Code} {b L : Nat} {xs : Nat → Int32} {D : va_G} {cy : Nat → ClassId} {aC aM : Nat → Nat} {Q : State → Prop} (C0 : LCx p s m c b L xs D cy aC) {k : Nat} {s0 s1 s2 s3 s4 s5 s6 s7 s8 s9 s10 s11 : OS} (hrel : Rel k s0 s1 s2 s3 s4 s5 s6 s7 s8 s9 s10 s11) (hk : k < 512) (hkL : 6 * k + 6 ≤ L) {H : Heap} {locs : List Loc} {ls : Array Slot} (hw : Wd D ((cellsM aM cy s11) ++ (cellsC aC cy s0 s1 s2 s3 s4 s5 s6 s7 s8 s9 s10)) (fun q => s.heap.size ≤ q) s.heap H locs) (hl : lv_has ls 4 [(3, .int (nI (6 * k))), (2, .ref (aM 0)), (1, .ref (aC 10)), (0, .ref b)])
    (kk : ∀ (s0 s1 s2 s3 s4 s5 s6 s7 s8 s9 s10 s11 : OS) (H : Heap) (locs : List Loc), Rel (k + 1) s0 s1 s2 s3 s4 s5 s6 s7 s8 s9 s10 s11 → Wd D ((cellsM aM cy s11) ++ (cellsC aC cy s0 s1 s2 s3 s4 s5 s6 s7 s8 s9 s10)) (fun q => s.heap.size ≤ q) s.heap H locs → W p l e room_1 s m #[Value.ref b] below meth c H locs 133 47662 Q (F0 m 1380 ls [])) : W p l e room_1 s m #[Value.ref b] below meth c H locs 133 47662 Q (F0 m 893 ls []) := by
  obtain ⟨hx, hb, hml, hown, hts, hK, hX, hbl, hN, haC, hL⟩ := C0
  obtain ⟨rc, rr, hc, hr, heq, hrel2⟩ := st_found hrel hk (xs (6 * k + 1))
  refine lv_aload_n hx hb dL_law_893 rfl (lv_at hl 2 rfl) ?_
  refine lv_aload_n hx hb dL_law_894 rfl (lv_at hl 3 rfl) ?_
  refine lv_iload_n hx hb dL_law_895 rfl (lv_at hl 0 rfl) ?_
  refine lv_iconst (v := 1) hx hb dL_law_896 (by decide) ?_
  refine lv_iadd hx hb dL_law_897 ?_
  refine ldX (i := 6 * k + 1) hx hb hX hbl hw.2.2 (nI_add (6 * k) 1) (by omega) hL dL_law_898 ?_
  have pg_899 := preG (av := [.ref (aC 10), .int (xs (6 * k + 1))]) hK (lastP hw.1) (lastD hw.2.1) (NL_keep hN hw.2.2 haC) NC_blind
  refine lawI (wr := (cellsM aM cy s11)) (va_runV (As := [.int (xs (6 * k + 1))]) (rest := []) ⟨hx, hb, hml, hown, hts⟩ (m10_found l D aC cy H.size s0 s1 s2 s3 s4 s5 s6 s7 s8 s9 s10 (xs (6 * k + 1)) rc hc) (wL_88 hts ⟨Nat.le_of_ble_eq_true rfl, Nat.le_of_ble_eq_true rfl⟩) ⟨pg_899.1, va_recv hK (lastP hw.1) (ci := 10) (q0 := 10) rfl eC_10, pg_899.2⟩ rfl rfl hl.1 rfl (lv_room (Nat.le_of_ble_eq_true rfl)) dL_law_899 ⟨Nat.le_of_ble_eq_true rfl, Nat.le_of_ble_eq_true rfl⟩) hw fstC (fun H locs hw => ?_)
  clear pg_899
  refine lv_aload_n hx hb dL_law_902 rfl (lv_at hl 1 rfl) ?_
  refine lv_aload_n hx hb dL_law_903 rfl (lv_at hl 3 rfl) ?_
  refine lv_iload_n hx hb dL_law_904 rfl (lv_at hl 0 rfl) ?_
  refine lv_iconst (v := 1) hx hb dL_law_905 (by decide) ?_
  refine lv_iadd hx hb dL_law_906 ?_
  refine ldX (i := 6 * k + 1) hx hb hX hbl hw.2.2 (nI_add (6 * k) 1) (by omega) hL dL_law_907 ?_
  have hw := swapW hw
  have pg_908 := preG (av := [.ref (aM 0), .int (xs (6 * k + 1))]) hK (lastP hw.1) (lastD hw.2.1) NM_keep NM_blind
  refine lawI (wr := (cellsC aC cy s0 s1 s2 rc.2.1 s4 s5 s6 s7 rc.2.2 s9 s10)) (va_runV (As := [.int (xs (6 * k + 1))]) (rest := [.int rc.1]) ⟨hx, hb, hml, hown, hts⟩ (m11_found l D aM cy H.size s11 (xs (6 * k + 1)) rr hr) (wL_92 hts ⟨Nat.le_of_ble_eq_true rfl, Nat.le_of_ble_eq_true rfl⟩) ⟨pg_908.1, va_recv hK (lastP hw.1) (ci := 11) (q0 := 0) rfl eM_0, pg_908.2⟩ rfl rfl hl.1 rfl (lv_room (Nat.le_of_ble_eq_true rfl)) dL_law_908 ⟨Nat.le_of_ble_eq_true rfl, Nat.le_of_ble_eq_true rfl⟩) hw fstM (fun H locs hw => ?_)
  clear pg_908
  have hw := swapW hw
  refine lv_icmp_eq (tgt := 1380) hx hb dL_law_911 (by decide) (fun c_911 => ?_) (fun c_911 => ?_)
  · exact kk s0 s1 s2 rc.2.1 s4 s5 s6 s7 rc.2.2 s9 s10 rr.2 H locs hrel2 hw
  · exact absurd heq c_911
set_option maxHeartbeats 4000000 in
set_option maxRecDepth 100000 in
theorem law_18 {p : Program} {l : Launch} {e : Env} {s : State} {m : MethodId} {below : List Frame} {meth : Method} {c : Code} {b L : Nat} {xs : Nat → Int32} {D : va_G} {cy : Nat → ClassId} {aC aM : Nat → Nat} {Q : State → Prop} (C0 : LCx p s m c b L xs D cy aC) {k : Nat} {s0 s1 s2 s3 s4 s5 s6 s7 s8 s9 s10 s11 : OS} (hrel : Rel k s0 s1 s2 s3 s4 s5 s6 s7 s8 s9 s10 s11) (hk : k < 512) (hkL : 6 * k + 6 ≤ L) {H : Heap} {locs : List Loc} {ls : Array Slot} (hw : Wd D ((cellsM aM cy s11) ++ (cellsC aC cy s0 s1 s2 s3 s4 s5 s6 s7 s8 s9 s10)) (fun q => s.heap.size ≤ q) s.heap H locs) (hl : lv_has ls 4 [(3, .int (nI (6 * k))), (2, .ref (aM 0)), (1, .ref (aC 10)), (0, .ref b)])
    (kk : ∀ (s0 s1 s2 s3 s4 s5 s6 s7 s8 s9 s10 s11 : OS) (H : Heap) (locs : List Loc), Rel (k + 1) s0 s1 s2 s3 s4 s5 s6 s7 s8 s9 s10 s11 → Wd D ((cellsM aM cy s11) ++ (cellsC aC cy s0 s1 s2 s3 s4 s5 s6 s7 s8 s9 s10)) (fun q => s.heap.size ≤ q) s.heap H locs → W p l e room_1 s m #[Value.ref b] below meth c H locs 133 47662 Q (F0 m 1380 ls [])) : W p l e room_1 s m #[Value.ref b] below meth c H locs 133 47662 Q (F0 m 916 ls []) := by
  obtain ⟨hx, hb, hml, hown, hts, hK, hX, hbl, hN, haC, hL⟩ := C0
  obtain ⟨rc, rr, hc, hr, heq, hrel2⟩ := st_thing hrel hk (xs (6 * k + 1)) (xs (6 * k + 2))
  refine lv_aload_n hx hb dL_law_916 rfl (lv_at hl 2 rfl) ?_
  refine lv_aload_n hx hb dL_law_917 rfl (lv_at hl 3 rfl) ?_
  refine lv_iload_n hx hb dL_law_918 rfl (lv_at hl 0 rfl) ?_
  refine lv_iconst (v := 1) hx hb dL_law_919 (by decide) ?_
  refine lv_iadd hx hb dL_law_920 ?_
  refine ldX (i := 6 * k + 1) hx hb hX hbl hw.2.2 (nI_add (6 * k) 1) (by omega) hL dL_law_921 ?_
  refine lv_aload_n hx hb dL_law_922 rfl (lv_at hl 3 rfl) ?_
  refine lv_iload_n hx hb dL_law_923 rfl (lv_at hl 0 rfl) ?_
  refine lv_iconst (v := 2) hx hb dL_law_924 (by decide) ?_
  refine lv_iadd hx hb dL_law_925 ?_
  refine ldX (i := 6 * k + 2) hx hb hX hbl hw.2.2 (nI_add (6 * k) 2) (by omega) hL dL_law_926 ?_
  have pg_927 := preG (av := [.ref (aC 10), .int (xs (6 * k + 1)), .int (xs (6 * k + 2))]) hK (lastP hw.1) (lastD hw.2.1) (NL_keep hN hw.2.2 haC) NC_blind
  refine lawI (wr := (cellsM aM cy s11)) (va_runV (As := [.int (xs (6 * k + 1)), .int (xs (6 * k + 2))]) (rest := []) ⟨hx, hb, hml, hown, hts⟩ (m10_thing l D aC cy H.size s0 s1 s2 s3 s4 s5 s6 s7 s8 s9 s10 (xs (6 * k + 1)) (xs (6 * k + 2)) rc hc) (wL_93 hts ⟨Nat.le_of_ble_eq_true rfl, Nat.le_of_ble_eq_true rfl⟩) ⟨pg_927.1, va_recv hK (lastP hw.1) (ci := 10) (q0 := 10) rfl eC_10, pg_927.2⟩ rfl rfl hl.1 rfl (lv_room (Nat.le_of_ble_eq_true rfl)) dL_law_927 ⟨Nat.le_of_ble_eq_true rfl, Nat.le_of_ble_eq_true rfl⟩) hw fstC (fun H locs hw => ?_)
  clear pg_927
  refine lv_aload_n hx hb dL_law_930 rfl (lv_at hl 1 rfl) ?_
  refine lv_aload_n hx hb dL_law_931 rfl (lv_at hl 3 rfl) ?_
  refine lv_iload_n hx hb dL_law_932 rfl (lv_at hl 0 rfl) ?_
  refine lv_iconst (v := 1) hx hb dL_law_933 (by decide) ?_
  refine lv_iadd hx hb dL_law_934 ?_
  refine ldX (i := 6 * k + 1) hx hb hX hbl hw.2.2 (nI_add (6 * k) 1) (by omega) hL dL_law_935 ?_
  refine lv_aload_n hx hb dL_law_936 rfl (lv_at hl 3 rfl) ?_
  refine lv_iload_n hx hb dL_law_937 rfl (lv_at hl 0 rfl) ?_
  refine lv_iconst (v := 2) hx hb dL_law_938 (by decide) ?_
  refine lv_iadd hx hb dL_law_939 ?_
  refine ldX (i := 6 * k + 2) hx hb hX hbl hw.2.2 (nI_add (6 * k) 2) (by omega) hL dL_law_940 ?_
  have hw := swapW hw
  have pg_941 := preG (av := [.ref (aM 0), .int (xs (6 * k + 1)), .int (xs (6 * k + 2))]) hK (lastP hw.1) (lastD hw.2.1) NM_keep NM_blind
  refine lawI (wr := (cellsC aC cy s0 s1 s2 s3 s4 s5 s6 s7 s8 s9 s10)) (va_runV (As := [.int (xs (6 * k + 1)), .int (xs (6 * k + 2))]) (rest := [.int rc]) ⟨hx, hb, hml, hown, hts⟩ (m11_thing l D aM cy H.size s11 (xs (6 * k + 1)) (xs (6 * k + 2)) rr hr) (wL_96 hts ⟨Nat.le_of_ble_eq_true rfl, Nat.le_of_ble_eq_true rfl⟩) ⟨pg_941.1, va_recv hK (lastP hw.1) (ci := 11) (q0 := 0) rfl eM_0, pg_941.2⟩ rfl rfl hl.1 rfl (lv_room (Nat.le_of_ble_eq_true rfl)) dL_law_941 ⟨Nat.le_of_ble_eq_true rfl, Nat.le_of_ble_eq_true rfl⟩) hw fstM (fun H locs hw => ?_)
  clear pg_941
  have hw := swapW hw
  refine lv_icmp_eq (tgt := 1380) hx hb dL_law_944 (by decide) (fun c_944 => ?_) (fun c_944 => ?_)
  · exact kk s0 s1 s2 s3 s4 s5 s6 s7 s8 s9 s10 s11 H locs hrel2 hw
  · exact absurd heq c_944
set_option maxHeartbeats 4000000 in
set_option maxRecDepth 100000 in
theorem law_19 {p : Program} {l : Launch} {e : Env} {s : State} {m : MethodId} {below : List Frame} {meth : Method} {c : Code} {b L : Nat} {xs : Nat → Int32} {D : va_G} {cy : Nat → ClassId} {aC aM : Nat → Nat} {Q : State → Prop} (C0 : LCx p s m c b L xs D cy aC) {k : Nat} {s0 s1 s2 s3 s4 s5 s6 s7 s8 s9 s10 s11 : OS} (hrel : Rel k s0 s1 s2 s3 s4 s5 s6 s7 s8 s9 s10 s11) (hk : k < 512) (hkL : 6 * k + 6 ≤ L) {H : Heap} {locs : List Loc} {ls : Array Slot} (hw : Wd D ((cellsM aM cy s11) ++ (cellsC aC cy s0 s1 s2 s3 s4 s5 s6 s7 s8 s9 s10)) (fun q => s.heap.size ≤ q) s.heap H locs) (hl : lv_has ls 4 [(3, .int (nI (6 * k))), (2, .ref (aM 0)), (1, .ref (aC 10)), (0, .ref b)])
    (kk : ∀ (s0 s1 s2 s3 s4 s5 s6 s7 s8 s9 s10 s11 : OS) (H : Heap) (locs : List Loc), Rel (k + 1) s0 s1 s2 s3 s4 s5 s6 s7 s8 s9 s10 s11 → Wd D ((cellsM aM cy s11) ++ (cellsC aC cy s0 s1 s2 s3 s4 s5 s6 s7 s8 s9 s10)) (fun q => s.heap.size ≤ q) s.heap H locs → W p l e room_1 s m #[Value.ref b] below meth c H locs 133 47662 Q (F0 m 1380 ls [])) : W p l e room_1 s m #[Value.ref b] below meth c H locs 133 47662 Q (F0 m 949 ls []) := by
  obtain ⟨hx, hb, hml, hown, hts, hK, hX, hbl, hN, haC, hL⟩ := C0
  obtain ⟨rc, rr, hc, hr, heq, hrel2⟩ := st_way hrel hk (xs (6 * k + 1)) (xs (6 * k + 2)) (xs (6 * k + 3))
  refine lv_aload_n hx hb dL_law_949 rfl (lv_at hl 2 rfl) ?_
  refine lv_aload_n hx hb dL_law_950 rfl (lv_at hl 3 rfl) ?_
  refine lv_iload_n hx hb dL_law_951 rfl (lv_at hl 0 rfl) ?_
  refine lv_iconst (v := 1) hx hb dL_law_952 (by decide) ?_
  refine lv_iadd hx hb dL_law_953 ?_
  refine ldX (i := 6 * k + 1) hx hb hX hbl hw.2.2 (nI_add (6 * k) 1) (by omega) hL dL_law_954 ?_
  refine lv_aload_n hx hb dL_law_955 rfl (lv_at hl 3 rfl) ?_
  refine lv_iload_n hx hb dL_law_956 rfl (lv_at hl 0 rfl) ?_
  refine lv_iconst (v := 2) hx hb dL_law_957 (by decide) ?_
  refine lv_iadd hx hb dL_law_958 ?_
  refine ldX (i := 6 * k + 2) hx hb hX hbl hw.2.2 (nI_add (6 * k) 2) (by omega) hL dL_law_959 ?_
  refine lv_aload_n hx hb dL_law_960 rfl (lv_at hl 3 rfl) ?_
  refine lv_iload_n hx hb dL_law_961 rfl (lv_at hl 0 rfl) ?_
  refine lv_iconst (v := 3) hx hb dL_law_962 (by decide) ?_
  refine lv_iadd hx hb dL_law_963 ?_
  refine ldX (i := 6 * k + 3) hx hb hX hbl hw.2.2 (nI_add (6 * k) 3) (by omega) hL dL_law_964 ?_
  have pg_965 := preG (av := [.ref (aC 10), .int (xs (6 * k + 1)), .int (xs (6 * k + 2)), .int (xs (6 * k + 3))]) hK (lastP hw.1) (lastD hw.2.1) (NL_keep hN hw.2.2 haC) NC_blind
  refine lawI (wr := (cellsM aM cy s11)) (va_runV (As := [.int (xs (6 * k + 1)), .int (xs (6 * k + 2)), .int (xs (6 * k + 3))]) (rest := []) ⟨hx, hb, hml, hown, hts⟩ (m10_way l D aC cy H.size s0 s1 s2 s3 s4 s5 s6 s7 s8 s9 s10 (xs (6 * k + 1)) (xs (6 * k + 2)) (xs (6 * k + 3)) rc hc) (wL_97 hts ⟨Nat.le_of_ble_eq_true rfl, Nat.le_of_ble_eq_true rfl⟩) ⟨pg_965.1, va_recv hK (lastP hw.1) (ci := 10) (q0 := 10) rfl eC_10, pg_965.2⟩ rfl rfl hl.1 rfl (lv_room (Nat.le_of_ble_eq_true rfl)) dL_law_965 ⟨Nat.le_of_ble_eq_true rfl, Nat.le_of_ble_eq_true rfl⟩) hw fstC (fun H locs hw => ?_)
  clear pg_965
  refine lv_aload_n hx hb dL_law_968 rfl (lv_at hl 1 rfl) ?_
  refine lv_aload_n hx hb dL_law_969 rfl (lv_at hl 3 rfl) ?_
  refine lv_iload_n hx hb dL_law_970 rfl (lv_at hl 0 rfl) ?_
  refine lv_iconst (v := 1) hx hb dL_law_971 (by decide) ?_
  refine lv_iadd hx hb dL_law_972 ?_
  refine ldX (i := 6 * k + 1) hx hb hX hbl hw.2.2 (nI_add (6 * k) 1) (by omega) hL dL_law_973 ?_
  refine lv_aload_n hx hb dL_law_974 rfl (lv_at hl 3 rfl) ?_
  refine lv_iload_n hx hb dL_law_975 rfl (lv_at hl 0 rfl) ?_
  refine lv_iconst (v := 2) hx hb dL_law_976 (by decide) ?_
  refine lv_iadd hx hb dL_law_977 ?_
  refine ldX (i := 6 * k + 2) hx hb hX hbl hw.2.2 (nI_add (6 * k) 2) (by omega) hL dL_law_978 ?_
  refine lv_aload_n hx hb dL_law_979 rfl (lv_at hl 3 rfl) ?_
  refine lv_iload_n hx hb dL_law_980 rfl (lv_at hl 0 rfl) ?_
  refine lv_iconst (v := 3) hx hb dL_law_981 (by decide) ?_
  refine lv_iadd hx hb dL_law_982 ?_
  refine ldX (i := 6 * k + 3) hx hb hX hbl hw.2.2 (nI_add (6 * k) 3) (by omega) hL dL_law_983 ?_
  have hw := swapW hw
  have pg_984 := preG (av := [.ref (aM 0), .int (xs (6 * k + 1)), .int (xs (6 * k + 2)), .int (xs (6 * k + 3))]) hK (lastP hw.1) (lastD hw.2.1) NM_keep NM_blind
  refine lawI (wr := (cellsC aC cy s0 s1 s2 s3 s4 s5 s6 s7 s8 rc.2 s10)) (va_runV (As := [.int (xs (6 * k + 1)), .int (xs (6 * k + 2)), .int (xs (6 * k + 3))]) (rest := [.int rc.1]) ⟨hx, hb, hml, hown, hts⟩ (m11_way l D aM cy H.size s11 (xs (6 * k + 1)) (xs (6 * k + 2)) (xs (6 * k + 3)) rr hr) (wL_101 hts ⟨Nat.le_of_ble_eq_true rfl, Nat.le_of_ble_eq_true rfl⟩) ⟨pg_984.1, va_recv hK (lastP hw.1) (ci := 11) (q0 := 0) rfl eM_0, pg_984.2⟩ rfl rfl hl.1 rfl (lv_room (Nat.le_of_ble_eq_true rfl)) dL_law_984 ⟨Nat.le_of_ble_eq_true rfl, Nat.le_of_ble_eq_true rfl⟩) hw fstM (fun H locs hw => ?_)
  clear pg_984
  have hw := swapW hw
  refine lv_icmp_eq (tgt := 1380) hx hb dL_law_987 (by decide) (fun c_987 => ?_) (fun c_987 => ?_)
  · exact kk s0 s1 s2 s3 s4 s5 s6 s7 s8 rc.2 s10 rr.2 H locs hrel2 hw
  · exact absurd heq c_987
set_option maxHeartbeats 4000000 in
set_option maxRecDepth 100000 in
theorem law_20 {p : Program} {l : Launch} {e : Env} {s : State} {m : MethodId} {below : List Frame} {meth : Method} {c : Code} {b L : Nat} {xs : Nat → Int32} {D : va_G} {cy : Nat → ClassId} {aC aM : Nat → Nat} {Q : State → Prop} (C0 : LCx p s m c b L xs D cy aC) {k : Nat} {s0 s1 s2 s3 s4 s5 s6 s7 s8 s9 s10 s11 : OS} (hrel : Rel k s0 s1 s2 s3 s4 s5 s6 s7 s8 s9 s10 s11) (hk : k < 512) (hkL : 6 * k + 6 ≤ L) {H : Heap} {locs : List Loc} {ls : Array Slot} (hw : Wd D ((cellsM aM cy s11) ++ (cellsC aC cy s0 s1 s2 s3 s4 s5 s6 s7 s8 s9 s10)) (fun q => s.heap.size ≤ q) s.heap H locs) (hl : lv_has ls 4 [(3, .int (nI (6 * k))), (2, .ref (aM 0)), (1, .ref (aC 10)), (0, .ref b)])
    (kk : ∀ (s0 s1 s2 s3 s4 s5 s6 s7 s8 s9 s10 s11 : OS) (H : Heap) (locs : List Loc), Rel (k + 1) s0 s1 s2 s3 s4 s5 s6 s7 s8 s9 s10 s11 → Wd D ((cellsM aM cy s11) ++ (cellsC aC cy s0 s1 s2 s3 s4 s5 s6 s7 s8 s9 s10)) (fun q => s.heap.size ≤ q) s.heap H locs → W p l e room_1 s m #[Value.ref b] below meth c H locs 133 47662 Q (F0 m 1380 ls [])) : W p l e room_1 s m #[Value.ref b] below meth c H locs 133 47662 Q (F0 m 992 ls []) := by
  obtain ⟨hx, hb, hml, hown, hts, hK, hX, hbl, hN, haC, hL⟩ := C0
  obtain ⟨rc, rr, hc, hr, heq, hrel2⟩ := st_give hrel hk (xs (6 * k + 1)) (xs (6 * k + 2)) (xs (6 * k + 3))
  refine lv_aload_n hx hb dL_law_992 rfl (lv_at hl 2 rfl) ?_
  refine lv_aload_n hx hb dL_law_993 rfl (lv_at hl 3 rfl) ?_
  refine lv_iload_n hx hb dL_law_994 rfl (lv_at hl 0 rfl) ?_
  refine lv_iconst (v := 1) hx hb dL_law_995 (by decide) ?_
  refine lv_iadd hx hb dL_law_996 ?_
  refine ldX (i := 6 * k + 1) hx hb hX hbl hw.2.2 (nI_add (6 * k) 1) (by omega) hL dL_law_997 ?_
  refine lv_aload_n hx hb dL_law_998 rfl (lv_at hl 3 rfl) ?_
  refine lv_iload_n hx hb dL_law_999 rfl (lv_at hl 0 rfl) ?_
  refine lv_iconst (v := 2) hx hb dL_law_1000 (by decide) ?_
  refine lv_iadd hx hb dL_law_1001 ?_
  refine ldX (i := 6 * k + 2) hx hb hX hbl hw.2.2 (nI_add (6 * k) 2) (by omega) hL dL_law_1002 ?_
  refine lv_aload_n hx hb dL_law_1003 rfl (lv_at hl 3 rfl) ?_
  refine lv_iload_n hx hb dL_law_1004 rfl (lv_at hl 0 rfl) ?_
  refine lv_iconst (v := 3) hx hb dL_law_1005 (by decide) ?_
  refine lv_iadd hx hb dL_law_1006 ?_
  refine ldX (i := 6 * k + 3) hx hb hX hbl hw.2.2 (nI_add (6 * k) 3) (by omega) hL dL_law_1007 ?_
  have pg_1008 := preG (av := [.ref (aC 10), .int (xs (6 * k + 1)), .int (xs (6 * k + 2)), .int (xs (6 * k + 3))]) hK (lastP hw.1) (lastD hw.2.1) (NL_keep hN hw.2.2 haC) NC_blind
  refine lawI (wr := (cellsM aM cy s11)) (va_runV (As := [.int (xs (6 * k + 1)), .int (xs (6 * k + 2)), .int (xs (6 * k + 3))]) (rest := []) ⟨hx, hb, hml, hown, hts⟩ (m10_give l D aC cy H.size s0 s1 s2 s3 s4 s5 s6 s7 s8 s9 s10 (xs (6 * k + 1)) (xs (6 * k + 2)) (xs (6 * k + 3)) rc hc) (wL_102 hts ⟨Nat.le_of_ble_eq_true rfl, Nat.le_of_ble_eq_true rfl⟩) ⟨pg_1008.1, va_recv hK (lastP hw.1) (ci := 10) (q0 := 10) rfl eC_10, pg_1008.2⟩ rfl rfl hl.1 rfl (lv_room (Nat.le_of_ble_eq_true rfl)) dL_law_1008 ⟨Nat.le_of_ble_eq_true rfl, Nat.le_of_ble_eq_true rfl⟩) hw fstC (fun H locs hw => ?_)
  clear pg_1008
  refine lv_aload_n hx hb dL_law_1011 rfl (lv_at hl 1 rfl) ?_
  refine lv_aload_n hx hb dL_law_1012 rfl (lv_at hl 3 rfl) ?_
  refine lv_iload_n hx hb dL_law_1013 rfl (lv_at hl 0 rfl) ?_
  refine lv_iconst (v := 1) hx hb dL_law_1014 (by decide) ?_
  refine lv_iadd hx hb dL_law_1015 ?_
  refine ldX (i := 6 * k + 1) hx hb hX hbl hw.2.2 (nI_add (6 * k) 1) (by omega) hL dL_law_1016 ?_
  refine lv_aload_n hx hb dL_law_1017 rfl (lv_at hl 3 rfl) ?_
  refine lv_iload_n hx hb dL_law_1018 rfl (lv_at hl 0 rfl) ?_
  refine lv_iconst (v := 2) hx hb dL_law_1019 (by decide) ?_
  refine lv_iadd hx hb dL_law_1020 ?_
  refine ldX (i := 6 * k + 2) hx hb hX hbl hw.2.2 (nI_add (6 * k) 2) (by omega) hL dL_law_1021 ?_
  refine lv_aload_n hx hb dL_law_1022 rfl (lv_at hl 3 rfl) ?_
  refine lv_iload_n hx hb dL_law_1023 rfl (lv_at hl 0 rfl) ?_
  refine lv_iconst (v := 3) hx hb dL_law_1024 (by decide) ?_
  refine lv_iadd hx hb dL_law_1025 ?_
  refine ldX (i := 6 * k + 3) hx hb hX hbl hw.2.2 (nI_add (6 * k) 3) (by omega) hL dL_law_1026 ?_
  have hw := swapW hw
  have pg_1027 := preG (av := [.ref (aM 0), .int (xs (6 * k + 1)), .int (xs (6 * k + 2)), .int (xs (6 * k + 3))]) hK (lastP hw.1) (lastD hw.2.1) NM_keep NM_blind
  refine lawI (wr := (cellsC aC cy s0 rc.2.1 s2 s3 rc.2.2.1 s5 s6 s7 s8 rc.2.2.2 s10)) (va_runV (As := [.int (xs (6 * k + 1)), .int (xs (6 * k + 2)), .int (xs (6 * k + 3))]) (rest := [.int rc.1]) ⟨hx, hb, hml, hown, hts⟩ (m11_give l D aM cy H.size s11 (xs (6 * k + 1)) (xs (6 * k + 2)) (xs (6 * k + 3)) rr hr) (wL_105 hts ⟨Nat.le_of_ble_eq_true rfl, Nat.le_of_ble_eq_true rfl⟩) ⟨pg_1027.1, va_recv hK (lastP hw.1) (ci := 11) (q0 := 0) rfl eM_0, pg_1027.2⟩ rfl rfl hl.1 rfl (lv_room (Nat.le_of_ble_eq_true rfl)) dL_law_1027 ⟨Nat.le_of_ble_eq_true rfl, Nat.le_of_ble_eq_true rfl⟩) hw fstM (fun H locs hw => ?_)
  clear pg_1027
  have hw := swapW hw
  refine lv_icmp_eq (tgt := 1380) hx hb dL_law_1030 (by decide) (fun c_1030 => ?_) (fun c_1030 => ?_)
  · exact kk s0 rc.2.1 s2 s3 rc.2.2.1 s5 s6 s7 s8 rc.2.2.2 s10 rr.2 H locs hrel2 hw
  · exact absurd heq c_1030
set_option maxHeartbeats 4000000 in
set_option maxRecDepth 100000 in
theorem law_21 {p : Program} {l : Launch} {e : Env} {s : State} {m : MethodId} {below : List Frame} {meth : Method} {c : Code} {b L : Nat} {xs : Nat → Int32} {D : va_G} {cy : Nat → ClassId} {aC aM : Nat → Nat} {Q : State → Prop} (C0 : LCx p s m c b L xs D cy aC) {k : Nat} {s0 s1 s2 s3 s4 s5 s6 s7 s8 s9 s10 s11 : OS} (hrel : Rel k s0 s1 s2 s3 s4 s5 s6 s7 s8 s9 s10 s11) (hk : k < 512) (hkL : 6 * k + 6 ≤ L) {H : Heap} {locs : List Loc} {ls : Array Slot} (hw : Wd D ((cellsM aM cy s11) ++ (cellsC aC cy s0 s1 s2 s3 s4 s5 s6 s7 s8 s9 s10)) (fun q => s.heap.size ≤ q) s.heap H locs) (hl : lv_has ls 4 [(3, .int (nI (6 * k))), (2, .ref (aM 0)), (1, .ref (aC 10)), (0, .ref b)])
    (kk : ∀ (s0 s1 s2 s3 s4 s5 s6 s7 s8 s9 s10 s11 : OS) (H : Heap) (locs : List Loc), Rel (k + 1) s0 s1 s2 s3 s4 s5 s6 s7 s8 s9 s10 s11 → Wd D ((cellsM aM cy s11) ++ (cellsC aC cy s0 s1 s2 s3 s4 s5 s6 s7 s8 s9 s10)) (fun q => s.heap.size ≤ q) s.heap H locs → W p l e room_1 s m #[Value.ref b] below meth c H locs 133 47662 Q (F0 m 1380 ls [])) : W p l e room_1 s m #[Value.ref b] below meth c H locs 133 47662 Q (F0 m 1035 ls []) := by
  obtain ⟨hx, hb, hml, hown, hts, hK, hX, hbl, hN, haC, hL⟩ := C0
  obtain ⟨rc, rr, hc, hr, heq, hrel2⟩ := st_sight hrel hk (xs (6 * k + 1)) (xs (6 * k + 2)) (xs (6 * k + 3))
  refine lv_aload_n hx hb dL_law_1035 rfl (lv_at hl 2 rfl) ?_
  refine lv_aload_n hx hb dL_law_1036 rfl (lv_at hl 3 rfl) ?_
  refine lv_iload_n hx hb dL_law_1037 rfl (lv_at hl 0 rfl) ?_
  refine lv_iconst (v := 1) hx hb dL_law_1038 (by decide) ?_
  refine lv_iadd hx hb dL_law_1039 ?_
  refine ldX (i := 6 * k + 1) hx hb hX hbl hw.2.2 (nI_add (6 * k) 1) (by omega) hL dL_law_1040 ?_
  refine lv_aload_n hx hb dL_law_1041 rfl (lv_at hl 3 rfl) ?_
  refine lv_iload_n hx hb dL_law_1042 rfl (lv_at hl 0 rfl) ?_
  refine lv_iconst (v := 2) hx hb dL_law_1043 (by decide) ?_
  refine lv_iadd hx hb dL_law_1044 ?_
  refine ldX (i := 6 * k + 2) hx hb hX hbl hw.2.2 (nI_add (6 * k) 2) (by omega) hL dL_law_1045 ?_
  refine lv_aload_n hx hb dL_law_1046 rfl (lv_at hl 3 rfl) ?_
  refine lv_iload_n hx hb dL_law_1047 rfl (lv_at hl 0 rfl) ?_
  refine lv_iconst (v := 3) hx hb dL_law_1048 (by decide) ?_
  refine lv_iadd hx hb dL_law_1049 ?_
  refine ldX (i := 6 * k + 3) hx hb hX hbl hw.2.2 (nI_add (6 * k) 3) (by omega) hL dL_law_1050 ?_
  have pg_1051 := preG (av := [.ref (aC 10), .int (xs (6 * k + 1)), .int (xs (6 * k + 2)), .int (xs (6 * k + 3))]) hK (lastP hw.1) (lastD hw.2.1) (NL_keep hN hw.2.2 haC) NC_blind
  refine lawI (wr := (cellsM aM cy s11)) (va_runV (As := [.int (xs (6 * k + 1)), .int (xs (6 * k + 2)), .int (xs (6 * k + 3))]) (rest := []) ⟨hx, hb, hml, hown, hts⟩ (m10_sight l D aC cy H.size s0 s1 s2 s3 s4 s5 s6 s7 s8 s9 s10 (xs (6 * k + 1)) (xs (6 * k + 2)) (xs (6 * k + 3)) rc hc) (wL_106 hts ⟨Nat.le_of_ble_eq_true rfl, Nat.le_of_ble_eq_true rfl⟩) ⟨pg_1051.1, va_recv hK (lastP hw.1) (ci := 10) (q0 := 10) rfl eC_10, pg_1051.2⟩ rfl rfl hl.1 rfl (lv_room (Nat.le_of_ble_eq_true rfl)) dL_law_1051 ⟨Nat.le_of_ble_eq_true rfl, Nat.le_of_ble_eq_true rfl⟩) hw fstC (fun H locs hw => ?_)
  clear pg_1051
  refine lv_aload_n hx hb dL_law_1054 rfl (lv_at hl 1 rfl) ?_
  refine lv_aload_n hx hb dL_law_1055 rfl (lv_at hl 3 rfl) ?_
  refine lv_iload_n hx hb dL_law_1056 rfl (lv_at hl 0 rfl) ?_
  refine lv_iconst (v := 1) hx hb dL_law_1057 (by decide) ?_
  refine lv_iadd hx hb dL_law_1058 ?_
  refine ldX (i := 6 * k + 1) hx hb hX hbl hw.2.2 (nI_add (6 * k) 1) (by omega) hL dL_law_1059 ?_
  refine lv_aload_n hx hb dL_law_1060 rfl (lv_at hl 3 rfl) ?_
  refine lv_iload_n hx hb dL_law_1061 rfl (lv_at hl 0 rfl) ?_
  refine lv_iconst (v := 2) hx hb dL_law_1062 (by decide) ?_
  refine lv_iadd hx hb dL_law_1063 ?_
  refine ldX (i := 6 * k + 2) hx hb hX hbl hw.2.2 (nI_add (6 * k) 2) (by omega) hL dL_law_1064 ?_
  refine lv_aload_n hx hb dL_law_1065 rfl (lv_at hl 3 rfl) ?_
  refine lv_iload_n hx hb dL_law_1066 rfl (lv_at hl 0 rfl) ?_
  refine lv_iconst (v := 3) hx hb dL_law_1067 (by decide) ?_
  refine lv_iadd hx hb dL_law_1068 ?_
  refine ldX (i := 6 * k + 3) hx hb hX hbl hw.2.2 (nI_add (6 * k) 3) (by omega) hL dL_law_1069 ?_
  have hw := swapW hw
  have pg_1070 := preG (av := [.ref (aM 0), .int (xs (6 * k + 1)), .int (xs (6 * k + 2)), .int (xs (6 * k + 3))]) hK (lastP hw.1) (lastD hw.2.1) NM_keep NM_blind
  refine lawI (wr := (cellsC aC cy s0 s1 s2 s3 s4 s5 s6 s7 s8 rc.2 s10)) (va_runV (As := [.int (xs (6 * k + 1)), .int (xs (6 * k + 2)), .int (xs (6 * k + 3))]) (rest := [.int rc.1]) ⟨hx, hb, hml, hown, hts⟩ (m11_sight l D aM cy H.size s11 (xs (6 * k + 1)) (xs (6 * k + 2)) (xs (6 * k + 3)) rr hr) (wL_109 hts ⟨Nat.le_of_ble_eq_true rfl, Nat.le_of_ble_eq_true rfl⟩) ⟨pg_1070.1, va_recv hK (lastP hw.1) (ci := 11) (q0 := 0) rfl eM_0, pg_1070.2⟩ rfl rfl hl.1 rfl (lv_room (Nat.le_of_ble_eq_true rfl)) dL_law_1070 ⟨Nat.le_of_ble_eq_true rfl, Nat.le_of_ble_eq_true rfl⟩) hw fstM (fun H locs hw => ?_)
  clear pg_1070
  have hw := swapW hw
  refine lv_icmp_eq (tgt := 1380) hx hb dL_law_1073 (by decide) (fun c_1073 => ?_) (fun c_1073 => ?_)
  · exact kk s0 s1 s2 s3 s4 s5 s6 s7 s8 rc.2 s10 rr.2 H locs hrel2 hw
  · exact absurd heq c_1073
set_option maxHeartbeats 4000000 in
set_option maxRecDepth 100000 in
theorem law_22 {p : Program} {l : Launch} {e : Env} {s : State} {m : MethodId} {below : List Frame} {meth : Method} {c : Code} {b L : Nat} {xs : Nat → Int32} {D : va_G} {cy : Nat → ClassId} {aC aM : Nat → Nat} {Q : State → Prop} (C0 : LCx p s m c b L xs D cy aC) {k : Nat} {s0 s1 s2 s3 s4 s5 s6 s7 s8 s9 s10 s11 : OS} (hrel : Rel k s0 s1 s2 s3 s4 s5 s6 s7 s8 s9 s10 s11) (hk : k < 512) (hkL : 6 * k + 6 ≤ L) {H : Heap} {locs : List Loc} {ls : Array Slot} (hw : Wd D ((cellsM aM cy s11) ++ (cellsC aC cy s0 s1 s2 s3 s4 s5 s6 s7 s8 s9 s10)) (fun q => s.heap.size ≤ q) s.heap H locs) (hl : lv_has ls 4 [(3, .int (nI (6 * k))), (2, .ref (aM 0)), (1, .ref (aC 10)), (0, .ref b)])
    (kk : ∀ (s0 s1 s2 s3 s4 s5 s6 s7 s8 s9 s10 s11 : OS) (H : Heap) (locs : List Loc), Rel (k + 1) s0 s1 s2 s3 s4 s5 s6 s7 s8 s9 s10 s11 → Wd D ((cellsM aM cy s11) ++ (cellsC aC cy s0 s1 s2 s3 s4 s5 s6 s7 s8 s9 s10)) (fun q => s.heap.size ≤ q) s.heap H locs → W p l e room_1 s m #[Value.ref b] below meth c H locs 133 47662 Q (F0 m 1380 ls [])) : W p l e room_1 s m #[Value.ref b] below meth c H locs 133 47662 Q (F0 m 1078 ls []) := by
  obtain ⟨hx, hb, hml, hown, hts, hK, hX, hbl, hN, haC, hL⟩ := C0
  obtain ⟨rc, rr, hc, hr, heq, hrel2⟩ := st_where hrel hk (xs (6 * k + 1)) (xs (6 * k + 2))
  refine lv_aload_n hx hb dL_law_1078 rfl (lv_at hl 2 rfl) ?_
  refine lv_aload_n hx hb dL_law_1079 rfl (lv_at hl 3 rfl) ?_
  refine lv_iload_n hx hb dL_law_1080 rfl (lv_at hl 0 rfl) ?_
  refine lv_iconst (v := 1) hx hb dL_law_1081 (by decide) ?_
  refine lv_iadd hx hb dL_law_1082 ?_
  refine ldX (i := 6 * k + 1) hx hb hX hbl hw.2.2 (nI_add (6 * k) 1) (by omega) hL dL_law_1083 ?_
  refine lv_aload_n hx hb dL_law_1084 rfl (lv_at hl 3 rfl) ?_
  refine lv_iload_n hx hb dL_law_1085 rfl (lv_at hl 0 rfl) ?_
  refine lv_iconst (v := 2) hx hb dL_law_1086 (by decide) ?_
  refine lv_iadd hx hb dL_law_1087 ?_
  refine ldX (i := 6 * k + 2) hx hb hX hbl hw.2.2 (nI_add (6 * k) 2) (by omega) hL dL_law_1088 ?_
  have pg_1089 := preG (av := [.ref (aC 10), .int (xs (6 * k + 1)), .int (xs (6 * k + 2))]) hK (lastP hw.1) (lastD hw.2.1) (NL_keep hN hw.2.2 haC) NC_blind
  refine lawI (wr := (cellsM aM cy s11)) (va_runV (As := [.int (xs (6 * k + 1)), .int (xs (6 * k + 2))]) (rest := []) ⟨hx, hb, hml, hown, hts⟩ (m10_where l D aC cy H.size s0 s1 s2 s3 s4 s5 s6 s7 s8 s9 s10 (xs (6 * k + 1)) (xs (6 * k + 2)) rc hc) (wL_110 hts ⟨Nat.le_of_ble_eq_true rfl, Nat.le_of_ble_eq_true rfl⟩) ⟨pg_1089.1, va_recv hK (lastP hw.1) (ci := 10) (q0 := 10) rfl eC_10, pg_1089.2⟩ rfl rfl hl.1 rfl (lv_room (Nat.le_of_ble_eq_true rfl)) dL_law_1089 ⟨Nat.le_of_ble_eq_true rfl, Nat.le_of_ble_eq_true rfl⟩) hw fstC (fun H locs hw => ?_)
  clear pg_1089
  refine lv_aload_n hx hb dL_law_1092 rfl (lv_at hl 1 rfl) ?_
  refine lv_aload_n hx hb dL_law_1093 rfl (lv_at hl 3 rfl) ?_
  refine lv_iload_n hx hb dL_law_1094 rfl (lv_at hl 0 rfl) ?_
  refine lv_iconst (v := 1) hx hb dL_law_1095 (by decide) ?_
  refine lv_iadd hx hb dL_law_1096 ?_
  refine ldX (i := 6 * k + 1) hx hb hX hbl hw.2.2 (nI_add (6 * k) 1) (by omega) hL dL_law_1097 ?_
  refine lv_aload_n hx hb dL_law_1098 rfl (lv_at hl 3 rfl) ?_
  refine lv_iload_n hx hb dL_law_1099 rfl (lv_at hl 0 rfl) ?_
  refine lv_iconst (v := 2) hx hb dL_law_1100 (by decide) ?_
  refine lv_iadd hx hb dL_law_1101 ?_
  refine ldX (i := 6 * k + 2) hx hb hX hbl hw.2.2 (nI_add (6 * k) 2) (by omega) hL dL_law_1102 ?_
  have hw := swapW hw
  have pg_1103 := preG (av := [.ref (aM 0), .int (xs (6 * k + 1)), .int (xs (6 * k + 2))]) hK (lastP hw.1) (lastD hw.2.1) NM_keep NM_blind
  refine lawI (wr := (cellsC aC cy s0 s1 s2 s3 s4 s5 s6 s7 s8 rc.2 s10)) (va_runV (As := [.int (xs (6 * k + 1)), .int (xs (6 * k + 2))]) (rest := [.int rc.1]) ⟨hx, hb, hml, hown, hts⟩ (m11_where l D aM cy H.size s11 (xs (6 * k + 1)) (xs (6 * k + 2)) rr hr) (wL_113 hts ⟨Nat.le_of_ble_eq_true rfl, Nat.le_of_ble_eq_true rfl⟩) ⟨pg_1103.1, va_recv hK (lastP hw.1) (ci := 11) (q0 := 0) rfl eM_0, pg_1103.2⟩ rfl rfl hl.1 rfl (lv_room (Nat.le_of_ble_eq_true rfl)) dL_law_1103 ⟨Nat.le_of_ble_eq_true rfl, Nat.le_of_ble_eq_true rfl⟩) hw fstM (fun H locs hw => ?_)
  clear pg_1103
  have hw := swapW hw
  refine lv_icmp_eq (tgt := 1380) hx hb dL_law_1106 (by decide) (fun c_1106 => ?_) (fun c_1106 => ?_)
  · exact kk s0 s1 s2 s3 s4 s5 s6 s7 s8 rc.2 s10 rr.2 H locs hrel2 hw
  · exact absurd heq c_1106
set_option maxHeartbeats 4000000 in
set_option maxRecDepth 100000 in
theorem law_23 {p : Program} {l : Launch} {e : Env} {s : State} {m : MethodId} {below : List Frame} {meth : Method} {c : Code} {b L : Nat} {xs : Nat → Int32} {D : va_G} {cy : Nat → ClassId} {aC aM : Nat → Nat} {Q : State → Prop} (C0 : LCx p s m c b L xs D cy aC) {k : Nat} {s0 s1 s2 s3 s4 s5 s6 s7 s8 s9 s10 s11 : OS} (hrel : Rel k s0 s1 s2 s3 s4 s5 s6 s7 s8 s9 s10 s11) (hk : k < 512) (hkL : 6 * k + 6 ≤ L) {H : Heap} {locs : List Loc} {ls : Array Slot} (hw : Wd D ((cellsM aM cy s11) ++ (cellsC aC cy s0 s1 s2 s3 s4 s5 s6 s7 s8 s9 s10)) (fun q => s.heap.size ≤ q) s.heap H locs) (hl : lv_has ls 4 [(3, .int (nI (6 * k))), (2, .ref (aM 0)), (1, .ref (aC 10)), (0, .ref b)])
    (kk : ∀ (s0 s1 s2 s3 s4 s5 s6 s7 s8 s9 s10 s11 : OS) (H : Heap) (locs : List Loc), Rel (k + 1) s0 s1 s2 s3 s4 s5 s6 s7 s8 s9 s10 s11 → Wd D ((cellsM aM cy s11) ++ (cellsC aC cy s0 s1 s2 s3 s4 s5 s6 s7 s8 s9 s10)) (fun q => s.heap.size ≤ q) s.heap H locs → W p l e room_1 s m #[Value.ref b] below meth c H locs 133 47662 Q (F0 m 1380 ls [])) : W p l e room_1 s m #[Value.ref b] below meth c H locs 133 47662 Q (F0 m 1111 ls []) := by
  obtain ⟨hx, hb, hml, hown, hts, hK, hX, hbl, hN, haC, hL⟩ := C0
  obtain ⟨rc, rr, hc, hr, heq, hrel2⟩ := st_ask hrel hk (xs (6 * k + 1)) (xs (6 * k + 2)) (xs (6 * k + 3))
  refine lv_aload_n hx hb dL_law_1111 rfl (lv_at hl 2 rfl) ?_
  refine lv_aload_n hx hb dL_law_1112 rfl (lv_at hl 3 rfl) ?_
  refine lv_iload_n hx hb dL_law_1113 rfl (lv_at hl 0 rfl) ?_
  refine lv_iconst (v := 1) hx hb dL_law_1114 (by decide) ?_
  refine lv_iadd hx hb dL_law_1115 ?_
  refine ldX (i := 6 * k + 1) hx hb hX hbl hw.2.2 (nI_add (6 * k) 1) (by omega) hL dL_law_1116 ?_
  refine lv_aload_n hx hb dL_law_1117 rfl (lv_at hl 3 rfl) ?_
  refine lv_iload_n hx hb dL_law_1118 rfl (lv_at hl 0 rfl) ?_
  refine lv_iconst (v := 2) hx hb dL_law_1119 (by decide) ?_
  refine lv_iadd hx hb dL_law_1120 ?_
  refine ldX (i := 6 * k + 2) hx hb hX hbl hw.2.2 (nI_add (6 * k) 2) (by omega) hL dL_law_1121 ?_
  refine lv_aload_n hx hb dL_law_1122 rfl (lv_at hl 3 rfl) ?_
  refine lv_iload_n hx hb dL_law_1123 rfl (lv_at hl 0 rfl) ?_
  refine lv_iconst (v := 3) hx hb dL_law_1124 (by decide) ?_
  refine lv_iadd hx hb dL_law_1125 ?_
  refine ldX (i := 6 * k + 3) hx hb hX hbl hw.2.2 (nI_add (6 * k) 3) (by omega) hL dL_law_1126 ?_
  have pg_1127 := preG (av := [.ref (aC 10), .int (xs (6 * k + 1)), .int (xs (6 * k + 2)), .int (xs (6 * k + 3))]) hK (lastP hw.1) (lastD hw.2.1) (NL_keep hN hw.2.2 haC) NC_blind
  refine lawI (wr := (cellsM aM cy s11)) (va_runV (As := [.int (xs (6 * k + 1)), .int (xs (6 * k + 2)), .int (xs (6 * k + 3))]) (rest := []) ⟨hx, hb, hml, hown, hts⟩ (m10_ask l D aC cy H.size s0 s1 s2 s3 s4 s5 s6 s7 s8 s9 s10 (xs (6 * k + 1)) (xs (6 * k + 2)) (xs (6 * k + 3)) rc hc) (wL_114 hts ⟨Nat.le_of_ble_eq_true rfl, Nat.le_of_ble_eq_true rfl⟩) ⟨pg_1127.1, va_recv hK (lastP hw.1) (ci := 10) (q0 := 10) rfl eC_10, pg_1127.2⟩ rfl rfl hl.1 rfl (lv_room (Nat.le_of_ble_eq_true rfl)) dL_law_1127 ⟨Nat.le_of_ble_eq_true rfl, Nat.le_of_ble_eq_true rfl⟩) hw fstC (fun H locs hw => ?_)
  clear pg_1127
  refine lv_aload_n hx hb dL_law_1130 rfl (lv_at hl 1 rfl) ?_
  refine lv_aload_n hx hb dL_law_1131 rfl (lv_at hl 3 rfl) ?_
  refine lv_iload_n hx hb dL_law_1132 rfl (lv_at hl 0 rfl) ?_
  refine lv_iconst (v := 1) hx hb dL_law_1133 (by decide) ?_
  refine lv_iadd hx hb dL_law_1134 ?_
  refine ldX (i := 6 * k + 1) hx hb hX hbl hw.2.2 (nI_add (6 * k) 1) (by omega) hL dL_law_1135 ?_
  refine lv_aload_n hx hb dL_law_1136 rfl (lv_at hl 3 rfl) ?_
  refine lv_iload_n hx hb dL_law_1137 rfl (lv_at hl 0 rfl) ?_
  refine lv_iconst (v := 2) hx hb dL_law_1138 (by decide) ?_
  refine lv_iadd hx hb dL_law_1139 ?_
  refine ldX (i := 6 * k + 2) hx hb hX hbl hw.2.2 (nI_add (6 * k) 2) (by omega) hL dL_law_1140 ?_
  refine lv_aload_n hx hb dL_law_1141 rfl (lv_at hl 3 rfl) ?_
  refine lv_iload_n hx hb dL_law_1142 rfl (lv_at hl 0 rfl) ?_
  refine lv_iconst (v := 3) hx hb dL_law_1143 (by decide) ?_
  refine lv_iadd hx hb dL_law_1144 ?_
  refine ldX (i := 6 * k + 3) hx hb hX hbl hw.2.2 (nI_add (6 * k) 3) (by omega) hL dL_law_1145 ?_
  have hw := swapW hw
  have pg_1146 := preG (av := [.ref (aM 0), .int (xs (6 * k + 1)), .int (xs (6 * k + 2)), .int (xs (6 * k + 3))]) hK (lastP hw.1) (lastD hw.2.1) NM_keep NM_blind
  refine lawI (wr := (cellsC aC cy rc.2 s1 s2 s3 s4 s5 s6 s7 s8 s9 s10)) (va_runV (As := [.int (xs (6 * k + 1)), .int (xs (6 * k + 2)), .int (xs (6 * k + 3))]) (rest := [.int rc.1]) ⟨hx, hb, hml, hown, hts⟩ (m11_ask l D aM cy H.size s11 (xs (6 * k + 1)) (xs (6 * k + 2)) (xs (6 * k + 3)) rr hr) (wL_117 hts ⟨Nat.le_of_ble_eq_true rfl, Nat.le_of_ble_eq_true rfl⟩) ⟨pg_1146.1, va_recv hK (lastP hw.1) (ci := 11) (q0 := 0) rfl eM_0, pg_1146.2⟩ rfl rfl hl.1 rfl (lv_room (Nat.le_of_ble_eq_true rfl)) dL_law_1146 ⟨Nat.le_of_ble_eq_true rfl, Nat.le_of_ble_eq_true rfl⟩) hw fstM (fun H locs hw => ?_)
  clear pg_1146
  have hw := swapW hw
  refine lv_icmp_eq (tgt := 1380) hx hb dL_law_1149 (by decide) (fun c_1149 => ?_) (fun c_1149 => ?_)
  · exact kk rc.2 s1 s2 s3 s4 s5 s6 s7 s8 s9 s10 rr.2 H locs hrel2 hw
  · exact absurd heq c_1149
set_option maxHeartbeats 4000000 in
set_option maxRecDepth 100000 in
theorem law_24 {p : Program} {l : Launch} {e : Env} {s : State} {m : MethodId} {below : List Frame} {meth : Method} {c : Code} {b L : Nat} {xs : Nat → Int32} {D : va_G} {cy : Nat → ClassId} {aC aM : Nat → Nat} {Q : State → Prop} (C0 : LCx p s m c b L xs D cy aC) {k : Nat} {s0 s1 s2 s3 s4 s5 s6 s7 s8 s9 s10 s11 : OS} (hrel : Rel k s0 s1 s2 s3 s4 s5 s6 s7 s8 s9 s10 s11) (hk : k < 512) (hkL : 6 * k + 6 ≤ L) {H : Heap} {locs : List Loc} {ls : Array Slot} (hw : Wd D ((cellsM aM cy s11) ++ (cellsC aC cy s0 s1 s2 s3 s4 s5 s6 s7 s8 s9 s10)) (fun q => s.heap.size ≤ q) s.heap H locs) (hl : lv_has ls 4 [(3, .int (nI (6 * k))), (2, .ref (aM 0)), (1, .ref (aC 10)), (0, .ref b)])
    (kk : ∀ (s0 s1 s2 s3 s4 s5 s6 s7 s8 s9 s10 s11 : OS) (H : Heap) (locs : List Loc), Rel (k + 1) s0 s1 s2 s3 s4 s5 s6 s7 s8 s9 s10 s11 → Wd D ((cellsM aM cy s11) ++ (cellsC aC cy s0 s1 s2 s3 s4 s5 s6 s7 s8 s9 s10)) (fun q => s.heap.size ≤ q) s.heap H locs → W p l e room_1 s m #[Value.ref b] below meth c H locs 133 47662 Q (F0 m 1380 ls [])) : W p l e room_1 s m #[Value.ref b] below meth c H locs 133 47662 Q (F0 m 1154 ls []) := by
  obtain ⟨hx, hb, hml, hown, hts, hK, hX, hbl, hN, haC, hL⟩ := C0
  obtain ⟨rc, rr, hc, hr, heq, hrel2⟩ := st_clear hrel hk 
  refine lv_aload_n hx hb dL_law_1154 rfl (lv_at hl 2 rfl) ?_
  have pg_1155 := preG (av := [.ref (aC 10)]) hK (lastP hw.1) (lastD hw.2.1) (NL_keep hN hw.2.2 haC) NC_blind
  refine lawI (wr := (cellsM aM cy s11)) (va_runV (As := []) (rest := []) ⟨hx, hb, hml, hown, hts⟩ (m10_clear l D aC cy H.size s0 s1 s2 s3 s4 s5 s6 s7 s8 s9 s10 rc hc) (wL_118 hts ⟨Nat.le_of_ble_eq_true rfl, Nat.le_of_ble_eq_true rfl⟩) ⟨pg_1155.1, va_recv hK (lastP hw.1) (ci := 10) (q0 := 10) rfl eC_10, pg_1155.2⟩ rfl rfl hl.1 rfl (lv_room (Nat.le_of_ble_eq_true rfl)) dL_law_1155 ⟨Nat.le_of_ble_eq_true rfl, Nat.le_of_ble_eq_true rfl⟩) hw fstC (fun H locs hw => ?_)
  clear pg_1155
  refine lv_aload_n hx hb dL_law_1158 rfl (lv_at hl 1 rfl) ?_
  have hw := swapW hw
  have pg_1159 := preG (av := [.ref (aM 0)]) hK (lastP hw.1) (lastD hw.2.1) NM_keep NM_blind
  refine lawI (wr := (cellsC aC cy rc.2 s1 s2 s3 s4 s5 s6 s7 s8 s9 s10)) (va_runV (As := []) (rest := [.int rc.1]) ⟨hx, hb, hml, hown, hts⟩ (m11_clear l D aM cy H.size s11 rr hr) (wL_122 hts ⟨Nat.le_of_ble_eq_true rfl, Nat.le_of_ble_eq_true rfl⟩) ⟨pg_1159.1, va_recv hK (lastP hw.1) (ci := 11) (q0 := 0) rfl eM_0, pg_1159.2⟩ rfl rfl hl.1 rfl (lv_room (Nat.le_of_ble_eq_true rfl)) dL_law_1159 ⟨Nat.le_of_ble_eq_true rfl, Nat.le_of_ble_eq_true rfl⟩) hw fstM (fun H locs hw => ?_)
  clear pg_1159
  have hw := swapW hw
  refine lv_icmp_eq (tgt := 1380) hx hb dL_law_1162 (by decide) (fun c_1162 => ?_) (fun c_1162 => ?_)
  · exact kk rc.2 s1 s2 s3 s4 s5 s6 s7 s8 s9 s10 rr.2 H locs hrel2 hw
  · exact absurd heq c_1162
set_option maxHeartbeats 4000000 in
set_option maxRecDepth 100000 in
theorem law_25 {p : Program} {l : Launch} {e : Env} {s : State} {m : MethodId} {below : List Frame} {meth : Method} {c : Code} {b L : Nat} {xs : Nat → Int32} {D : va_G} {cy : Nat → ClassId} {aC aM : Nat → Nat} {Q : State → Prop} (C0 : LCx p s m c b L xs D cy aC) {k : Nat} {s0 s1 s2 s3 s4 s5 s6 s7 s8 s9 s10 s11 : OS} (hrel : Rel k s0 s1 s2 s3 s4 s5 s6 s7 s8 s9 s10 s11) (hk : k < 512) (hkL : 6 * k + 6 ≤ L) {H : Heap} {locs : List Loc} {ls : Array Slot} (hw : Wd D ((cellsM aM cy s11) ++ (cellsC aC cy s0 s1 s2 s3 s4 s5 s6 s7 s8 s9 s10)) (fun q => s.heap.size ≤ q) s.heap H locs) (hl : lv_has ls 4 [(3, .int (nI (6 * k))), (2, .ref (aM 0)), (1, .ref (aC 10)), (0, .ref b)])
    (kk : ∀ (s0 s1 s2 s3 s4 s5 s6 s7 s8 s9 s10 s11 : OS) (H : Heap) (locs : List Loc), Rel (k + 1) s0 s1 s2 s3 s4 s5 s6 s7 s8 s9 s10 s11 → Wd D ((cellsM aM cy s11) ++ (cellsC aC cy s0 s1 s2 s3 s4 s5 s6 s7 s8 s9 s10)) (fun q => s.heap.size ≤ q) s.heap H locs → W p l e room_1 s m #[Value.ref b] below meth c H locs 133 47662 Q (F0 m 1380 ls [])) : W p l e room_1 s m #[Value.ref b] below meth c H locs 133 47662 Q (F0 m 1167 ls []) := by
  obtain ⟨hx, hb, hml, hown, hts, hK, hX, hbl, hN, haC, hL⟩ := C0
  obtain ⟨rc, rr, hc, hr, heq, hrel2⟩ := st_loss hrel hk (xs (6 * k + 1))
  refine lv_aload_n hx hb dL_law_1167 rfl (lv_at hl 2 rfl) ?_
  refine lv_aload_n hx hb dL_law_1168 rfl (lv_at hl 3 rfl) ?_
  refine lv_iload_n hx hb dL_law_1169 rfl (lv_at hl 0 rfl) ?_
  refine lv_iconst (v := 1) hx hb dL_law_1170 (by decide) ?_
  refine lv_iadd hx hb dL_law_1171 ?_
  refine ldX (i := 6 * k + 1) hx hb hX hbl hw.2.2 (nI_add (6 * k) 1) (by omega) hL dL_law_1172 ?_
  have pg_1173 := preG (av := [.ref (aC 10), .int (xs (6 * k + 1))]) hK (lastP hw.1) (lastD hw.2.1) (NL_keep hN hw.2.2 haC) NC_blind
  refine lawI (wr := (cellsM aM cy s11)) (va_runV (As := [.int (xs (6 * k + 1))]) (rest := []) ⟨hx, hb, hml, hown, hts⟩ (m10_loss l D aC cy H.size s0 s1 s2 s3 s4 s5 s6 s7 s8 s9 s10 (xs (6 * k + 1)) rc hc) (wL_123 hts ⟨Nat.le_of_ble_eq_true rfl, Nat.le_of_ble_eq_true rfl⟩) ⟨pg_1173.1, va_recv hK (lastP hw.1) (ci := 10) (q0 := 10) rfl eC_10, pg_1173.2⟩ rfl rfl hl.1 rfl (lv_room (Nat.le_of_ble_eq_true rfl)) dL_law_1173 ⟨Nat.le_of_ble_eq_true rfl, Nat.le_of_ble_eq_true rfl⟩) hw fstC (fun H locs hw => ?_)
  clear pg_1173
  refine lv_aload_n hx hb dL_law_1176 rfl (lv_at hl 1 rfl) ?_
  refine lv_aload_n hx hb dL_law_1177 rfl (lv_at hl 3 rfl) ?_
  refine lv_iload_n hx hb dL_law_1178 rfl (lv_at hl 0 rfl) ?_
  refine lv_iconst (v := 1) hx hb dL_law_1179 (by decide) ?_
  refine lv_iadd hx hb dL_law_1180 ?_
  refine ldX (i := 6 * k + 1) hx hb hX hbl hw.2.2 (nI_add (6 * k) 1) (by omega) hL dL_law_1181 ?_
  have hw := swapW hw
  have pg_1182 := preG (av := [.ref (aM 0), .int (xs (6 * k + 1))]) hK (lastP hw.1) (lastD hw.2.1) NM_keep NM_blind
  refine lawI (wr := (cellsC aC cy rc.2 s1 s2 s3 s4 s5 s6 s7 s8 s9 s10)) (va_runV (As := [.int (xs (6 * k + 1))]) (rest := [.int rc.1]) ⟨hx, hb, hml, hown, hts⟩ (m11_loss l D aM cy H.size s11 (xs (6 * k + 1)) rr hr) (wL_126 hts ⟨Nat.le_of_ble_eq_true rfl, Nat.le_of_ble_eq_true rfl⟩) ⟨pg_1182.1, va_recv hK (lastP hw.1) (ci := 11) (q0 := 0) rfl eM_0, pg_1182.2⟩ rfl rfl hl.1 rfl (lv_room (Nat.le_of_ble_eq_true rfl)) dL_law_1182 ⟨Nat.le_of_ble_eq_true rfl, Nat.le_of_ble_eq_true rfl⟩) hw fstM (fun H locs hw => ?_)
  clear pg_1182
  have hw := swapW hw
  refine lv_icmp_eq (tgt := 1380) hx hb dL_law_1185 (by decide) (fun c_1185 => ?_) (fun c_1185 => ?_)
  · exact kk rc.2 s1 s2 s3 s4 s5 s6 s7 s8 s9 s10 rr.2 H locs hrel2 hw
  · exact absurd heq c_1185
set_option maxHeartbeats 4000000 in
set_option maxRecDepth 100000 in
theorem law_26 {p : Program} {l : Launch} {e : Env} {s : State} {m : MethodId} {below : List Frame} {meth : Method} {c : Code} {b L : Nat} {xs : Nat → Int32} {D : va_G} {cy : Nat → ClassId} {aC aM : Nat → Nat} {Q : State → Prop} (C0 : LCx p s m c b L xs D cy aC) {k : Nat} {s0 s1 s2 s3 s4 s5 s6 s7 s8 s9 s10 s11 : OS} (hrel : Rel k s0 s1 s2 s3 s4 s5 s6 s7 s8 s9 s10 s11) (hk : k < 512) (hkL : 6 * k + 6 ≤ L) {H : Heap} {locs : List Loc} {ls : Array Slot} (hw : Wd D ((cellsM aM cy s11) ++ (cellsC aC cy s0 s1 s2 s3 s4 s5 s6 s7 s8 s9 s10)) (fun q => s.heap.size ≤ q) s.heap H locs) (hl : lv_has ls 4 [(3, .int (nI (6 * k))), (2, .ref (aM 0)), (1, .ref (aC 10)), (0, .ref b)])
    (kk : ∀ (s0 s1 s2 s3 s4 s5 s6 s7 s8 s9 s10 s11 : OS) (H : Heap) (locs : List Loc), Rel (k + 1) s0 s1 s2 s3 s4 s5 s6 s7 s8 s9 s10 s11 → Wd D ((cellsM aM cy s11) ++ (cellsC aC cy s0 s1 s2 s3 s4 s5 s6 s7 s8 s9 s10)) (fun q => s.heap.size ≤ q) s.heap H locs → W p l e room_1 s m #[Value.ref b] below meth c H locs 133 47662 Q (F0 m 1380 ls [])) : W p l e room_1 s m #[Value.ref b] below meth c H locs 133 47662 Q (F0 m 1190 ls []) := by
  obtain ⟨hx, hb, hml, hown, hts, hK, hX, hbl, hN, haC, hL⟩ := C0
  obtain ⟨rc, rr, hc, hr, heq, hrel2⟩ := st_best hrel hk (xs (6 * k + 1)) (xs (6 * k + 2))
  refine lv_aload_n hx hb dL_law_1190 rfl (lv_at hl 2 rfl) ?_
  refine lv_aload_n hx hb dL_law_1191 rfl (lv_at hl 3 rfl) ?_
  refine lv_iload_n hx hb dL_law_1192 rfl (lv_at hl 0 rfl) ?_
  refine lv_iconst (v := 1) hx hb dL_law_1193 (by decide) ?_
  refine lv_iadd hx hb dL_law_1194 ?_
  refine ldX (i := 6 * k + 1) hx hb hX hbl hw.2.2 (nI_add (6 * k) 1) (by omega) hL dL_law_1195 ?_
  refine lv_aload_n hx hb dL_law_1196 rfl (lv_at hl 3 rfl) ?_
  refine lv_iload_n hx hb dL_law_1197 rfl (lv_at hl 0 rfl) ?_
  refine lv_iconst (v := 2) hx hb dL_law_1198 (by decide) ?_
  refine lv_iadd hx hb dL_law_1199 ?_
  refine ldX (i := 6 * k + 2) hx hb hX hbl hw.2.2 (nI_add (6 * k) 2) (by omega) hL dL_law_1200 ?_
  have pg_1201 := preG (av := [.ref (aC 10), .int (xs (6 * k + 1)), .int (xs (6 * k + 2))]) hK (lastP hw.1) (lastD hw.2.1) (NL_keep hN hw.2.2 haC) NC_blind
  refine lawJ (wr := (cellsM aM cy s11)) (va_runV (As := [.int (xs (6 * k + 1)), .int (xs (6 * k + 2))]) (rest := []) ⟨hx, hb, hml, hown, hts⟩ (m10_best l D aC cy H.size s0 s1 s2 s3 s4 s5 s6 s7 s8 s9 s10 (xs (6 * k + 1)) (xs (6 * k + 2)) rc hc) (wL_127 hts ⟨Nat.le_of_ble_eq_true rfl, Nat.le_of_ble_eq_true rfl⟩) ⟨pg_1201.1, va_recv hK (lastP hw.1) (ci := 10) (q0 := 10) rfl eC_10, pg_1201.2⟩ rfl rfl hl.1 rfl (lv_room (Nat.le_of_ble_eq_true rfl)) dL_law_1201 ⟨Nat.le_of_ble_eq_true rfl, Nat.le_of_ble_eq_true rfl⟩) hw fstC (fun H locs hw => ?_)
  clear pg_1201
  refine lv_aload_n hx hb dL_law_1204 rfl (lv_at hl 1 rfl) ?_
  refine lv_aload_n hx hb dL_law_1205 rfl (lv_at hl 3 rfl) ?_
  refine lv_iload_n hx hb dL_law_1206 rfl (lv_at hl 0 rfl) ?_
  refine lv_iconst (v := 1) hx hb dL_law_1207 (by decide) ?_
  refine lv_iadd hx hb dL_law_1208 ?_
  refine ldX (i := 6 * k + 1) hx hb hX hbl hw.2.2 (nI_add (6 * k) 1) (by omega) hL dL_law_1209 ?_
  refine lv_aload_n hx hb dL_law_1210 rfl (lv_at hl 3 rfl) ?_
  refine lv_iload_n hx hb dL_law_1211 rfl (lv_at hl 0 rfl) ?_
  refine lv_iconst (v := 2) hx hb dL_law_1212 (by decide) ?_
  refine lv_iadd hx hb dL_law_1213 ?_
  refine ldX (i := 6 * k + 2) hx hb hX hbl hw.2.2 (nI_add (6 * k) 2) (by omega) hL dL_law_1214 ?_
  have hw := swapW hw
  have pg_1215 := preG (av := [.ref (aM 0), .int (xs (6 * k + 1)), .int (xs (6 * k + 2))]) hK (lastP hw.1) (lastD hw.2.1) NM_keep NM_blind
  refine lawJ (wr := (cellsC aC cy rc.2 s1 s2 s3 s4 s5 s6 s7 s8 s9 s10)) (va_runV (As := [.int (xs (6 * k + 1)), .int (xs (6 * k + 2))]) (rest := [.long rc.1]) ⟨hx, hb, hml, hown, hts⟩ (m11_best l D aM cy H.size s11 (xs (6 * k + 1)) (xs (6 * k + 2)) rr hr) (wL_131 hts ⟨Nat.le_of_ble_eq_true rfl, Nat.le_of_ble_eq_true rfl⟩) ⟨pg_1215.1, va_recv hK (lastP hw.1) (ci := 11) (q0 := 0) rfl eM_0, pg_1215.2⟩ rfl rfl hl.1 rfl (lv_room (Nat.le_of_ble_eq_true rfl)) dL_law_1215 ⟨Nat.le_of_ble_eq_true rfl, Nat.le_of_ble_eq_true rfl⟩) hw fstM (fun H locs hw => ?_)
  clear pg_1215
  have hw := swapW hw
  refine W.lcmp hx hb dL_law_1218 ?_
  refine lv_if_eq (tgt := 1380) hx hb dL_law_1219 (by decide) (fun c_1219 => ?_) (fun c_1219 => ?_)
  · exact kk rc.2 s1 s2 s3 s4 s5 s6 s7 s8 s9 s10 rr.2 H locs hrel2 hw
  · exact absurd ((lg_eq0 _ _).mpr heq) c_1219
set_option maxHeartbeats 4000000 in
set_option maxRecDepth 100000 in
theorem law_27 {p : Program} {l : Launch} {e : Env} {s : State} {m : MethodId} {below : List Frame} {meth : Method} {c : Code} {b L : Nat} {xs : Nat → Int32} {D : va_G} {cy : Nat → ClassId} {aC aM : Nat → Nat} {Q : State → Prop} (C0 : LCx p s m c b L xs D cy aC) {k : Nat} {s0 s1 s2 s3 s4 s5 s6 s7 s8 s9 s10 s11 : OS} (hrel : Rel k s0 s1 s2 s3 s4 s5 s6 s7 s8 s9 s10 s11) (hk : k < 512) (hkL : 6 * k + 6 ≤ L) {H : Heap} {locs : List Loc} {ls : Array Slot} (hw : Wd D ((cellsM aM cy s11) ++ (cellsC aC cy s0 s1 s2 s3 s4 s5 s6 s7 s8 s9 s10)) (fun q => s.heap.size ≤ q) s.heap H locs) (hl : lv_has ls 4 [(3, .int (nI (6 * k))), (2, .ref (aM 0)), (1, .ref (aC 10)), (0, .ref b)])
    (kk : ∀ (s0 s1 s2 s3 s4 s5 s6 s7 s8 s9 s10 s11 : OS) (H : Heap) (locs : List Loc), Rel (k + 1) s0 s1 s2 s3 s4 s5 s6 s7 s8 s9 s10 s11 → Wd D ((cellsM aM cy s11) ++ (cellsC aC cy s0 s1 s2 s3 s4 s5 s6 s7 s8 s9 s10)) (fun q => s.heap.size ≤ q) s.heap H locs → W p l e room_1 s m #[Value.ref b] below meth c H locs 133 47662 Q (F0 m 1380 ls [])) : W p l e room_1 s m #[Value.ref b] below meth c H locs 133 47662 Q (F0 m 1224 ls []) := by
  obtain ⟨hx, hb, hml, hown, hts, hK, hX, hbl, hN, haC, hL⟩ := C0
  obtain ⟨rc, rr, hc, hr, heq, hrel2⟩ := st_judge hrel hk (xs (6 * k + 1)) (xs (6 * k + 2))
  refine lv_aload_n hx hb dL_law_1224 rfl (lv_at hl 2 rfl) ?_
  refine lv_aload_n hx hb dL_law_1225 rfl (lv_at hl 3 rfl) ?_
  refine lv_iload_n hx hb dL_law_1226 rfl (lv_at hl 0 rfl) ?_
  refine lv_iconst (v := 1) hx hb dL_law_1227 (by decide) ?_
  refine lv_iadd hx hb dL_law_1228 ?_
  refine ldX (i := 6 * k + 1) hx hb hX hbl hw.2.2 (nI_add (6 * k) 1) (by omega) hL dL_law_1229 ?_
  refine lv_aload_n hx hb dL_law_1230 rfl (lv_at hl 3 rfl) ?_
  refine lv_iload_n hx hb dL_law_1231 rfl (lv_at hl 0 rfl) ?_
  refine lv_iconst (v := 2) hx hb dL_law_1232 (by decide) ?_
  refine lv_iadd hx hb dL_law_1233 ?_
  refine ldX (i := 6 * k + 2) hx hb hX hbl hw.2.2 (nI_add (6 * k) 2) (by omega) hL dL_law_1234 ?_
  have pg_1235 := preG (av := [.ref (aC 10), .int (xs (6 * k + 1)), .int (xs (6 * k + 2))]) hK (lastP hw.1) (lastD hw.2.1) (NL_keep hN hw.2.2 haC) NC_blind
  refine lawI (wr := (cellsM aM cy s11)) (va_runV (As := [.int (xs (6 * k + 1)), .int (xs (6 * k + 2))]) (rest := []) ⟨hx, hb, hml, hown, hts⟩ (m10_judge l D aC cy H.size s0 s1 s2 s3 s4 s5 s6 s7 s8 s9 s10 (xs (6 * k + 1)) (xs (6 * k + 2)) rc hc) (wL_132 hts ⟨Nat.le_of_ble_eq_true rfl, Nat.le_of_ble_eq_true rfl⟩) ⟨pg_1235.1, va_recv hK (lastP hw.1) (ci := 10) (q0 := 10) rfl eC_10, pg_1235.2⟩ rfl rfl hl.1 rfl (lv_room (Nat.le_of_ble_eq_true rfl)) dL_law_1235 ⟨Nat.le_of_ble_eq_true rfl, Nat.le_of_ble_eq_true rfl⟩) hw fstC (fun H locs hw => ?_)
  clear pg_1235
  refine lv_aload_n hx hb dL_law_1238 rfl (lv_at hl 1 rfl) ?_
  refine lv_aload_n hx hb dL_law_1239 rfl (lv_at hl 3 rfl) ?_
  refine lv_iload_n hx hb dL_law_1240 rfl (lv_at hl 0 rfl) ?_
  refine lv_iconst (v := 1) hx hb dL_law_1241 (by decide) ?_
  refine lv_iadd hx hb dL_law_1242 ?_
  refine ldX (i := 6 * k + 1) hx hb hX hbl hw.2.2 (nI_add (6 * k) 1) (by omega) hL dL_law_1243 ?_
  refine lv_aload_n hx hb dL_law_1244 rfl (lv_at hl 3 rfl) ?_
  refine lv_iload_n hx hb dL_law_1245 rfl (lv_at hl 0 rfl) ?_
  refine lv_iconst (v := 2) hx hb dL_law_1246 (by decide) ?_
  refine lv_iadd hx hb dL_law_1247 ?_
  refine ldX (i := 6 * k + 2) hx hb hX hbl hw.2.2 (nI_add (6 * k) 2) (by omega) hL dL_law_1248 ?_
  have hw := swapW hw
  have pg_1249 := preG (av := [.ref (aM 0), .int (xs (6 * k + 1)), .int (xs (6 * k + 2))]) hK (lastP hw.1) (lastD hw.2.1) NM_keep NM_blind
  refine lawI (wr := (cellsC aC cy rc.2 s1 s2 s3 s4 s5 s6 s7 s8 s9 s10)) (va_runV (As := [.int (xs (6 * k + 1)), .int (xs (6 * k + 2))]) (rest := [.int rc.1]) ⟨hx, hb, hml, hown, hts⟩ (m11_judge l D aM cy H.size s11 (xs (6 * k + 1)) (xs (6 * k + 2)) rr hr) (wL_135 hts ⟨Nat.le_of_ble_eq_true rfl, Nat.le_of_ble_eq_true rfl⟩) ⟨pg_1249.1, va_recv hK (lastP hw.1) (ci := 11) (q0 := 0) rfl eM_0, pg_1249.2⟩ rfl rfl hl.1 rfl (lv_room (Nat.le_of_ble_eq_true rfl)) dL_law_1249 ⟨Nat.le_of_ble_eq_true rfl, Nat.le_of_ble_eq_true rfl⟩) hw fstM (fun H locs hw => ?_)
  clear pg_1249
  have hw := swapW hw
  refine lv_icmp_eq (tgt := 1380) hx hb dL_law_1252 (by decide) (fun c_1252 => ?_) (fun c_1252 => ?_)
  · exact kk rc.2 s1 s2 s3 s4 s5 s6 s7 s8 s9 s10 rr.2 H locs hrel2 hw
  · exact absurd heq c_1252
set_option maxHeartbeats 4000000 in
set_option maxRecDepth 100000 in
theorem law_28 {p : Program} {l : Launch} {e : Env} {s : State} {m : MethodId} {below : List Frame} {meth : Method} {c : Code} {b L : Nat} {xs : Nat → Int32} {D : va_G} {cy : Nat → ClassId} {aC aM : Nat → Nat} {Q : State → Prop} (C0 : LCx p s m c b L xs D cy aC) {k : Nat} {s0 s1 s2 s3 s4 s5 s6 s7 s8 s9 s10 s11 : OS} (hrel : Rel k s0 s1 s2 s3 s4 s5 s6 s7 s8 s9 s10 s11) (hk : k < 512) (hkL : 6 * k + 6 ≤ L) {H : Heap} {locs : List Loc} {ls : Array Slot} (hw : Wd D ((cellsM aM cy s11) ++ (cellsC aC cy s0 s1 s2 s3 s4 s5 s6 s7 s8 s9 s10)) (fun q => s.heap.size ≤ q) s.heap H locs) (hl : lv_has ls 4 [(3, .int (nI (6 * k))), (2, .ref (aM 0)), (1, .ref (aC 10)), (0, .ref b)])
    (kk : ∀ (s0 s1 s2 s3 s4 s5 s6 s7 s8 s9 s10 s11 : OS) (H : Heap) (locs : List Loc), Rel (k + 1) s0 s1 s2 s3 s4 s5 s6 s7 s8 s9 s10 s11 → Wd D ((cellsM aM cy s11) ++ (cellsC aC cy s0 s1 s2 s3 s4 s5 s6 s7 s8 s9 s10)) (fun q => s.heap.size ≤ q) s.heap H locs → W p l e room_1 s m #[Value.ref b] below meth c H locs 133 47662 Q (F0 m 1380 ls [])) : W p l e room_1 s m #[Value.ref b] below meth c H locs 133 47662 Q (F0 m 1257 ls []) := by
  obtain ⟨hx, hb, hml, hown, hts, hK, hX, hbl, hN, haC, hL⟩ := C0
  obtain ⟨rc, rr, hc, hr, heq, hrel2⟩ := st_next hrel hk (xs (6 * k + 1)) (xs (6 * k + 2)) (xs (6 * k + 3))
  refine lv_aload_n hx hb dL_law_1257 rfl (lv_at hl 2 rfl) ?_
  refine lv_aload_n hx hb dL_law_1258 rfl (lv_at hl 3 rfl) ?_
  refine lv_iload_n hx hb dL_law_1259 rfl (lv_at hl 0 rfl) ?_
  refine lv_iconst (v := 1) hx hb dL_law_1260 (by decide) ?_
  refine lv_iadd hx hb dL_law_1261 ?_
  refine ldX (i := 6 * k + 1) hx hb hX hbl hw.2.2 (nI_add (6 * k) 1) (by omega) hL dL_law_1262 ?_
  refine lv_aload_n hx hb dL_law_1263 rfl (lv_at hl 3 rfl) ?_
  refine lv_iload_n hx hb dL_law_1264 rfl (lv_at hl 0 rfl) ?_
  refine lv_iconst (v := 2) hx hb dL_law_1265 (by decide) ?_
  refine lv_iadd hx hb dL_law_1266 ?_
  refine ldX (i := 6 * k + 2) hx hb hX hbl hw.2.2 (nI_add (6 * k) 2) (by omega) hL dL_law_1267 ?_
  refine lv_aload_n hx hb dL_law_1268 rfl (lv_at hl 3 rfl) ?_
  refine lv_iload_n hx hb dL_law_1269 rfl (lv_at hl 0 rfl) ?_
  refine lv_iconst (v := 3) hx hb dL_law_1270 (by decide) ?_
  refine lv_iadd hx hb dL_law_1271 ?_
  refine ldX (i := 6 * k + 3) hx hb hX hbl hw.2.2 (nI_add (6 * k) 3) (by omega) hL dL_law_1272 ?_
  have pg_1273 := preG (av := [.ref (aC 10), .int (xs (6 * k + 1)), .int (xs (6 * k + 2)), .int (xs (6 * k + 3))]) hK (lastP hw.1) (lastD hw.2.1) (NL_keep hN hw.2.2 haC) NC_blind
  refine lawI (wr := (cellsM aM cy s11)) (va_runV (As := [.int (xs (6 * k + 1)), .int (xs (6 * k + 2)), .int (xs (6 * k + 3))]) (rest := []) ⟨hx, hb, hml, hown, hts⟩ (m10_next l D aC cy H.size s0 s1 s2 s3 s4 s5 s6 s7 s8 s9 s10 (xs (6 * k + 1)) (xs (6 * k + 2)) (xs (6 * k + 3)) rc hc) (wL_136 hts ⟨Nat.le_of_ble_eq_true rfl, Nat.le_of_ble_eq_true rfl⟩) ⟨pg_1273.1, va_recv hK (lastP hw.1) (ci := 10) (q0 := 10) rfl eC_10, pg_1273.2⟩ rfl rfl hl.1 rfl (lv_room (Nat.le_of_ble_eq_true rfl)) dL_law_1273 ⟨Nat.le_of_ble_eq_true rfl, Nat.le_of_ble_eq_true rfl⟩) hw fstC (fun H locs hw => ?_)
  clear pg_1273
  refine lv_aload_n hx hb dL_law_1276 rfl (lv_at hl 1 rfl) ?_
  refine lv_aload_n hx hb dL_law_1277 rfl (lv_at hl 3 rfl) ?_
  refine lv_iload_n hx hb dL_law_1278 rfl (lv_at hl 0 rfl) ?_
  refine lv_iconst (v := 1) hx hb dL_law_1279 (by decide) ?_
  refine lv_iadd hx hb dL_law_1280 ?_
  refine ldX (i := 6 * k + 1) hx hb hX hbl hw.2.2 (nI_add (6 * k) 1) (by omega) hL dL_law_1281 ?_
  refine lv_aload_n hx hb dL_law_1282 rfl (lv_at hl 3 rfl) ?_
  refine lv_iload_n hx hb dL_law_1283 rfl (lv_at hl 0 rfl) ?_
  refine lv_iconst (v := 2) hx hb dL_law_1284 (by decide) ?_
  refine lv_iadd hx hb dL_law_1285 ?_
  refine ldX (i := 6 * k + 2) hx hb hX hbl hw.2.2 (nI_add (6 * k) 2) (by omega) hL dL_law_1286 ?_
  refine lv_aload_n hx hb dL_law_1287 rfl (lv_at hl 3 rfl) ?_
  refine lv_iload_n hx hb dL_law_1288 rfl (lv_at hl 0 rfl) ?_
  refine lv_iconst (v := 3) hx hb dL_law_1289 (by decide) ?_
  refine lv_iadd hx hb dL_law_1290 ?_
  refine ldX (i := 6 * k + 3) hx hb hX hbl hw.2.2 (nI_add (6 * k) 3) (by omega) hL dL_law_1291 ?_
  have hw := swapW hw
  have pg_1292 := preG (av := [.ref (aM 0), .int (xs (6 * k + 1)), .int (xs (6 * k + 2)), .int (xs (6 * k + 3))]) hK (lastP hw.1) (lastD hw.2.1) NM_keep NM_blind
  refine lawI (wr := (cellsC aC cy s0 s1 s2 s3 s4 s5 s6 s7 s8 s9 s10)) (va_runV (As := [.int (xs (6 * k + 1)), .int (xs (6 * k + 2)), .int (xs (6 * k + 3))]) (rest := [.int rc]) ⟨hx, hb, hml, hown, hts⟩ (m11_next l D aM cy H.size s11 (xs (6 * k + 1)) (xs (6 * k + 2)) (xs (6 * k + 3)) rr hr) (wL_139 hts ⟨Nat.le_of_ble_eq_true rfl, Nat.le_of_ble_eq_true rfl⟩) ⟨pg_1292.1, va_recv hK (lastP hw.1) (ci := 11) (q0 := 0) rfl eM_0, pg_1292.2⟩ rfl rfl hl.1 rfl (lv_room (Nat.le_of_ble_eq_true rfl)) dL_law_1292 ⟨Nat.le_of_ble_eq_true rfl, Nat.le_of_ble_eq_true rfl⟩) hw fstM (fun H locs hw => ?_)
  clear pg_1292
  have hw := swapW hw
  refine lv_icmp_eq (tgt := 1380) hx hb dL_law_1295 (by decide) (fun c_1295 => ?_) (fun c_1295 => ?_)
  · exact kk s0 s1 s2 s3 s4 s5 s6 s7 s8 s9 s10 s11 H locs hrel2 hw
  · exact absurd heq c_1295
set_option maxHeartbeats 4000000 in
set_option maxRecDepth 100000 in
theorem law_29 {p : Program} {l : Launch} {e : Env} {s : State} {m : MethodId} {below : List Frame} {meth : Method} {c : Code} {b L : Nat} {xs : Nat → Int32} {D : va_G} {cy : Nat → ClassId} {aC aM : Nat → Nat} {Q : State → Prop} (C0 : LCx p s m c b L xs D cy aC) {k : Nat} {s0 s1 s2 s3 s4 s5 s6 s7 s8 s9 s10 s11 : OS} (hrel : Rel k s0 s1 s2 s3 s4 s5 s6 s7 s8 s9 s10 s11) (hk : k < 512) (hkL : 6 * k + 6 ≤ L) {H : Heap} {locs : List Loc} {ls : Array Slot} (hw : Wd D ((cellsM aM cy s11) ++ (cellsC aC cy s0 s1 s2 s3 s4 s5 s6 s7 s8 s9 s10)) (fun q => s.heap.size ≤ q) s.heap H locs) (hl : lv_has ls 4 [(3, .int (nI (6 * k))), (2, .ref (aM 0)), (1, .ref (aC 10)), (0, .ref b)])
    (kk : ∀ (s0 s1 s2 s3 s4 s5 s6 s7 s8 s9 s10 s11 : OS) (H : Heap) (locs : List Loc), Rel (k + 1) s0 s1 s2 s3 s4 s5 s6 s7 s8 s9 s10 s11 → Wd D ((cellsM aM cy s11) ++ (cellsC aC cy s0 s1 s2 s3 s4 s5 s6 s7 s8 s9 s10)) (fun q => s.heap.size ≤ q) s.heap H locs → W p l e room_1 s m #[Value.ref b] below meth c H locs 133 47662 Q (F0 m 1380 ls [])) : W p l e room_1 s m #[Value.ref b] below meth c H locs 133 47662 Q (F0 m 1300 ls []) := by
  obtain ⟨hx, hb, hml, hown, hts, hK, hX, hbl, hN, haC, hL⟩ := C0
  obtain ⟨rc, rr, hc, hr, heq, hrel2⟩ := st_check hrel hk (xs (6 * k + 1))
  refine lv_aload_n hx hb dL_law_1300 rfl (lv_at hl 2 rfl) ?_
  refine lv_aload_n hx hb dL_law_1301 rfl (lv_at hl 3 rfl) ?_
  refine lv_iload_n hx hb dL_law_1302 rfl (lv_at hl 0 rfl) ?_
  refine lv_iconst (v := 1) hx hb dL_law_1303 (by decide) ?_
  refine lv_iadd hx hb dL_law_1304 ?_
  refine ldX (i := 6 * k + 1) hx hb hX hbl hw.2.2 (nI_add (6 * k) 1) (by omega) hL dL_law_1305 ?_
  have pg_1306 := preG (av := [.ref (aC 10), .int (xs (6 * k + 1))]) hK (lastP hw.1) (lastD hw.2.1) (NL_keep hN hw.2.2 haC) NC_blind
  refine lawI (wr := (cellsM aM cy s11)) (va_runV (As := [.int (xs (6 * k + 1))]) (rest := []) ⟨hx, hb, hml, hown, hts⟩ (m10_check l D aC cy H.size s0 s1 s2 s3 s4 s5 s6 s7 s8 s9 s10 (xs (6 * k + 1)) rc hc) (wL_140 hts ⟨Nat.le_of_ble_eq_true rfl, Nat.le_of_ble_eq_true rfl⟩) ⟨pg_1306.1, va_recv hK (lastP hw.1) (ci := 10) (q0 := 10) rfl eC_10, pg_1306.2⟩ rfl rfl hl.1 rfl (lv_room (Nat.le_of_ble_eq_true rfl)) dL_law_1306 ⟨Nat.le_of_ble_eq_true rfl, Nat.le_of_ble_eq_true rfl⟩) hw fstC (fun H locs hw => ?_)
  clear pg_1306
  refine lv_aload_n hx hb dL_law_1309 rfl (lv_at hl 1 rfl) ?_
  refine lv_aload_n hx hb dL_law_1310 rfl (lv_at hl 3 rfl) ?_
  refine lv_iload_n hx hb dL_law_1311 rfl (lv_at hl 0 rfl) ?_
  refine lv_iconst (v := 1) hx hb dL_law_1312 (by decide) ?_
  refine lv_iadd hx hb dL_law_1313 ?_
  refine ldX (i := 6 * k + 1) hx hb hX hbl hw.2.2 (nI_add (6 * k) 1) (by omega) hL dL_law_1314 ?_
  have hw := swapW hw
  have pg_1315 := preG (av := [.ref (aM 0), .int (xs (6 * k + 1))]) hK (lastP hw.1) (lastD hw.2.1) NM_keep NM_blind
  refine lawI (wr := (cellsC aC cy s0 s1 s2 s3 s4 s5 s6 s7 rc.2 s9 s10)) (va_runV (As := [.int (xs (6 * k + 1))]) (rest := [.int rc.1]) ⟨hx, hb, hml, hown, hts⟩ (m11_check l D aM cy H.size s11 (xs (6 * k + 1)) rr hr) (wL_143 hts ⟨Nat.le_of_ble_eq_true rfl, Nat.le_of_ble_eq_true rfl⟩) ⟨pg_1315.1, va_recv hK (lastP hw.1) (ci := 11) (q0 := 0) rfl eM_0, pg_1315.2⟩ rfl rfl hl.1 rfl (lv_room (Nat.le_of_ble_eq_true rfl)) dL_law_1315 ⟨Nat.le_of_ble_eq_true rfl, Nat.le_of_ble_eq_true rfl⟩) hw fstM (fun H locs hw => ?_)
  clear pg_1315
  have hw := swapW hw
  refine lv_icmp_eq (tgt := 1380) hx hb dL_law_1318 (by decide) (fun c_1318 => ?_) (fun c_1318 => ?_)
  · exact kk s0 s1 s2 s3 s4 s5 s6 s7 rc.2 s9 s10 rr.2 H locs hrel2 hw
  · exact absurd heq c_1318
set_option maxHeartbeats 4000000 in
set_option maxRecDepth 100000 in
theorem law_30 {p : Program} {l : Launch} {e : Env} {s : State} {m : MethodId} {below : List Frame} {meth : Method} {c : Code} {b L : Nat} {xs : Nat → Int32} {D : va_G} {cy : Nat → ClassId} {aC aM : Nat → Nat} {Q : State → Prop} (C0 : LCx p s m c b L xs D cy aC) {k : Nat} {s0 s1 s2 s3 s4 s5 s6 s7 s8 s9 s10 s11 : OS} (hrel : Rel k s0 s1 s2 s3 s4 s5 s6 s7 s8 s9 s10 s11) (hk : k < 512) (hkL : 6 * k + 6 ≤ L) {H : Heap} {locs : List Loc} {ls : Array Slot} (hw : Wd D ((cellsM aM cy s11) ++ (cellsC aC cy s0 s1 s2 s3 s4 s5 s6 s7 s8 s9 s10)) (fun q => s.heap.size ≤ q) s.heap H locs) (hl : lv_has ls 4 [(3, .int (nI (6 * k))), (2, .ref (aM 0)), (1, .ref (aC 10)), (0, .ref b)])
    (kk : ∀ (s0 s1 s2 s3 s4 s5 s6 s7 s8 s9 s10 s11 : OS) (H : Heap) (locs : List Loc), Rel (k + 1) s0 s1 s2 s3 s4 s5 s6 s7 s8 s9 s10 s11 → Wd D ((cellsM aM cy s11) ++ (cellsC aC cy s0 s1 s2 s3 s4 s5 s6 s7 s8 s9 s10)) (fun q => s.heap.size ≤ q) s.heap H locs → W p l e room_1 s m #[Value.ref b] below meth c H locs 133 47662 Q (F0 m 1380 ls [])) : W p l e room_1 s m #[Value.ref b] below meth c H locs 133 47662 Q (F0 m 1323 ls []) := by
  obtain ⟨hx, hb, hml, hown, hts, hK, hX, hbl, hN, haC, hL⟩ := C0
  obtain ⟨rc, rr, hc, hr, heq, hrel2⟩ := st_sum hrel hk (xs (6 * k + 1)) (xs (6 * k + 2))
  refine lv_aload_n hx hb dL_law_1323 rfl (lv_at hl 2 rfl) ?_
  refine lv_aload_n hx hb dL_law_1324 rfl (lv_at hl 3 rfl) ?_
  refine lv_iload_n hx hb dL_law_1325 rfl (lv_at hl 0 rfl) ?_
  refine lv_iconst (v := 1) hx hb dL_law_1326 (by decide) ?_
  refine lv_iadd hx hb dL_law_1327 ?_
  refine ldX (i := 6 * k + 1) hx hb hX hbl hw.2.2 (nI_add (6 * k) 1) (by omega) hL dL_law_1328 ?_
  refine lv_aload_n hx hb dL_law_1329 rfl (lv_at hl 3 rfl) ?_
  refine lv_iload_n hx hb dL_law_1330 rfl (lv_at hl 0 rfl) ?_
  refine lv_iconst (v := 2) hx hb dL_law_1331 (by decide) ?_
  refine lv_iadd hx hb dL_law_1332 ?_
  refine ldX (i := 6 * k + 2) hx hb hX hbl hw.2.2 (nI_add (6 * k) 2) (by omega) hL dL_law_1333 ?_
  have pg_1334 := preG (av := [.ref (aC 10), .int (xs (6 * k + 1)), .int (xs (6 * k + 2))]) hK (lastP hw.1) (lastD hw.2.1) (NL_keep hN hw.2.2 haC) NC_blind
  refine lawJ (wr := (cellsM aM cy s11)) (va_runV (As := [.int (xs (6 * k + 1)), .int (xs (6 * k + 2))]) (rest := []) ⟨hx, hb, hml, hown, hts⟩ (m10_sum l D aC cy H.size s0 s1 s2 s3 s4 s5 s6 s7 s8 s9 s10 (xs (6 * k + 1)) (xs (6 * k + 2)) rc hc) (wL_144 hts ⟨Nat.le_of_ble_eq_true rfl, Nat.le_of_ble_eq_true rfl⟩) ⟨pg_1334.1, va_recv hK (lastP hw.1) (ci := 10) (q0 := 10) rfl eC_10, pg_1334.2⟩ rfl rfl hl.1 rfl (lv_room (Nat.le_of_ble_eq_true rfl)) dL_law_1334 ⟨Nat.le_of_ble_eq_true rfl, Nat.le_of_ble_eq_true rfl⟩) hw fstC (fun H locs hw => ?_)
  clear pg_1334
  refine lv_aload_n hx hb dL_law_1337 rfl (lv_at hl 1 rfl) ?_
  refine lv_aload_n hx hb dL_law_1338 rfl (lv_at hl 3 rfl) ?_
  refine lv_iload_n hx hb dL_law_1339 rfl (lv_at hl 0 rfl) ?_
  refine lv_iconst (v := 1) hx hb dL_law_1340 (by decide) ?_
  refine lv_iadd hx hb dL_law_1341 ?_
  refine ldX (i := 6 * k + 1) hx hb hX hbl hw.2.2 (nI_add (6 * k) 1) (by omega) hL dL_law_1342 ?_
  refine lv_aload_n hx hb dL_law_1343 rfl (lv_at hl 3 rfl) ?_
  refine lv_iload_n hx hb dL_law_1344 rfl (lv_at hl 0 rfl) ?_
  refine lv_iconst (v := 2) hx hb dL_law_1345 (by decide) ?_
  refine lv_iadd hx hb dL_law_1346 ?_
  refine ldX (i := 6 * k + 2) hx hb hX hbl hw.2.2 (nI_add (6 * k) 2) (by omega) hL dL_law_1347 ?_
  have hw := swapW hw
  have pg_1348 := preG (av := [.ref (aM 0), .int (xs (6 * k + 1)), .int (xs (6 * k + 2))]) hK (lastP hw.1) (lastD hw.2.1) NM_keep NM_blind
  refine lawJ (wr := (cellsC aC cy s0 s1 s2 s3 s4 s5 s6 s7 s8 s9 s10)) (va_runV (As := [.int (xs (6 * k + 1)), .int (xs (6 * k + 2))]) (rest := [.long rc]) ⟨hx, hb, hml, hown, hts⟩ (m11_sum l D aM cy H.size s11 (xs (6 * k + 1)) (xs (6 * k + 2)) rr hr) (wL_147 hts ⟨Nat.le_of_ble_eq_true rfl, Nat.le_of_ble_eq_true rfl⟩) ⟨pg_1348.1, va_recv hK (lastP hw.1) (ci := 11) (q0 := 0) rfl eM_0, pg_1348.2⟩ rfl rfl hl.1 rfl (lv_room (Nat.le_of_ble_eq_true rfl)) dL_law_1348 ⟨Nat.le_of_ble_eq_true rfl, Nat.le_of_ble_eq_true rfl⟩) hw fstM (fun H locs hw => ?_)
  clear pg_1348
  have hw := swapW hw
  refine W.lcmp hx hb dL_law_1351 ?_
  refine lv_if_eq (tgt := 1380) hx hb dL_law_1352 (by decide) (fun c_1352 => ?_) (fun c_1352 => ?_)
  · exact kk s0 s1 s2 s3 s4 s5 s6 s7 s8 s9 s10 s11 H locs hrel2 hw
  · exact absurd ((lg_eq0 _ _).mpr heq) c_1352
set_option maxHeartbeats 4000000 in
set_option maxRecDepth 100000 in
theorem law_31 {p : Program} {l : Launch} {e : Env} {s : State} {m : MethodId} {below : List Frame} {meth : Method} {c : Code} {b L : Nat} {xs : Nat → Int32} {D : va_G} {cy : Nat → ClassId} {aC aM : Nat → Nat} {Q : State → Prop} (C0 : LCx p s m c b L xs D cy aC) {k : Nat} {s0 s1 s2 s3 s4 s5 s6 s7 s8 s9 s10 s11 : OS} (hrel : Rel k s0 s1 s2 s3 s4 s5 s6 s7 s8 s9 s10 s11) (hk : k < 512) (hkL : 6 * k + 6 ≤ L) {H : Heap} {locs : List Loc} {ls : Array Slot} (hw : Wd D ((cellsM aM cy s11) ++ (cellsC aC cy s0 s1 s2 s3 s4 s5 s6 s7 s8 s9 s10)) (fun q => s.heap.size ≤ q) s.heap H locs) (hl : lv_has ls 4 [(3, .int (nI (6 * k))), (2, .ref (aM 0)), (1, .ref (aC 10)), (0, .ref b)])
    (kk : ∀ (s0 s1 s2 s3 s4 s5 s6 s7 s8 s9 s10 s11 : OS) (H : Heap) (locs : List Loc), Rel (k + 1) s0 s1 s2 s3 s4 s5 s6 s7 s8 s9 s10 s11 → Wd D ((cellsM aM cy s11) ++ (cellsC aC cy s0 s1 s2 s3 s4 s5 s6 s7 s8 s9 s10)) (fun q => s.heap.size ≤ q) s.heap H locs → W p l e room_1 s m #[Value.ref b] below meth c H locs 133 47662 Q (F0 m 1380 ls [])) : W p l e room_1 s m #[Value.ref b] below meth c H locs 133 47662 Q (F0 m 1357 ls []) := by
  obtain ⟨hx, hb, hml, hown, hts, hK, hX, hbl, hN, haC, hL⟩ := C0
  obtain ⟨rc, rr, hc, hr, heq, hrel2⟩ := st_count hrel hk (xs (6 * k + 1))
  refine lv_aload_n hx hb dL_law_1357 rfl (lv_at hl 2 rfl) ?_
  refine lv_aload_n hx hb dL_law_1358 rfl (lv_at hl 3 rfl) ?_
  refine lv_iload_n hx hb dL_law_1359 rfl (lv_at hl 0 rfl) ?_
  refine lv_iconst (v := 1) hx hb dL_law_1360 (by decide) ?_
  refine lv_iadd hx hb dL_law_1361 ?_
  refine ldX (i := 6 * k + 1) hx hb hX hbl hw.2.2 (nI_add (6 * k) 1) (by omega) hL dL_law_1362 ?_
  have pg_1363 := preG (av := [.ref (aC 10), .int (xs (6 * k + 1))]) hK (lastP hw.1) (lastD hw.2.1) (NL_keep hN hw.2.2 haC) NC_blind
  refine lawI (wr := (cellsM aM cy s11)) (va_runV (As := [.int (xs (6 * k + 1))]) (rest := []) ⟨hx, hb, hml, hown, hts⟩ (m10_count l D aC cy H.size s0 s1 s2 s3 s4 s5 s6 s7 s8 s9 s10 (xs (6 * k + 1)) rc hc) (wL_148 hts ⟨Nat.le_of_ble_eq_true rfl, Nat.le_of_ble_eq_true rfl⟩) ⟨pg_1363.1, va_recv hK (lastP hw.1) (ci := 10) (q0 := 10) rfl eC_10, pg_1363.2⟩ rfl rfl hl.1 rfl (lv_room (Nat.le_of_ble_eq_true rfl)) dL_law_1363 ⟨Nat.le_of_ble_eq_true rfl, Nat.le_of_ble_eq_true rfl⟩) hw fstC (fun H locs hw => ?_)
  clear pg_1363
  refine lv_aload_n hx hb dL_law_1366 rfl (lv_at hl 1 rfl) ?_
  refine lv_aload_n hx hb dL_law_1367 rfl (lv_at hl 3 rfl) ?_
  refine lv_iload_n hx hb dL_law_1368 rfl (lv_at hl 0 rfl) ?_
  refine lv_iconst (v := 1) hx hb dL_law_1369 (by decide) ?_
  refine lv_iadd hx hb dL_law_1370 ?_
  refine ldX (i := 6 * k + 1) hx hb hX hbl hw.2.2 (nI_add (6 * k) 1) (by omega) hL dL_law_1371 ?_
  have hw := swapW hw
  have pg_1372 := preG (av := [.ref (aM 0), .int (xs (6 * k + 1))]) hK (lastP hw.1) (lastD hw.2.1) NM_keep NM_blind
  refine lawI (wr := (cellsC aC cy s0 s1 s2 s3 s4 s5 s6 s7 s8 s9 s10)) (va_runV (As := [.int (xs (6 * k + 1))]) (rest := [.int rc]) ⟨hx, hb, hml, hown, hts⟩ (m11_count l D aM cy H.size s11 (xs (6 * k + 1)) rr hr) (wL_151 hts ⟨Nat.le_of_ble_eq_true rfl, Nat.le_of_ble_eq_true rfl⟩) ⟨pg_1372.1, va_recv hK (lastP hw.1) (ci := 11) (q0 := 0) rfl eM_0, pg_1372.2⟩ rfl rfl hl.1 rfl (lv_room (Nat.le_of_ble_eq_true rfl)) dL_law_1372 ⟨Nat.le_of_ble_eq_true rfl, Nat.le_of_ble_eq_true rfl⟩) hw fstM (fun H locs hw => ?_)
  clear pg_1372
  have hw := swapW hw
  refine lv_icmp_eq (tgt := 1380) hx hb dL_law_1375 (by decide) (fun c_1375 => ?_) (fun c_1375 => ?_)
  · exact kk s0 s1 s2 s3 s4 s5 s6 s7 s8 s9 s10 s11 H locs hrel2 hw
  · exact absurd heq c_1375
set_option maxHeartbeats 4000000 in
set_option maxRecDepth 100000 in
theorem law_loop {p : Program} {l : Launch} {e : Env} {s : State} {m : MethodId} {below : List Frame} {meth : Method} {c : Code} {b L : Nat} {xs : Nat → Int32} {D : va_G} {cy : Nat → ClassId} {aC aM : Nat → Nat} {Q : State → Prop} (C0 : LCx p s m c b L xs D cy aC)
    (hend : ∀ (H : Heap) (locs : List Loc) (ls : Array Slot), va_S (fun q => s.heap.size ≤ q) s.heap H locs → W p l e room_1 s m #[Value.ref b] below meth c H locs 133 47662 Q (F0 m 1386 ls [])) :
    ∀ (n k : Nat) (s0 s1 s2 s3 s4 s5 s6 s7 s8 s9 s10 s11 : OS) (H : Heap) (locs : List Loc) (ls : Array Slot), L - 6 * k < n → Rel k s0 s1 s2 s3 s4 s5 s6 s7 s8 s9 s10 s11 → 6 * k ≤ L → Wd D ((cellsM aM cy s11) ++ (cellsC aC cy s0 s1 s2 s3 s4 s5 s6 s7 s8 s9 s10)) (fun q => s.heap.size ≤ q) s.heap H locs → lv_has ls 4 [(3, .int (nI (6 * k))), (2, .ref (aM 0)), (1, .ref (aC 10)), (0, .ref b)] → W p l e room_1 s m #[Value.ref b] below meth c H locs 133 47662 Q (F0 m 18 ls []) := by
  intro n
  induction n with
  | zero => intro k s0 s1 s2 s3 s4 s5 s6 s7 s8 s9 s10 s11 H locs ls h; omega
  | succ n ih =>
    intro k s0 s1 s2 s3 s4 s5 s6 s7 s8 s9 s10 s11 H locs ls hn hrel hkL hw hl
    obtain ⟨hx, hb, hml, hown, hts, hK, hX, hbl, hN, haC, hL⟩ := id C0
    refine lv_iload_n hx hb dL_law_18 rfl (lv_at hl 0 rfl) ?_
    refine lv_aload_n hx hb dL_law_19 rfl (lv_at hl 3 rfl) ?_
    refine va_slen hx hb hX hbl (Nat.not_le.mpr hbl) hw.2.2 dL_law_20 ?_
    refine lv_bipush (v := 6) hx hb dL_law_21 (by decide) ?_
    refine lv_isub hx hb dL_law_23 ?_
    have e1 : (Int32.ofNat L - 6 : Int32).toInt = (L : Int) - 6 := pk_sub_toInt (a := L) (b := 6) (by omega) (by omega)
    have e2 : (nI (6 * k)).toInt = ((6 * k : Nat) : Int) := nI_toInt (by omega)
    refine lv_icmp_gt (tgt := 1386) hx hb dL_law_24 (by decide) (fun c0 => ?_) (fun c0 => ?_)
    · exact hend H locs ls hw.2.2
    · have hk6 : 6 * k + 6 ≤ L := by
        rw [Int32.lt_iff_toInt_lt, e1, e2] at c0
        omega
      have hk : k < 512 := by omega
      refine lv_aload_n hx hb dL_law_27 rfl (lv_at hl 3 rfl) ?_
      refine lv_iload_n hx hb dL_law_28 rfl (lv_at hl 0 rfl) ?_
      refine ldX (i := 6 * k) hx hb hX hbl hw.2.2 rfl (by omega) hL dL_law_29 ?_
      refine lv_bipush (v := 31) hx hb dL_law_30 (by decide) ?_
      refine lv_iand hx hb dL_law_32 ?_
      obtain ⟨j, hj, ej⟩ := pk_andE (xs (6 * k)) (m := 31) 5 (by decide)
      refine topI ej.symm ?_
      have hnext : ∀ (s0 s1 s2 s3 s4 s5 s6 s7 s8 s9 s10 s11 : OS) (H : Heap) (locs : List Loc), Rel (k + 1) s0 s1 s2 s3 s4 s5 s6 s7 s8 s9 s10 s11 → Wd D ((cellsM aM cy s11) ++ (cellsC aC cy s0 s1 s2 s3 s4 s5 s6 s7 s8 s9 s10)) (fun q => s.heap.size ≤ q) s.heap H locs → W p l e room_1 s m #[Value.ref b] below meth c H locs 133 47662 Q (F0 m 1380 ls []) := by
        intro s0 s1 s2 s3 s4 s5 s6 s7 s8 s9 s10 s11 H locs hrel hw
        have e3 : nI (6 * k) + 6 = nI (6 * (k + 1)) := nI_add (6 * k) 6
        refine lv_iinc (v := nI (6 * (k + 1))) (lv' := [(3, .int (nI (6 * (k + 1)))), (2, .ref (aM 0)), (1, .ref (aC 10)), (0, .ref b)]) hx hb dL_law_1380 hl (k := 0) rfl (by rw [← e3]; rfl) (by decide) rfl (fun ls hl => ?_)
        refine lv_goto (tgt := 18) hx hb dL_law_1383 (by decide) ?_
        exact ih (k + 1) s0 s1 s2 s3 s4 s5 s6 s7 s8 s9 s10 s11 H locs ls (by omega) hrel (by omega) hw hl
      rcases (show j = 0 ∨ j = 1 ∨ j = 2 ∨ j = 3 ∨ j = 4 ∨ j = 5 ∨ j = 6 ∨ j = 7 ∨ j = 8 ∨ j = 9 ∨ j = 10 ∨ j = 11 ∨ j = 12 ∨ j = 13 ∨ j = 14 ∨ j = 15 ∨ j = 16 ∨ j = 17 ∨ j = 18 ∨ j = 19 ∨ j = 20 ∨ j = 21 ∨ j = 22 ∨ j = 23 ∨ j = 24 ∨ j = 25 ∨ j = 26 ∨ j = 27 ∨ j = 28 ∨ j = 29 ∨ j = 30 ∨ j = 31 by omega) with rfl | rfl | rfl | rfl | rfl | rfl | rfl | rfl | rfl | rfl | rfl | rfl | rfl | rfl | rfl | rfl | rfl | rfl | rfl | rfl | rfl | rfl | rfl | rfl | rfl | rfl | rfl | rfl | rfl | rfl | rfl | rfl
      · exact lv_tableIn (off := 143) (tgt := 176) hx hb dL_law_33 (by decide) (by decide) rfl (by decide) (law_0 C0 hrel hk hk6 hw hl hnext)
      · exact lv_tableIn (off := 166) (tgt := 199) hx hb dL_law_33 (by decide) (by decide) rfl (by decide) (law_1 C0 hrel hk hk6 hw hl hnext)
      · exact lv_tableIn (off := 199) (tgt := 232) hx hb dL_law_33 (by decide) (by decide) rfl (by decide) (law_2 C0 hrel hk hk6 hw hl hnext)
      · exact lv_tableIn (off := 278) (tgt := 311) hx hb dL_law_33 (by decide) (by decide) rfl (by decide) (law_3 C0 hrel hk hk6 hw hl hnext)
      · exact lv_tableIn (off := 311) (tgt := 344) hx hb dL_law_33 (by decide) (by decide) rfl (by decide) (law_4 C0 hrel hk hk6 hw hl hnext)
      · exact lv_tableIn (off := 334) (tgt := 367) hx hb dL_law_33 (by decide) (by decide) rfl (by decide) (law_5 C0 hrel hk hk6 hw hl hnext)
      · exact lv_tableIn (off := 397) (tgt := 430) hx hb dL_law_33 (by decide) (by decide) rfl (by decide) (law_6 C0 hrel hk hk6 hw hl hnext)
      · exact lv_tableIn (off := 440) (tgt := 473) hx hb dL_law_33 (by decide) (by decide) rfl (by decide) (law_7 C0 hrel hk hk6 hw hl hnext)
      · exact lv_tableIn (off := 483) (tgt := 516) hx hb dL_law_33 (by decide) (by decide) rfl (by decide) (law_8 C0 hrel hk hk6 hw hl hnext)
      · exact lv_tableIn (off := 516) (tgt := 549) hx hb dL_law_33 (by decide) (by decide) rfl (by decide) (law_9 C0 hrel hk hk6 hw hl hnext)
      · exact lv_tableIn (off := 559) (tgt := 592) hx hb dL_law_33 (by decide) (by decide) rfl (by decide) (law_10 C0 hrel hk hk6 hw hl hnext)
      · exact lv_tableIn (off := 592) (tgt := 625) hx hb dL_law_33 (by decide) (by decide) rfl (by decide) (law_11 C0 hrel hk hk6 hw hl hnext)
      · exact lv_tableIn (off := 655) (tgt := 688) hx hb dL_law_33 (by decide) (by decide) rfl (by decide) (law_12 C0 hrel hk hk6 hw hl hnext)
      · exact lv_tableIn (off := 688) (tgt := 721) hx hb dL_law_33 (by decide) (by decide) rfl (by decide) (law_13 C0 hrel hk hk6 hw hl hnext)
      · exact lv_tableIn (off := 721) (tgt := 754) hx hb dL_law_33 (by decide) (by decide) rfl (by decide) (law_14 C0 hrel hk hk6 hw hl hnext)
      · exact lv_tableIn (off := 764) (tgt := 797) hx hb dL_law_33 (by decide) (by decide) rfl (by decide) (law_15 C0 hrel hk hk6 hw hl hnext)
      · exact lv_tableIn (off := 817) (tgt := 850) hx hb dL_law_33 (by decide) (by decide) rfl (by decide) (law_16 C0 hrel hk hk6 hw hl hnext)
      · exact lv_tableIn (off := 860) (tgt := 893) hx hb dL_law_33 (by decide) (by decide) rfl (by decide) (law_17 C0 hrel hk hk6 hw hl hnext)
      · exact lv_tableIn (off := 883) (tgt := 916) hx hb dL_law_33 (by decide) (by decide) rfl (by decide) (law_18 C0 hrel hk hk6 hw hl hnext)
      · exact lv_tableIn (off := 916) (tgt := 949) hx hb dL_law_33 (by decide) (by decide) rfl (by decide) (law_19 C0 hrel hk hk6 hw hl hnext)
      · exact lv_tableIn (off := 959) (tgt := 992) hx hb dL_law_33 (by decide) (by decide) rfl (by decide) (law_20 C0 hrel hk hk6 hw hl hnext)
      · exact lv_tableIn (off := 1002) (tgt := 1035) hx hb dL_law_33 (by decide) (by decide) rfl (by decide) (law_21 C0 hrel hk hk6 hw hl hnext)
      · exact lv_tableIn (off := 1045) (tgt := 1078) hx hb dL_law_33 (by decide) (by decide) rfl (by decide) (law_22 C0 hrel hk hk6 hw hl hnext)
      · exact lv_tableIn (off := 1078) (tgt := 1111) hx hb dL_law_33 (by decide) (by decide) rfl (by decide) (law_23 C0 hrel hk hk6 hw hl hnext)
      · exact lv_tableIn (off := 1121) (tgt := 1154) hx hb dL_law_33 (by decide) (by decide) rfl (by decide) (law_24 C0 hrel hk hk6 hw hl hnext)
      · exact lv_tableIn (off := 1134) (tgt := 1167) hx hb dL_law_33 (by decide) (by decide) rfl (by decide) (law_25 C0 hrel hk hk6 hw hl hnext)
      · exact lv_tableIn (off := 1157) (tgt := 1190) hx hb dL_law_33 (by decide) (by decide) rfl (by decide) (law_26 C0 hrel hk hk6 hw hl hnext)
      · exact lv_tableIn (off := 1191) (tgt := 1224) hx hb dL_law_33 (by decide) (by decide) rfl (by decide) (law_27 C0 hrel hk hk6 hw hl hnext)
      · exact lv_tableIn (off := 1224) (tgt := 1257) hx hb dL_law_33 (by decide) (by decide) rfl (by decide) (law_28 C0 hrel hk hk6 hw hl hnext)
      · exact lv_tableIn (off := 1267) (tgt := 1300) hx hb dL_law_33 (by decide) (by decide) rfl (by decide) (law_29 C0 hrel hk hk6 hw hl hnext)
      · exact lv_tableIn (off := 1290) (tgt := 1323) hx hb dL_law_33 (by decide) (by decide) rfl (by decide) (law_30 C0 hrel hk hk6 hw hl hnext)
      · exact lv_tableIn (off := 1324) (tgt := 1357) hx hb dL_law_33 (by decide) (by decide) rfl (by decide) (law_31 C0 hrel hk hk6 hw hl hnext)
