-- what the tables say of classes and arrays; what the calls take at the start
theorem arr_of {args : Array Value} {s : State} {ty : FieldType} (h : (Cond.arrayClass ty).before args s = true) (ho : ∀ (C : String), ty ≠ .object C) : ∃ c : ClassId, ArrOfT s c ty ∧ va_RA s c ty := by
  obtain ⟨c, k, comp, h1, h2, h3⟩ := Cond.arrayClass_spec h
  refine ⟨c, fun N z => ⟨(fun k h => by cases h), k, h2, comp, h3⟩, ?_⟩
  cases ty with
  | object C => exact absurd rfl (ho C)
  | _ => exact h1
theorem hK_of {args : Array Value} {s : State} (hts : ∀ w ∈ lw_g, w.before args s = true) : ∃ (D : va_G) (cy : Nat → ClassId), va_K D vwCl (tysA cy) s := by
  obtain ⟨c0, i0, h0⟩ := u_known (C := RX0) (T := TX0) (N := 14) hts inX0 (hts _ (wd_2 (w := .instantiable RX0 14) (i := 66) (by decide +kernel) rfl))
  obtain ⟨c1, i1, h1⟩ := u_known (C := RX1) (T := TX1) (N := 6) hts inX1 (hts _ (wd_1 (w := .instantiable RX1 6) (i := 50) (by decide +kernel) rfl))
  obtain ⟨c2, i2, h2⟩ := u_known (C := RX2) (T := TX2) (N := 10) hts inX2 (hts _ (wd_1 (w := .instantiable RX2 10) (i := 111) (by decide +kernel) rfl))
  obtain ⟨c3, i3, h3⟩ := u_known (C := RX3) (T := TX3) (N := 4) hts inX3 (hts _ (wd_2 (w := .instantiable RX3 4) (i := 16) (by decide +kernel) rfl))
  obtain ⟨c4, i4, h4⟩ := u_known (C := RX4) (T := TX4) (N := 11) hts inX4 (hts _ (wd_1 (w := .instantiable RX4 11) (i := 44) (by decide +kernel) rfl))
  obtain ⟨c5, i5, h5⟩ := u_known (C := RX5) (T := TX5) (N := 12) hts inX5 (hts _ (wd_1 (w := .instantiable RX5 12) (i := 148) (by decide +kernel) rfl))
  obtain ⟨c6, i6, h6⟩ := u_known (C := RX6) (T := TX6) (N := 12) hts inX6 (hts _ (wd_1 (w := .instantiable RX6 12) (i := 154) (by decide +kernel) rfl))
  obtain ⟨c7, i7, h7⟩ := u_known (C := RX7) (T := TX7) (N := 5) hts inX7 (hts _ (wd_1 (w := .instantiable RX7 5) (i := 234) (by decide +kernel) rfl))
  obtain ⟨c8, i8, h8⟩ := u_known (C := RX8) (T := TX8) (N := 2) hts inX8 (hts _ (wd_1 (w := .instantiable RX8 2) (i := 29) (by decide +kernel) rfl))
  obtain ⟨c9, i9, h9⟩ := u_known (C := RX9) (T := TX9) (N := 8) hts inX9 (hts _ (wd_2 (w := .instantiable RX9 8) (i := 35) (by decide +kernel) rfl))
  obtain ⟨c10, i10, h10⟩ := u_known (C := RX10) (T := TX10) (N := 10) hts inX10 (hts _ (wd_1 (w := .instantiable RX10 10) (i := 21) (by decide +kernel) rfl))
  obtain ⟨c11, i11, h11⟩ := u_known (C := RX11) (T := TX11) (N := 95) hts inX11 (hts _ (wd_6 (w := .instantiable RX11 95) (i := 21) (by decide +kernel) rfl))
  obtain ⟨y0, g0⟩ := arr_of (hts _ (wd_1 (w := .arrayClass .int) (i := 41) (by decide +kernel) rfl)) (fun C e => by cases e)
  obtain ⟨y1, g1⟩ := arr_of (hts _ (wd_1 (w := .arrayClass .long) (i := 75) (by decide +kernel) rfl)) (fun C e => by cases e)
  obtain ⟨y2, g2⟩ := arr_of (hts _ (wd_1 (w := .arrayClass .boolean) (i := 74) (by decide +kernel) rfl)) (fun C e => by cases e)
  obtain ⟨y3, g3⟩ := arr_of (hts _ (wd_1 (w := .arrayClass .char) (i := 42) (by decide +kernel) rfl)) (fun C e => by cases e)
  obtain ⟨y4, g4⟩ := arr_of (hts _ (wd_4 (w := .arrayClass .byte) (i := 17) (by decide +kernel) rfl)) (fun C e => by cases e)
  refine ⟨(fun c => match c with | 0 => c0 | 1 => c1 | 2 => c2 | 3 => c3 | 4 => c4 | 5 => c5 | 6 => c6 | 7 => c7 | 8 => c8 | 9 => c9 | 10 => c10 | _ => c11, fun c => match c with | 0 => i0 | 1 => i1 | 2 => i2 | 3 => i3 | 4 => i4 | 5 => i5 | 6 => i6 | 7 => i7 | 8 => i8 | 9 => i9 | 10 => i10 | _ => i11), fun k => match k with | 0 => y0 | 1 => y1 | 2 => y2 | 3 => y3 | _ => y4, fun c q hq => ?_, fun k q hq => ?_⟩
  · have hc : c < 12 := (List.getElem?_eq_some_iff.mp hq).1
    have hc : c = 0 ∨ c = 1 ∨ c = 2 ∨ c = 3 ∨ c = 4 ∨ c = 5 ∨ c = 6 ∨ c = 7 ∨ c = 8 ∨ c = 9 ∨ c = 10 ∨ c = 11 := by omega
    rcases hc with rfl | rfl | rfl | rfl | rfl | rfl | rfl | rfl | rfl | rfl | rfl | rfl
    · cases hq; exact h0
    · cases hq; exact h1
    · cases hq; exact h2
    · cases hq; exact h3
    · cases hq; exact h4
    · cases hq; exact h5
    · cases hq; exact h6
    · cases hq; exact h7
    · cases hq; exact h8
    · cases hq; exact h9
    · cases hq; exact h10
    · cases hq; exact h11
  · have hc : k < 5 := (List.getElem?_eq_some_iff.mp hq).1
    have hc : k = 0 ∨ k = 1 ∨ k = 2 ∨ k = 3 ∨ k = 4 := by omega
    rcases hc with rfl | rfl | rfl | rfl | rfl
    · cases hq; exact g0
    · cases hq; exact g1
    · cases hq; exact g2
    · cases hq; exact g3
    · cases hq; exact g4
set_option maxHeartbeats 4000000 in
set_option maxRecDepth 100000 in
theorem NL_of {b : Nat} {s : State} (htb : ∀ w ∈ lw_tbl, w.before #[Value.ref b] s = true) (hg : (Jvm.Cond.and given_1 narrow_1).before #[Value.ref b] s = true) : NL s := by
  have hs := flat_of_before _ hg
  have hA : ∀ a : Nat, a < s.heap.size → ¬ s.heap.size ≤ a := fun a h => Nat.not_le.mpr h
  obtain ⟨adK, adV, h1, h2⟩ := vk_Sof (args := #[Value.ref b]) (s := s) (N := 1) (tm := fun _ => .string "StoneVault$RuleReader" 52) (len := [9]) (byt := [[102, 104, 107, 119, 109, 108, 97, 115, 100]]) (A := fun q => s.heap.size ≤ q)
    (fun i hi => by have : i = 0 := by omega
                    subst this; decide)
    (fun i hi => hs _ (by decide +kernel))
    (fun i hi => hs _ (by decide +kernel))
    (fun i hi => hs _ (by decide +kernel))
    (fun i hi => by have : i = 0 := by omega
                    subst this; exact hs _ (by decide +kernel))
    (fun i hi j hj => by
      have : i = 0 := by omega
      subst this
      have hj : j < 9 := hj
      have hj : j = 0 ∨ j = 1 ∨ j = 2 ∨ j = 3 ∨ j = 4 ∨ j = 5 ∨ j = 6 ∨ j = 7 ∨ j = 8 := by omega
      rcases hj with rfl | rfl | rfl | rfl | rfl | rfl | rfl | rfl | rfl <;> exact hs _ (by decide +kernel))
    (fun i j hi hj hij => absurd (by omega) hij) hA
  have e1 : (fun _ : Nat => adK 0) = fun i => adK 0 := rfl
  refine ⟨va_Nw.of (by decide) (htb _ (by decide +kernel)), va_Nw.of (by decide) (htb _ (by decide +kernel)), va_Nw.of (by decide) (htb _ (by decide +kernel)), ⟨adK 0, adV 0, vk_R.of (htb _ (by decide +kernel)) (h2 0 (by decide)), ⟨fun i hi => ?_, fun i j hi hj _ => by omega⟩⟩, ?_⟩
  · have : i = 0 := by omega
    subst this
    exact h1.1 0 (by decide)
  · exact va_Zof (htb _ (by decide +kernel)) (htb _ (by decide +kernel)) (va_eqi (hs _ (by decide +kernel))) hA
