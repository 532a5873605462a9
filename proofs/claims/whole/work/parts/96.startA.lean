-- the first cells in the order of the worlds, and what holds of them
def zI : OS := (fun _ _ => 0, fun _ _ => 0)
def z0 : OS := wI (wI zI 0 11 1000) 0 12 (-1)
def z5 : OS := wI (wI zI 0 10 (-1)) 0 11 (-1)
def z6 : OS := wI zI 0 8 (-1)
def aC0 (u : US) (k : Nat) : Nat := ([u 0 99, u 1 99, u 2 99, u 3 99, u 4 99, u 5 99, u 6 99, u 7 99, u 8 99, u 9 99, u 10 99, u 0 0, u 0 1, u 0 2, u 0 3, u 0 4, u 0 5, u 0 6, u 0 7, u 0 8, u 1 0, u 1 1, u 1 2, u 1 3, u 1 4, u 2 0, u 2 1, u 2 3, u 2 4, u 2 5, u 2 6, u 2 7, u 2 8, u 3 0, u 3 1, u 3 2, u 4 0, u 4 1, u 4 2, u 4 3, u 4 4, u 4 5, u 4 6, u 4 7, u 4 8, u 5 0, u 5 1, u 5 2, u 5 3, u 5 4, u 5 5, u 5 6, u 6 0, u 6 1, u 6 2, u 7 0, u 7 1, u 7 2, u 7 3, u 8 0, u 9 0, u 9 1, u 9 2, u 9 3, u 9 4, u 9 5, u 10 0] : List Nat).getD k 0
def isC0 : List Nat := [57, 14, 20, 46, 4, 29, 37, 41, 2, 50, 0, 58, 59, 60, 61, 62, 63, 64, 65, 66, 15, 16, 17, 18, 19, 21, 22, 23, 24, 25, 26, 27, 28, 47, 48, 49, 5, 6, 7, 8, 9, 10, 11, 12, 13, 30, 31, 32, 33, 34, 35, 36, 38, 39, 40, 42, 43, 44, 45, 3, 51, 52, 53, 54, 55, 56, 1]
set_option maxRecDepth 100000 in
theorem fm_C0 (cy : Nat → ClassId) (u : US) : isC0.filterMap (fun i => (i10 cy u)[i]?) = cellsC (aC0 u) cy z0 zI zI zI zI z5 z6 zI zI zI zI := rfl
set_option maxRecDepth 100000 in
theorem mp_C0 (cy : Nat → ClassId) (u : US) : isC0.map (fun i => (i10 cy u)[i]?) = (cellsC (aC0 u) cy z0 zI zI zI zI z5 z6 zI zI zI zI).map some := rfl
theorem nd_C0 : va_nd isC0 = true := by decide
theorem rel_0 : Rel 0 z0 zI zI zI zI z5 z6 zI zI zI zI mInit := by
  have m0 : ∀ x, x ≠ 89 → mInit.1 0 x = 0 := fun x hx => by
    show (if (0 : Nat) = 78 then (if x < 256 then (1000000 : Int32) else 0) else (wI mZero 0 89 1000).1 0 x) = 0
    rw [if_neg (by decide), lw_n hx]; rfl
  have m89 : mInit.1 0 89 = 1000 := by
    show (if (0 : Nat) = 78 then (if (89 : Nat) < 256 then (1000000 : Int32) else 0) else (wI mZero 0 89 1000).1 0 89) = 1000
    rw [if_neg (by decide), lw_s]
  have mr : ∀ r, r ≠ 0 → r ≠ 78 → mInit.1 r = fun _ => 0 := fun r h1 h2 => by
    funext i
    show (if r = 78 then (if i < 256 then (1000000 : Int32) else 0) else (wI mZero 0 89 1000).1 r i) = 0
    rw [if_neg h2, lw_row h1]; rfl
  have m2 : ∀ r, mInit.2 r = fun _ => 0 := fun _ => rfl
  have mw : ∀ i, i < 256 → mInit.1 78 i = 1000000 := fun i h => by
    show (if (78 : Nat) = 78 then (if i < 256 then (1000000 : Int32) else 0) else (wI mZero 0 89 1000).1 78 i) = 1000000
    rw [if_pos rfl, if_pos h]
  have zr : ∀ r, zI.1 r = fun _ => 0 := fun _ => rfl
  have bz : ∀ n : Int, 0 ≤ n → bw 0 n 0 := fun n h => ⟨by decide, by show (0 : Int) ≤ n; exact h⟩
  refine ⟨0, ?_, ?_, ?_, ?_, ?_, ?_, ?_, ?_, ?_, ?_⟩
  · exact ⟨by rw [mr 20 (by decide) (by decide)]; rfl, by rw [m0 2 (by decide)]; rfl, bz _ (by decide), fun i => bz _ (by decide)⟩
  · exact ⟨by decide, rfl, by rw [m0 3 (by decide)]; rfl, by rw [mr 12 (by decide) (by decide)]; rfl, by rw [mr 13 (by decide) (by decide)]; rfl, by rw [mr 14 (by decide) (by decide)]; rfl, by rw [mr 15 (by decide) (by decide)]; rfl, by rw [mr 16 (by decide) (by decide)]; rfl, by rw [mr 17 (by decide) (by decide)]; rfl, by rw [mr 18 (by decide) (by decide)]; rfl, by rw [mr 19 (by decide) (by decide)]; rfl, fun p hp => absurd hp (Nat.not_lt_zero p), fun j _ => ⟨by rw [m2]; rfl, by rw [m2]; rfl, by rw [m2]; rfl, by rw [m2]; rfl⟩⟩
  · exact ⟨0, by decide, rfl, by rw [m0 24 (by decide)]; rfl, by rw [mr 26 (by decide) (by decide)]; rfl, by rw [mr 27 (by decide) (by decide)]; rfl, by rw [mr 28 (by decide) (by decide)]; rfl, by rw [mr 29 (by decide) (by decide)]; rfl, by rw [mr 30 (by decide) (by decide)]; rfl⟩
  · exact ⟨0, 0, by decide, by decide, rfl, by rw [m0 4 (by decide)]; rfl, rfl, by rw [m0 5 (by decide)]; rfl, by rw [mr 31 (by decide) (by decide)]; rfl, by rw [mr 32 (by decide) (by decide)]; rfl, by rw [mr 59 (by decide) (by decide)]; rfl, by rw [mr 60 (by decide) (by decide)]; rfl, by rw [mr 61 (by decide) (by decide)]; rfl, by rw [mr 62 (by decide) (by decide)]; rfl, by rw [mr 63 (by decide) (by decide)]; rfl, by rw [mr 64 (by decide) (by decide)]; rfl, fun i hi => absurd hi (Nat.not_lt_zero i), fun q _ => by rw [m2]; rfl⟩
  · exact ⟨0, by decide, rfl, by rw [m0 7 (by decide)]; rfl, by rw [mr 65 (by decide) (by decide)]; rfl, by rw [mr 66 (by decide) (by decide)]; rfl, fun i => by rw [mr 67 (by decide) (by decide), mr 68 (by decide) (by decide)]; exact ⟨show (0 : Int32) = 0 - 0 by decide, show (0 : Int32) = 0 + 0 by decide⟩⟩
  · exact ⟨0, by decide, rfl, by rw [m0 1 (by decide)]; rfl, fun i _ => ⟨bz _ (by decide), by rw [mr 1 (by decide) (by decide)]; exact show (0 : Int32) &&& 255 = 0 by decide⟩⟩
  · refine ⟨0, 0, by decide, by decide, rfl, by rw [m0 8 (by decide)]; rfl, rfl, by rw [m0 9 (by decide)]; rfl, by rw [mr 80 (by decide) (by decide)]; rfl, fun i hi => Or.inl ⟨rfl, mw i hi⟩, fun i j _ _ => rfl, fun i hi => absurd hi (Nat.not_lt_zero i), fun i hi => absurd hi (Nat.not_lt_zero i), fun x y z => ⟨fun ⟨i, hi, _⟩ => absurd hi (Nat.not_lt_zero i), fun h => ?_⟩⟩
    rcases h with ⟨i, hi, _⟩ | ⟨i, hi, _⟩
    · exact absurd hi (Nat.not_lt_zero i)
    · exact absurd hi (Nat.not_lt_zero i)
  · exact ⟨0, by decide, rfl, by rw [m0 10 (by decide)]; rfl, by rw [m89]; rfl, by rw [m89]; exact ⟨by decide, by decide⟩, by rw [mr 85 (by decide) (by decide)]; rfl, by rw [mr 86 (by decide) (by decide)]; rfl, by rw [mr 87 (by decide) (by decide)]; rfl, fun i hi => absurd hi (Nat.not_lt_zero i)⟩
  · exact ⟨0, by decide, rfl, by rw [m0 68 (by decide)]; rfl, 0, fun _ => 0, fun _ => 0, fun _ _ => false, fun _ _ => false, fun _ _ => false, by rw [m0 69 (by decide)]; rfl, by decide, fun j hj => absurd hj (Nat.not_lt_zero j), fun i j _ hj => absurd hj (Nat.not_lt_zero j), fun i j hi => absurd hi (Nat.not_lt_zero i), fun i hi => absurd hi (Nat.not_lt_zero i)⟩
  · exact ⟨0, by decide, rfl, by rw [m0 6 (by decide)]; rfl, by rw [mr 34 (by decide) (by decide)]; rfl, by rw [mr 35 (by decide) (by decide)]; rfl, by rw [mr 36 (by decide) (by decide)]; rfl, fun i hi => absurd hi (Nat.not_lt_zero i), fun i hi => absurd hi (Nat.not_lt_zero i)⟩
