-- steps: what changes a piece, and the diary
def fupd (f : Nat → Int32) (p : Nat) (v : Int32) : Nat → Int32 := fun i => if i = p then v else f i
theorem fupd_s (f : Nat → Int32) (p : Nat) (v : Int32) : fupd f p v p = v := if_pos rfl
theorem fupd_n {f : Nat → Int32} {p i : Nat} {v : Int32} (h : i ≠ p) : fupd f p v i = f i := if_neg h
theorem fupd_id (f : Nat → Int32) (p : Nat) : fupd f p (f p) = f := by
  funext i
  by_cases h : i = p
  · subst h; exact fupd_s _ _ _
  · exact fupd_n h
theorem fupd_2 (f : Nat → Int32) (p : Nat) (v w : Int32) : fupd (fupd f p v) p w = fupd f p w := by
  funext i
  by_cases h : i = p
  · subst h; rw [fupd_s, fupd_s]
  · rw [fupd_n h, fupd_n h, fupd_n h]
theorem bw_nat {lo hi : Nat} {x : Int32} (h : bw lo hi x) (hh : hi < 2 ^ 30) : ∃ a : Nat, lo ≤ a ∧ a ≤ hi ∧ x = nI a := by
  obtain ⟨h3, h4⟩ := h
  obtain ⟨a, h1, h2⟩ := vp_in_of (x := x) (n := hi + 1) (vp_in_iff.mpr ⟨by omega, by omega⟩) (by omega)
  subst h2
  rw [nI_toInt (by omega)] at h3
  exact ⟨a, by omega, by omega, rfl⟩
theorem bw_or {x y : Int32} (hx : bw 0 65535 x) (hy : bw 0 65535 y) : bw 0 65535 (x ||| y) := by
  obtain ⟨a, -, h1, rfl⟩ := bw_nat (lo := 0) (hi := 65535) hx (by omega)
  obtain ⟨b, -, h2, rfl⟩ := bw_nat (lo := 0) (hi := 65535) hy (by omega)
  have h3 : a ||| b < 2 ^ 16 := Nat.or_lt_two_pow (by omega) (by omega)
  rw [fa_or]
  unfold bw
  rw [nI_toInt (by omega)]
  omega
theorem or_0 (x : Int32) : x ||| 0 = x := by simp
def pW (s : OS) (p : Nat) (w q pl : Int32) : OS := wI (wI (wI s 3 p w) 4 p (s.1 4 p ||| q)) 5 p pl
def dW (s : OS) (d : Nat) (a b c e f : Int32) : OS := wI (wI (wI (wI (wI (wI s 1 d a) 2 d b) 3 d c) 4 d e) 5 d f) 0 5 (nI (d + 1))
def nW (m : OS) (d p : Nat) : OS := wI (wI (wI (wI (wI (wI m 26 d (nI p)) 27 d (m.1 0 2)) 28 d (m.1 14 p)) 29 d (m.1 15 p)) 30 d (m.1 16 p)) 0 24 (nI (d + 1))
theorem c_write {s1 : OS} {d : Nat} (hd : d < 662) (h : s1.1 0 5 = nI d) (a b c e f : Int32) : f1_write a b c e f s1 = some (dW s1 d a b c e f) := by
  unfold f1_write f1_write_j17
  rw [if_neg (by rw [h]; exact nI_pos (by omega)), if_pos (by rw [h]; exact nI_lt (a := d) (b := 662) hd (by omega))]
  simp only [h, nm_d]
  have g1 : ∀ x, (wI s1 1 d x).1 0 5 = nI d := fun _ => h
  have g2 : ∀ x y, (wI (wI s1 1 d x) 2 d y).1 0 5 = nI d := fun _ _ => h
  have g3 : ∀ x y z, (wI (wI (wI s1 1 d x) 2 d y) 3 d z).1 0 5 = nI d := fun _ _ _ => h
  have g4 : ∀ x y z u, (wI (wI (wI (wI s1 1 d x) 2 d y) 3 d z) 4 d u).1 0 5 = nI d := fun _ _ _ _ => h
  have g5 : ∀ x y z u v, (wI (wI (wI (wI (wI s1 1 d x) 2 d y) 3 d z) 4 d u) 5 d v).1 0 5 = nI d := fun _ _ _ _ _ => h
  simp only [g1, g2, g3, g4, g5, inb_n hd (by omega : 662 < 2 ^ 31), chk_t, nI_clamp (show d < 2 ^ 31 by omega)]
  rw [nI_1]
  rfl
theorem c_hasP {s4 : OS} {n p : Nat} (hn : n ≤ 150) (h : s4.1 0 10 = nI n) (hp : p < n) : f4_has (nI p) s4 = some 1 := by
  rw [c_has hn h, b1_t (by rw [nI_toInt (by omega)]; omega)]
theorem c_weightOfP {s4 : OS} {n p : Nat} (hn : n ≤ 150) (h : s4.1 0 10 = nI n) (hp : p < n) : f4_weightOf (nI p) s4 = some (s4.1 3 p) := by
  unfold f4_weightOf f4_weightOf_j18
  rw [c_hasP hn h hp, Option.bind_some, if_neg (by decide), inb_n (by omega : p < 150) (by omega), chk_t, nm_d, nI_clamp (by omega)]
theorem c_placeOfP {s4 : OS} {n p : Nat} (hn : n ≤ 150) (h : s4.1 0 10 = nI n) (hp : p < n) : f4_placeOf (nI p) s4 = some (s4.1 5 p) := by
  unfold f4_placeOf f4_placeOf_j18
  rw [c_hasP hn h hp, Option.bind_some, if_neg (by decide), inb_n (by omega : p < 150) (by omega), chk_t, nm_d, nI_clamp (by omega)]
theorem c_kindOfP {s4 : OS} {n p : Nat} (hn : n ≤ 150) (h : s4.1 0 10 = nI n) (hp : p < n) : f4_kindOf (nI p) s4 = some (s4.1 1 p) := by
  unfold f4_kindOf f4_kindOf_j18
  rw [c_hasP hn h hp, Option.bind_some, if_neg (by decide), inb_n (by omega : p < 150) (by omega), chk_t, nm_d, nI_clamp (by omega)]
theorem c_metOfP {s4 : OS} {n p : Nat} (hn : n ≤ 150) (h : s4.1 0 10 = nI n) (hp : p < n) : f4_metOf (nI p) s4 = some (s4.1 4 p) := by
  unfold f4_metOf f4_metOf_j18
  rw [c_hasP hn h hp, Option.bind_some, if_neg (by decide), inb_n (by omega : p < 150) (by omega), chk_t, nm_d, nI_clamp (by omega)]
theorem c_change {s1 s4 : OS} {n p d : Nat} (hn : n ≤ 150) (h : s4.1 0 10 = nI n) (hp : p < n) (hd : d < 662) (h1 : s1.1 0 5 = nI d) (w q pl day : Int32) : f4_change (nI p) w q pl day s1 s4 = some (dW s1 d (nI p) day w (s4.1 4 p ||| q) pl, pW s4 p w q pl) := by
  unfold f4_change
  rw [c_hasP hn h hp, Option.bind_some, if_neg (by decide), inb_n (by omega : p < 150) (by omega)]
  simp only [chk_t, nm_d, nI_clamp (show p < 2 ^ 31 by omega)]
  have e1 : (wI s4 3 p w).1 4 p = s4.1 4 p := rfl
  have e2 : (wI (wI (wI s4 3 p w) 4 p (s4.1 4 p ||| q)) 5 p pl).1 4 p = (s4.1 4 p ||| q) := if_pos rfl
  rw [e1, e2, c_write hd h1, Option.bind_some]
  rfl
theorem r_notes {m : OS} {d p : Nat} (hd : d < 4800) (h : m.1 0 24 = nI d) (hp : p < 150) : f11_notes (nI p) m = some (nW m d p) := by
  unfold f11_notes
  simp only [h, nm_d]
  have g1 : ∀ x, (wI m 26 d x).1 0 24 = nI d := fun _ => h
  have g2 : ∀ x y, (wI (wI m 26 d x) 27 d y).1 0 24 = nI d := fun _ _ => h
  have g3 : ∀ x y z, (wI (wI (wI m 26 d x) 27 d y) 28 d z).1 0 24 = nI d := fun _ _ _ => h
  have g4 : ∀ x y z u, (wI (wI (wI (wI m 26 d x) 27 d y) 28 d z) 29 d u).1 0 24 = nI d := fun _ _ _ _ => h
  have g5 : ∀ x y z u v, (wI (wI (wI (wI (wI m 26 d x) 27 d y) 28 d z) 29 d u) 30 d v).1 0 24 = nI d := fun _ _ _ _ _ => h
  simp only [g1, g2, g3, g4, g5, inb_n hd (by omega : 4800 < 2 ^ 31), inb_n hp (by omega : 150 < 2 ^ 31), chk_t, nI_clamp (show d < 2 ^ 31 by omega), nI_clamp (show p < 2 ^ 31 by omega)]
  rw [nI_1]
  rfl
theorem RelD.add {k n : Nat} {s1 : OS} {cM : Int32} {a26 a27 a28 a29 a30 : Nat → Int32} (h : RelD k n s1 cM a26 a27 a28 a29 a30) (hk : k < 512) (hn : n ≤ 150) : ∃ d, d < 662 ∧ s1.1 0 5 = nI d ∧ cM = nI d ∧ ∀ x1 x2 x3 x4 x5 y1 y2 y3 y4 y5 : Int32, x1 = y1 → x2 = y2 → x3 = y3 → x4 = y4 → x5 = y5 → RelD (k + 1) n (dW s1 d x1 x2 x3 x4 x5) (nI (d + 1)) (fupd a26 d y1) (fupd a27 d y2) (fupd a28 d y3) (fupd a29 d y4) (fupd a30 d y5) := by
  obtain ⟨d, h1, h2, h3, h4, h5, h6, h7, h8⟩ := h
  subst h4; subst h5; subst h6; subst h7; subst h8
  refine ⟨d, by omega, h2, h3, ?_⟩
  rintro x1 x2 x3 x4 x5 y1 y2 y3 y4 y5 rfl rfl rfl rfl rfl
  exact ⟨d + 1, by omega, rfl, rfl, rfl, rfl, rfl, rfl, rfl⟩
theorem RelP.upd {n : Nat} {s4 : OS} {nM : Int32} {a12 a13 a14 a15 a16 a17 a18 a19 : Nat → Int32} {b21 b22 b23 b24 : Nat → Int64} (h : RelP n s4 nM a12 a13 a14 a15 a16 a17 a18 a19 b21 b22 b23 b24) {p : Nat} (hp : p < n) {w q pl : Int32} (hw : bw 0 1000000000 w) (hq : bw 0 65535 q) (hpl : bw 0 12 pl) {a14' a15' a16' : Nat → Int32} (e14 : a14' = fupd a14 p w) (e15 : a15' = fupd a15 p (a15 p ||| q)) (e16 : a16' = fupd a16 p pl) : RelP n (pW s4 p w q pl) nM a12 a13 a14' a15' a16' a17 a18 a19 b21 b22 b23 b24 := by
  obtain ⟨p1, p2, p3, p4, p5, p6, p7, p8, p9, p10, p11, p12, p13⟩ := h
  subst e14; subst e15; subst e16
  refine ⟨p1, p2, p3, p4, p5, ?_, ?_, ?_, p9, p10, p11, fun i hi => ?_, p13⟩
  · rw [← p6]; rfl
  · rw [← p7]; rfl
  · rw [← p8]; rfl
  · obtain ⟨g1, g2, g3, g4, g5⟩ := p12 i hi
    by_cases e : i = p
    · subst e
      rw [fupd_s, fupd_s, fupd_s]
      exact ⟨g1, hw, bw_or g3 hq, hpl, g5⟩
    · rw [fupd_n e, fupd_n e, fupd_n e]
      exact ⟨g1, g2, g3, g4, g5⟩
theorem c_lies {a : Int32} {s4 : OS} {n : Nat} (hn : n ≤ 150) (h : s4.1 0 10 = nI n) : f4_lies a s4 = some (b1 ((0 ≤ a.toInt ∧ a.toInt < n) ∧ (s4.1 5 a.toNatClampNeg).toInt < 10)) := by
  unfold f4_lies f4_lies_j23 f4_lies_j24
  rw [c_has hn h, Option.bind_some, if_b1]
  have e10 : (10 : Int32).toInt = 10 := rfl
  by_cases h1 : 0 ≤ a.toInt ∧ a.toInt < n
  · rw [if_pos h1, inb_i (N := 150) (by omega), chk_t, nm_d]
    by_cases h2 : (10 : Int32) ≤ s4.1 5 a.toNatClampNeg
    · rw [if_pos h2, b1_f (fun e => by rw [Int32.le_iff_toInt_le, e10] at h2; omega)]; rfl
    · rw [if_neg h2, b1_t ⟨h1, by rw [Int32.le_iff_toInt_le, e10] at h2; omega⟩]; rfl
  · rw [if_neg h1, b1_f (fun e => h1 e.1)]; rfl
theorem c_isSealed {a : Int32} {s4 : OS} {n : Nat} (hn : n ≤ 150) (h : s4.1 0 10 = nI n) : f4_isSealed a s4 = some (b1 ((0 ≤ a.toInt ∧ a.toInt < n) ∧ ¬ s4.1 8 a.toNatClampNeg = 0)) := by
  unfold f4_isSealed f4_isSealed_j21 f4_isSealed_j22
  rw [c_has hn h, Option.bind_some, if_b1]
  by_cases h1 : 0 ≤ a.toInt ∧ a.toInt < n
  · rw [if_pos h1, inb_i (N := 150) (by omega), chk_t, nm_d]
    by_cases h2 : s4.1 8 a.toNatClampNeg = 0
    · rw [if_pos h2, b1_f (fun e => e.2 h2)]; rfl
    · rw [if_neg h2, b1_t ⟨h1, h2⟩]; rfl
  · rw [if_neg h1, b1_f (fun e => h1 e.1)]; rfl
theorem c_isAtHand {a : Int32} {s4 : OS} {n : Nat} (hn : n ≤ 150) (h : s4.1 0 10 = nI n) : f4_isAtHand a s4 = some (b1 (((0 ≤ a.toInt ∧ a.toInt < n) ∧ (s4.1 5 a.toNatClampNeg).toInt < 10) ∧ s4.1 8 a.toNatClampNeg = 0)) := by
  unfold f4_isAtHand f4_isAtHand_j20 f4_isAtHand_j21
  rw [c_lies hn h, Option.bind_some, if_b1, c_isSealed hn h, Option.bind_some, if_b1]
  by_cases h1 : (0 ≤ a.toInt ∧ a.toInt < n) ∧ (s4.1 5 a.toNatClampNeg).toInt < 10
  · rw [if_pos h1]
    by_cases h2 : s4.1 8 a.toNatClampNeg = 0
    · rw [if_neg (fun e => e.2 h2), b1_t ⟨h1, h2⟩]; rfl
    · rw [if_pos ⟨h1.1, h2⟩, b1_f (fun e => h2 e.2)]; rfl
  · rw [if_neg h1, b1_f (fun e => h1 e.1)]; rfl
theorem r_isThere {a : Int32} {m : OS} {n : Nat} (hn : n ≤ 150) (h : m.1 0 3 = nI n) : f11_isThere a m = some (b1 ((0 ≤ a.toInt ∧ a.toInt < n) ∧ (m.1 16 a.toNatClampNeg).toInt < 10)) := by
  unfold f11_isThere f11_isThere_j23 f11_isThere_j24
  rw [r_isPiece hn h, Option.bind_some, if_b1]
  have e10 : (10 : Int32).toInt = 10 := rfl
  by_cases h1 : 0 ≤ a.toInt ∧ a.toInt < n
  · rw [if_pos h1, inb_i (N := 150) (by omega), chk_t, nm_d]
    by_cases h2 : (10 : Int32) ≤ m.1 16 a.toNatClampNeg
    · rw [if_pos h2, b1_f (fun e => by rw [Int32.le_iff_toInt_le, e10] at h2; omega)]; rfl
    · rw [if_neg h2, b1_t ⟨h1, by rw [Int32.le_iff_toInt_le, e10] at h2; omega⟩]; rfl
  · rw [if_neg h1, b1_f (fun e => h1 e.1)]; rfl
theorem r_isOpen {a : Int32} {m : OS} {n : Nat} (hn : n ≤ 150) (h : m.1 0 3 = nI n) : f11_isOpen a m = some (b1 (((0 ≤ a.toInt ∧ a.toInt < n) ∧ (m.1 16 a.toNatClampNeg).toInt < 10) ∧ m.1 19 a.toNatClampNeg = 0)) := by
  unfold f11_isOpen f11_isOpen_j21 f11_isOpen_j22
  rw [r_isThere hn h, Option.bind_some, if_b1]
  by_cases h1 : (0 ≤ a.toInt ∧ a.toInt < n) ∧ (m.1 16 a.toNatClampNeg).toInt < 10
  · rw [if_pos h1, inb_i (N := 150) (by omega), chk_t, nm_d]
    by_cases h2 : m.1 19 a.toNatClampNeg = 0
    · rw [if_pos h2, b1_t ⟨h1, h2⟩]; rfl
    · rw [if_neg h2, b1_f (fun e => h2 e.2)]; rfl
  · rw [if_neg h1, b1_f (fun e => h1 e.1)]; rfl
theorem st_move {k : Nat} {s0 s1 s2 s3 s4 s5 s6 s7 s8 s9 s10 s11 : OS} (h : Rel k s0 s1 s2 s3 s4 s5 s6 s7 s8 s9 s10 s11) (hk : k < 512) (a1 : Int32) (a2 : Int32) : ∃ (rc : Int32 × OS × OS) (rr : Int32 × OS), f10_move a1 a2 s1 s4 s10 = some rc ∧ f11_move a1 a2 s11 = some rr ∧ rc.1 = rr.1 ∧ Rel (k + 1) s0 rc.2.1 s2 s3 rc.2.2 s5 s6 s7 s8 s9 s10 rr.2 := by
  obtain ⟨n, ⟨hg, ht, htr, hgr⟩, hP, hD, hL⟩ := id h
  obtain ⟨p1, p2, p3, p4, p5, p6, p7, p8, p9, p10, p11, p12, p13⟩ := id hP
  obtain ⟨d, d1, d2, d3, d4⟩ := hD.add hk p1
  unfold f10_move f10_move_j18 f11_move f11_move_j15
  rw [c_isCabinet, Option.bind_some, if_b1, c_lies p1 p2, Option.bind_some, if_b1, c_isSealed p1 p2, Option.bind_some, if_b1, r_isThere p1 p3, Option.bind_some, if_b1, r_isCabinet, Option.bind_some, if_b1, p8]
  by_cases h2 : (0 ≤ a1.toInt ∧ a1.toInt < n) ∧ (s11.1 16 a1.toNatClampNeg).toInt < 10
  · rw [if_pos h2, if_pos h2]
    by_cases h1 : 0 ≤ a2.toInt ∧ a2.toInt ≤ 9
    · rw [if_pos h1, if_pos h1]
      obtain ⟨p, hp, rfl⟩ := nI_of_in h2.1 (by omega)
      obtain ⟨c, hc, rfl⟩ := nI_of_in (x := a2) (n := 10) (by omega) (by omega)
      have hcl := nI_clamp (n := p) (by omega)
      have hcc := nI_clamp (n := c) (by omega)
      have hcR : bw 0 12 (nI c) := by unfold bw; omega
      obtain ⟨g1, g2, g3, g4, g5⟩ := p12 p hp
      simp only [hcl, hcc, inb_n hc (by omega : 10 < 2 ^ 31), inb_n (show p < 150 by omega) (by omega : 150 < 2 ^ 31), chk_t, nm_d]
      unfold f10_move_j41 f11_move_j48
      have em : (wI s11 16 p (nI c)).1 19 p = s11.1 19 p := rfl
      have em2 : (wI s11 16 p (nI c)).1 15 p = s11.1 15 p := rfl
      have em3 : (wI s11 16 p (nI c)).1 20 c = s11.1 20 c := rfl
      simp only [em, em2, em3, c_weightOfP p1 p2 hp, Option.bind_some, p11]
      by_cases h3 : s11.1 19 p = 0
      · rw [if_neg (fun e => e.2 h3), if_pos h3]
        rw [c_change p1 p2 hp d1 d2, r_notes (m := wI (wI s11 16 p (nI c)) 15 p (s11.1 15 p ||| s11.1 20 c)) (d := d) (by omega) d3 (by omega)]
        refine ⟨_, _, rfl, rfl, rfl, n, ⟨hg, ht, htr, hgr⟩, hP.upd hp (by rw [p6]; exact g2) (hgr c) hcR ?_ ?_ rfl, d4 _ _ _ _ _ _ _ _ _ _ rfl ht (by rw [p6]; rfl) (by rw [p7, hg]; exact (wI_at (s := wI s11 16 p (nI c)) (r := 15) (i := p)).symm) ((wI_at (s := s11) (r := 16) (i := p)).symm), hL⟩
        · show s11.1 14 = _
          rw [p6, fupd_id]
        · rw [hg]; rfl
      · rw [if_pos ⟨h2.1, h3⟩, if_neg h3]
        rw [c_change p1 p2 hp d1 d2, r_notes (m := wI s11 16 p (nI c)) (d := d) (by omega) d3 (by omega)]
        refine ⟨_, _, rfl, rfl, rfl, n, ⟨hg, ht, htr, hgr⟩, hP.upd hp (by rw [p6]; exact g2) (q := 0) ⟨by decide, by decide⟩ hcR ?_ ?_ rfl, d4 _ _ _ _ _ _ _ _ _ _ rfl ht (by rw [p6]; rfl) (by rw [p7, or_0]; rfl) ((wI_at (s := s11) (r := 16) (i := p)).symm), hL⟩
        · show s11.1 14 = _
          rw [p6, fupd_id]
        · show s11.1 15 = _
          rw [or_0, fupd_id]
    · rw [if_neg h1, if_neg h1]
      exact ⟨_, _, rfl, rfl, rfl, h.same⟩
  · rw [if_neg h2, if_neg h2]
    simp only [ite_self]
    exact ⟨_, _, rfl, rfl, rfl, h.same⟩
