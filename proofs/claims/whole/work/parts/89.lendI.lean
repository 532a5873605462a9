-- lend: the loan itself
theorem l_end {k : Nat} {s0 s1 s2 s3 s4 s5 s6 s7 s8 s9 s10 s11 : OS} (h : Rel k s0 s1 s2 s3 s4 s5 s6 s7 s8 s9 s10 s11) (hk : k < 512) {p q : Nat} (hp' : ∀ n, n ≤ 150 → s4.1 0 10 = nI n → p < n) (hq' : ∀ a, a ≤ 20 → s2.1 0 2 = nI a → q < a) (hc' : ¬ s2.1 0 9 = 100) {dd : Int32} (hd : bw 0 999999 dd) :
    ∃ (rc : Int32 × OS × OS × OS × OS × OS) (rr : Int32 × OS), (nm ((if ((s10.1 0 9) + dd) < (99999 : Int32) then ((s10.1 0 9) + dd) else (99999 : Int32))) fun n_99 => Option.bind (f4_weightOf (nI p) s4) fun q_110 => Option.bind (f4_change (nI p) q_110 ((0 : Int32)) ((10 : Int32)) ((s10.1 0 9)) s1 s4) fun q_120 => Option.bind (f2_begin (nI p) (nI q) ((s10.1 0 9)) n_99 s2) fun q_134 => some (q_134.1, q_120.1, q_134.2, q_120.2, s5, s6)) = some rc ∧
      f11_lend_j155 (nI p) (nI q) (s11.1 0 2) dd s11 = some rr ∧ rc.1 = rr.1 ∧ Rel (k + 1) s0 rc.2.1 rc.2.2.1 s3 rc.2.2.2.1 rc.2.2.2.2.1 rc.2.2.2.2.2 s7 s8 s9 s10 rr.2 := by
  obtain ⟨n, ⟨hg, ht, htr, hgr⟩, hP, hD, ⟨a, c, q1, q2, q3, q4, q5, q6, q7, q8, q9, q10, q11, q12, q13, q14, q15, q16⟩, hS⟩ := id h
  obtain ⟨p1, p2, p3, p4, p5, p6, p7, p8, p9, p10, p11, p12, p13⟩ := id hP
  obtain ⟨d, d1, d2, d3, d4⟩ := hD.add hk p1
  have hp := hp' n p1 p2
  have hq := hq' a q1 q3
  have hc : c < 100 := by
    by_cases e : c = 100
    · subst e; exact absurd q5 hc'
    · omega
  obtain ⟨g1, g2, g3, g4, g5⟩ := p12 p hp
  obtain ⟨dy, y1, y2, y3⟩ := bw_nat (lo := 0) (hi := 99999) htr (by omega)
  obtain ⟨de, e1, e2, e3⟩ := bw_nat (lo := 0) (hi := 999999) hd (by omega)
  have hcl := nI_clamp (n := p) (by omega)
  have hcc := nI_clamp (n := c) (by omega)
  subst e3
  obtain ⟨la, hla⟩ : ∃ la : Int32, la = if (nI (dy + de)) < (99999 : Int32) then nI (dy + de) else (99999 : Int32) := ⟨_, rfl⟩
  have hlb : (if (100000 : Int32) ≤ nI (dy + de) then (99999 : Int32) else nI (dy + de)) = la := by
    rw [hla]
    by_cases z : dy + de < 99999
    · rw [if_pos (show nI (dy + de) < (99999 : Int32) from nI_lt (a := dy + de) (b := 99999) z (by omega)), if_neg (show ¬ (100000 : Int32) ≤ nI (dy + de) from nI_ge (a := dy + de) (b := 100000) (by omega) (by omega))]
    · rw [if_neg (show ¬ nI (dy + de) < (99999 : Int32) from nI_nlt (a := dy + de) (b := 99999) (by omega) (by omega))]
      by_cases z2 : dy + de = 99999
      · rw [z2, if_neg (show ¬ (100000 : Int32) ≤ nI 99999 by decide)]; rfl
      · rw [if_pos (show (100000 : Int32) ≤ nI (dy + de) from nI_le (a := 100000) (b := dy + de) (by omega) (by omega))]
  have ys : s11.1 0 2 = nI dy := ht.symm.trans y3
  rw [nm_p, y3, ys, nI_add, ← hla, c_weightOfP p1 p2 hp, Option.bind_some, c_change p1 p2 hp d1 d2, Option.bind_some]
  unfold f2_begin f2_begin_j18
  have hb := inb_n hc (by omega : 100 < 2 ^ 31)
  simp only [q5, nm_p, hcc, hb, chk_p]
  rw [if_neg (nI_pos (n := c) (by omega)), if_pos (show nI c < (100 : Int32) from nI_lt (a := c) (b := 100) hc (by omega)), Option.bind_some]
  have ew : (wI (wI (wI (wI (wI (wI s2 4 c (nI p)) 5 c (nI q)) 6 c (nI dy)) 7 c la) 8 c (-1)) 9 c 0).1 0 9 = nI c := q5
  rw [ew, nI_1]
  obtain ⟨m, hm⟩ : ∃ m, m = wI (wI (wI (wI (wI (wI (wI s11 59 c (nI p)) 60 c (nI q)) 61 c (nI dy)) 62 c la) 63 c (-1)) 64 c 0) 0 5 (nI (c + 1)) := ⟨_, rfl⟩
  have er : f11_lend_j155 (nI p) (nI q) (nI dy) (nI de) s11 = some (nI (c + 1) - 1, nW (wI m 16 p 10) d p) := by
    have w0 : s11.1 0 5 = nI c := q6
    have w2 : s11.1 0 2 = nI dy := ys
    have key : ∀ l, f11_lend_j215 (nI p) (nI c) l (wI (wI (wI s11 59 c (nI p)) 60 c (nI q)) 61 c (nI dy)) = some (nI (c + 1) - 1, nW (wI (wI (wI (wI (wI (wI (wI (wI s11 59 c (nI p)) 60 c (nI q)) 61 c (nI dy)) 62 c l) 63 c (-1)) 64 c 0) 0 5 (nI (c + 1))) 16 p 10) d p) := fun l => by
      unfold f11_lend_j215
      have k1 : ∀ x, (wI (wI (wI (wI s11 59 c (nI p)) 60 c (nI q)) 61 c (nI dy)) 62 c x).1 0 5 = nI c := fun _ => w0
      have k2 : ∀ x y, (wI (wI (wI (wI (wI s11 59 c (nI p)) 60 c (nI q)) 61 c (nI dy)) 62 c x) 63 c y).1 0 5 = nI c := fun _ _ => w0
      have k3 : ∀ x y z, (wI (wI (wI (wI (wI (wI s11 59 c (nI p)) 60 c (nI q)) 61 c (nI dy)) 62 c x) 63 c y) 64 c z).1 0 5 = nI c := fun _ _ _ => w0
      simp only [hb, chk_p, nm_p, hcc, k1, k2, k3, nI_1, inb_n (show p < 150 by omega) (by omega : 150 < 2 ^ 31), hcl]
      rw [rn_of (s11 := s11) (m := wI (wI (wI (wI (wI (wI (wI (wI s11 59 c (nI p)) 60 c (nI q)) 61 c (nI dy)) 62 c l) 63 c (-1)) 64 c 0) 0 5 (nI (c + 1))) 16 p 10) (by omega) d3 (by omega) rfl]
      rfl
    unfold f11_lend_j155
    have k1 : ∀ x, (wI s11 59 c x).1 0 5 = nI c := fun _ => w0
    have k2 : ∀ x y, (wI (wI s11 59 c x) 60 c y).1 0 5 = nI c := fun _ _ => w0
    have k3 : ∀ x y z, (wI (wI (wI s11 59 c x) 60 c y) 61 c z).1 0 5 = nI c := fun _ _ _ => w0
    have k4 : ∀ x y, (wI (wI s11 59 c x) 60 c y).1 0 2 = nI dy := fun _ _ => w2
    simp only [nm_p, w0, hb, chk_p, hcc, k1, k2, k3, k4, nI_add]
    rw [hm]
    by_cases z : (100000 : Int32) ≤ nI (dy + de)
    · rw [if_pos z] at hlb
      rw [if_pos z, ← hlb]
      exact key _
    · rw [if_neg z] at hlb
      rw [if_neg z, ← hlb]
      exact key _
  rw [er]
  subst hm
  refine ⟨_, _, rfl, rfl, ?_, n, ⟨hg, ?_, htr, hgr⟩, hP.upd hp (w := s4.1 3 p) (q := 0) (pl := 10) (by rw [p6]; exact g2) ⟨by decide, by decide⟩ ⟨by decide, by decide⟩ ?_ ?_ rfl, d4 _ _ _ _ _ _ _ _ _ _ rfl ?_ ?_ ?_ ?_, ⟨a, c + 1, q1, by omega, q3, q4, rfl, rfl, q7, q8, ?_, ?_, ?_, ?_, ?_, ?_, fun i hi => ?_, fun x hx => ?_⟩, hS⟩
  · show nI c = nI (c + 1) - 1
    rw [← nI_1, add_sub1]
  · exact ht
  · show s11.1 14 = _
    rw [p6, fupd_id]
  · show s11.1 15 = _
    rw [or_0, fupd_id]
  · exact ys.symm
  · rw [p6]; rfl
  · rw [p7, or_0]; rfl
  · exact (wI_at (s := wI (wI (wI (wI (wI (wI (wI s11 59 c (nI p)) 60 c (nI q)) 61 c (nI dy)) 62 c la) 63 c (-1)) 64 c 0) 0 5 (nI (c + 1))) (r := 16) (i := p)).symm
  · show fupd (s2.1 4) c (nI p) = fupd (s11.1 59) c (nI p)
    rw [q9]
  · show fupd (s2.1 5) c (nI q) = fupd (s11.1 60) c (nI q)
    rw [q10]
  · show fupd (s2.1 6) c (nI dy) = fupd (s11.1 61) c (nI dy)
    rw [q11]
  · show fupd (s2.1 7) c la = fupd (s11.1 62) c la
    rw [q12]
  · show fupd (s2.1 8) c (-1) = fupd (s11.1 63) c (-1)
    rw [q13]
  · show fupd (s2.1 9) c 0 = fupd (s11.1 64) c 0
    rw [q14]
  · show (∃ p', p' < n ∧ fupd (s11.1 59) c (nI p) i = nI p') ∧ (∃ q', q' < a ∧ fupd (s11.1 60) c (nI q) i = nI q') ∧ (fupd (s11.1 63) c (-1) i = -1 → fupd (s11.1 64) c 0 i = 0)
    by_cases e : i = c
    · subst e
      rw [fupd_s, fupd_s, fupd_s]
      exact ⟨⟨p, hp, rfl⟩, ⟨q, hq, rfl⟩, fun _ => fupd_s _ _ _⟩
    · rw [fupd_n e, fupd_n e, fupd_n e, fupd_n e]
      exact q15 i (by omega)
  · show s11.2 33 x = misS (fupd (s11.1 60) c (nI q)) (fupd (s11.1 64) c 0) (nI x) (c + 1)
    rw [misS_new, q16 x hx]
