-- rules: numbers between clauses
def F43 (a b : OS) : Prop := (∀ q, q ≠ 0 → b.1 q = a.1 q) ∧ b.2 = a.2 ∧ ∀ i, i ≠ 43 → i ≠ 45 → b.1 0 i = a.1 0 i
theorem F43.refl (a : OS) : F43 a a := ⟨fun _ _ => rfl, rfl, fun _ _ _ => rfl⟩
theorem F43.slot {a b : OS} {i : Nat} {v : Int32} (h : F43 a b) (hi : i = 43 ∨ i = 45) : F43 a (wI b 0 i v) := by
  refine ⟨fun q h1 => (wI_of h1).trans (h.1 q h1), h.2.1, fun j h1 h2 => ?_⟩
  show (if j = i then v else b.1 0 j) = _
  rw [if_neg (by omega)]; exact h.2.2 j h1 h2
def YW (T : Nat → Int32) (n : Nat) (m0 : OS) (p : Nat) (m : OS) : Prop := F43 m0 m ∧ (∀ i, i < n → m.1 1 i &&& 255 = T i) ∧ m.1 0 44 = nI n ∧ m.1 0 43 = nI p ∧ m.1 0 45 = 0 ∧ p ≤ n
def BW (k pl : Nat) (m0 m : OS) : Prop := F43 m0 m ∧ m.1 0 45 = -1000 * nI k - nI pl ∧ m.1 0 45 < 0
section
variable {T : Nat → Int32} {n p : Nat} {m0 m : OS}
theorem w_here (h : YW T n m0 p m) (hn : n ≤ 160) : f11_here m = some (hd T n p) := by
  obtain ⟨_, h1, h2, h3, _, h4⟩ := h
  unfold f11_here f11_here_j28 hd
  rw [h2, h3]
  by_cases c : p < n
  · rw [if_pos c, if_neg (nI_ge c (by omega)), nI_clamp (by omega), inb_n (show p < 400 by omega) (by omega), chk_p, nm_p, h1 p c]
  · rw [if_neg c, if_pos (nI_le (by omega) (by omega))]
theorem w_good (h : YW T n m0 p m) : f11_isGood m = some 1 := by
  unfold f11_isGood f11_isGood_j12
  rw [if_pos h.2.2.2.2.1]; rfl
theorem bw_good {k pl : Nat} (h : BW k pl m0 m) : f11_isGood m = some 0 := by
  unfold f11_isGood f11_isGood_j12
  rw [if_neg (fun e => by have := h.2.2; rw [e] at this; exact absurd this (by decide))]; rfl
theorem w_wrongs (h : YW T n m0 p m) (k pl : Int32) : f11_wrongs k pl m = some (wI m 0 45 (-1000 * k - pl)) := by
  unfold f11_wrongs f11_wrongs_j22
  rw [h.2.2.2.2.1, if_pos (show (0 : Int32) ≤ 0 by decide), nm_p]
theorem w_bd (h : YW T n m0 p m) {k pl : Nat} (h1 : 0 < k) (h2 : k < 6) (h3 : pl ≤ 200) : BW k pl m0 (wI m 0 45 (-1000 * nI k - nI pl)) := by
  refine ⟨h.1.slot (Or.inr rfl), wI_at, ?_⟩
  rw [wI_at]; exact bad_neg h1 h2 h3
theorem BW.place {k pl : Nat} (h : BW k pl m0 m) (v : Int32) : BW k pl m0 (wI m 0 43 v) := ⟨h.1.slot (Or.inl rfl), h.2.1, h.2.2⟩
theorem bw_wrongs {k pl : Nat} (h : BW k pl m0 m) (a b : Int32) : ∃ m', f11_wrongs a b m = some m' ∧ BW k pl m0 m' := by
  obtain ⟨h1, h2, h3⟩ := h
  unfold f11_wrongs f11_wrongs_j22
  rw [if_neg (show ¬ (0 : Int32) ≤ m.1 0 45 by
    rw [Int32.lt_iff_toInt_lt] at h3
    rw [Int32.le_iff_toInt_le]; omega), nm_p]
  refine ⟨_, rfl, h1.slot (Or.inr rfl), ?_, ?_⟩
  · rw [wI_at]; exact h2
  · rw [wI_at]; exact h3
theorem w_place (h : YW T n m0 p m) (hp : p < n) : YW T n m0 (p + 1) (wI m 0 43 (m.1 0 43 + 1)) := by
  obtain ⟨h0, h1, h2, h3, h4, h5⟩ := h
  exact ⟨h0.slot (Or.inl rfl), h1, h2, by show m.1 0 43 + 1 = _; rw [h3, nI_1], h4, by omega⟩
theorem w_sees (h : YW T n m0 p m) (hn : n ≤ 160) : ∃ x, f11_seesDigit m = some x ∧ ((x = 1 ∧ isD (hd T n p)) ∨ (x = 0 ∧ ¬ isD (hd T n p))) := by
  unfold f11_seesDigit
  rw [w_here h hn, Option.bind_some, r_lies, Option.bind_some, b1_B, chk_p, Int32.toInt_toInt64]
  by_cases c : isD (hd T n p)
  · exact ⟨1, by rw [b1_t (show (48 : Int64).toInt ≤ _ ∧ _ ≤ (57 : Int64).toInt from c)], Or.inl ⟨rfl, c⟩⟩
  · exact ⟨0, by rw [b1_f (show ¬ ((48 : Int64).toInt ≤ _ ∧ _ ≤ (57 : Int64).toInt) from c)], Or.inr ⟨rfl, c⟩⟩
theorem ws_t (h : YW T n m0 p m) (hn : n ≤ 160) (hD : isD (hd T n p)) : f11_seesDigit m = some 1 := by
  obtain ⟨x, h1, ⟨rfl, _⟩ | ⟨_, h2⟩⟩ := w_sees h hn
  · exact h1
  · exact absurd hD h2
theorem ws_f (h : YW T n m0 p m) (hn : n ≤ 160) (hD : ¬ isD (hd T n p)) : f11_seesDigit m = some 0 := by
  obtain ⟨x, h1, ⟨_, h2⟩ | ⟨rfl, _⟩⟩ := w_sees h hn
  · exact absurd h2 hD
  · exact h1
end
theorem w_reads {T : Nat → Int32} {n p k most : Nat} {m0 m : OS} (h : YW T n m0 p m) (hn : n ≤ 160) (hm : most < 2 ^ 30) (hk : k ≤ 6) (hd' : dgs T n p k) (he : k = 6 ∨ ¬ isD (hd T n (p + k))) :
    ∃ x m', f11_reads (nI most) m = some (x, m') ∧ ((k = 0 ∧ BW 1 p m0 m') ∨ (k = 6 ∧ isD (hd T n (p + 6)) ∧ BW 2 (p + 6) m0 m') ∨ (0 < k ∧ ¬ isD (hd T n (p + k)) ∧ ((valD T n p k ≤ most ∧ x = nI (valD T n p k) ∧ YW T n m0 (p + k) m') ∨ (most < valD T n p k ∧ BW 3 p m0 m')))) := by
  have hpn := h.2.2.2.2.2
  have g1 := h.2.2.2.1
  have done : ∀ (v : Nat) (kk pl : Nat) (u : OS), BW kk pl m0 u → ∃ o : Int32 × OS, f11_reads_j83 (nI most) (nI p) (nI v) u = some o ∧ BW kk pl m0 o.2 := by
    intro v kk pl u hb
    unfold f11_reads_j83 f11_reads_j94
    by_cases c : nI v ≤ nI most
    · rw [if_pos c]; exact ⟨_, rfl, hb⟩
    · rw [if_neg c]
      obtain ⟨u', z1, z2⟩ := bw_wrongs hb 3 (nI p)
      rw [z1, Option.bind_some]; exact ⟨_, rfl, z2⟩
  have key : ∃ o' : Int32 × OS, f11_reads (nI most) m = some o' ∧ ((k = 0 ∧ BW 1 p m0 o'.2) ∨ (k = 6 ∧ isD (hd T n (p + 6)) ∧ BW 2 (p + 6) m0 o'.2) ∨ (0 < k ∧ ¬ isD (hd T n (p + k)) ∧ ((valD T n p k ≤ most ∧ o'.1 = nI (valD T n p k) ∧ YW T n m0 (p + k) o'.2) ∨ (most < valD T n p k ∧ BW 3 p m0 o'.2)))) := by
    unfold f11_reads f11_reads_j23
    rw [nm_p, g1]
    by_cases k0 : k = 0
    · subst k0
      have hD : ¬ isD (hd T n p) := he.resolve_left (by omega)
      have hb := w_bd h (k := 1) (pl := p) (by omega) (by omega) (by omega)
      rw [ws_f h hn hD, Option.bind_some, if_pos rfl, w_wrongs h, Option.bind_some]
      obtain ⟨ob, z1, z2⟩ := done 0 1 p _ hb
      refine ⟨ob, ?_, Or.inl ⟨rfl, z2⟩⟩
      refine loop_inr ?_
      unfold f11_reads_l23
      show Option.bind (f11_isGood (wI m 0 45 (-1000 * nI 1 - nI p))) (fun q_24 => if q_24 = 0 then (Option.map Sum.inr (f11_reads_j83 (nI most) (nI p) (nI 0) (wI m 0 45 (-1000 * nI 1 - nI p)))) else _) = _
      rw [bw_good hb, Option.bind_some, if_pos rfl, z1]; rfl
    · have hD0 : isD (hd T n (p + 0)) := hd' 0 (by omega)
      rw [ws_t h hn hD0, Option.bind_some, if_neg (show ¬ (1 : Int32) = 0 by decide)]
      refine loop_inv 8 (fun i (t : Int32 × OS) => (i ≤ k ∧ t.1 = nI (valD T n p i) ∧ YW T n m0 (p + i) t.2) ∨ (i = 7 ∧ k = 6 ∧ isD (hd T n (p + 6)) ∧ (∃ v : Nat, t.1 = nI v) ∧ BW 2 (p + 6) m0 t.2)) _ ?_ 8 0 _ (by omega) (Or.inl ⟨by omega, rfl, h⟩)
      rintro i ⟨x, u⟩ hI
      rcases hI with ⟨hi, e1, e2⟩ | ⟨rfl, hk6, hD6, ⟨v, e1⟩, e2⟩
      · have e1 : x = nI (valD T n p i) := e1
        subst e1
        have e2 : YW T n m0 (p + i) u := e2
        have u43 := e2.2.2.2.1
        have hv : valD T n p i ≤ 999999 := val_6 (fun j hj => hd' j (by omega)) (by omega)
        unfold f11_reads_l23 f11_reads_j57
        show (i < 8 ∧ ∃ t, (Option.bind (f11_isGood u) fun q_24 => if q_24 = 0 then (Option.map Sum.inr (f11_reads_j83 (nI most) (nI p) (nI (valD T n p i)) u) : Option ((Int32 × OS) ⊕ (Int32 × OS))) else (Option.bind (f11_seesDigit u) fun q_31 => if q_31 = 0 then (Option.map Sum.inr (f11_reads_j83 (nI most) (nI p) (nI (valD T n p i)) u)) else (if (u.1 0 43) = (nI p + (6 : Int32)) then (Option.bind (f11_wrongs ((2 : Int32)) ((u.1 0 43)) u) fun q_54 => Option.bind (f11_here q_54) fun q_62 => nm (((10 : Int32) * nI (valD T n p i)) + q_62 - (48 : Int32)) fun n_69 => nm (wI q_54 0 43 (((q_54.1 0 43) + (1 : Int32)))) fun s11_77 => some (Sum.inl (n_69, s11_77))) else (Option.bind (f11_here u) fun q_62 => nm (((10 : Int32) * nI (valD T n p i)) + q_62 - (48 : Int32)) fun n_69 => nm (wI u 0 43 (((u.1 0 43) + (1 : Int32)))) fun s11_77 => some (Sum.inl (n_69, s11_77)))))) = some (Sum.inl t) ∧ _) ∨ ∃ o', (Option.bind (f11_isGood u) fun q_24 => if q_24 = 0 then (Option.map Sum.inr (f11_reads_j83 (nI most) (nI p) (nI (valD T n p i)) u) : Option ((Int32 × OS) ⊕ (Int32 × OS))) else (Option.bind (f11_seesDigit u) fun q_31 => if q_31 = 0 then (Option.map Sum.inr (f11_reads_j83 (nI most) (nI p) (nI (valD T n p i)) u)) else (if (u.1 0 43) = (nI p + (6 : Int32)) then (Option.bind (f11_wrongs ((2 : Int32)) ((u.1 0 43)) u) fun q_54 => Option.bind (f11_here q_54) fun q_62 => nm (((10 : Int32) * nI (valD T n p i)) + q_62 - (48 : Int32)) fun n_69 => nm (wI q_54 0 43 (((q_54.1 0 43) + (1 : Int32)))) fun s11_77 => some (Sum.inl (n_69, s11_77))) else (Option.bind (f11_here u) fun q_62 => nm (((10 : Int32) * nI (valD T n p i)) + q_62 - (48 : Int32)) fun n_69 => nm (wI u 0 43 (((u.1 0 43) + (1 : Int32)))) fun s11_77 => some (Sum.inl (n_69, s11_77)))))) = some (Sum.inr o') ∧ _
        rw [w_good e2, Option.bind_some, if_neg (show ¬ (1 : Int32) = 0 by decide)]
        have hpi := e2.2.2.2.2.2
        have e6 : (u.1 0 43 = nI p + 6) ↔ i = 6 := by
          rw [u43, show (6 : Int32) = nI 6 from rfl, nI_add]
          exact ⟨fun e => by have := (nI_eq (by omega) (by omega)).mp e; omega, fun e => by rw [e]⟩
        by_cases cD : isD (hd T n (p + i))
        · left
          rw [ws_t e2 hn cD, Option.bind_some, if_neg (show ¬ (1 : Int32) = 0 by decide)]
          refine ⟨by omega, ?_⟩
          by_cases c6 : i = 6
          · subst c6
            have hk6 : k = 6 := by omega
            have hb := w_bd e2 (k := 2) (pl := p + 6) (by omega) (by omega) (by omega)
            have hh : f11_here (wI u 0 45 (-1000 * nI 2 - nI (p + 6))) = some (hd T n (p + 6)) := (show f11_here (wI u 0 45 (-1000 * nI 2 - nI (p + 6))) = f11_here u from rfl).trans (w_here e2 hn)
            rw [if_pos (e6.mpr rfl), u43, w_wrongs e2, Option.bind_some]
            show ∃ t, (Option.bind (f11_here (wI u 0 45 (-1000 * nI 2 - nI (p + 6)))) _) = some (Sum.inl t) ∧ _
            rw [hh, Option.bind_some, dig_step cD]
            exact ⟨_, rfl, Or.inr ⟨rfl, hk6, cD, ⟨_, rfl⟩, hb.place _⟩⟩
          · rw [if_neg (fun e => c6 (e6.mp e)), w_here e2 hn, Option.bind_some, dig_step cD]
            have hik : i < k := by
              rcases Nat.lt_or_ge i k with c | c
              · exact c
              · have hik : i = k := by omega
                rcases he with he | he
                · omega
                · exact absurd cD (by rw [hik]; exact he)
            exact ⟨_, rfl, Or.inl ⟨by omega, rfl, w_place e2 (isD_lt cD)⟩⟩
        · right
          have hik : i = k := by
            rcases Nat.lt_or_ge i k with c | c
            · exact absurd (hd' i c) cD
            · omega
          subst hik
          rw [ws_f e2 hn cD, Option.bind_some, if_pos rfl]
          unfold f11_reads_j83 f11_reads_j94
          by_cases cm : valD T n p i ≤ most
          · rw [if_pos (nI_le cm (by omega))]
            exact ⟨_, rfl, Or.inr (Or.inr ⟨by omega, cD, Or.inl ⟨cm, rfl, e2⟩⟩)⟩
          · have hb := w_bd e2 (k := 3) (pl := p) (by omega) (by omega) (by omega)
            rw [if_neg (nI_ge (by omega) (by omega)), w_wrongs e2, Option.bind_some]
            exact ⟨_, rfl, Or.inr (Or.inr ⟨by omega, cD, Or.inr ⟨by omega, hb⟩⟩)⟩
      · right
        have e1 : x = nI v := e1
        subst e1
        have e2 : BW 2 (p + 6) m0 u := e2
        obtain ⟨ob, z1, z2⟩ := done v 2 (p + 6) u e2
        refine ⟨ob, ?_, Or.inr (Or.inl ⟨hk6, hD6, z2⟩)⟩
        unfold f11_reads_l23
        show Option.bind (f11_isGood u) (fun q_24 => if q_24 = 0 then (Option.map Sum.inr (f11_reads_j83 (nI most) (nI p) (nI v) u)) else _) = _
        rw [bw_good e2, Option.bind_some, if_pos rfl, z1]; rfl
  obtain ⟨⟨x, m'⟩, k1, k2⟩ := key
  exact ⟨x, m', k1, k2⟩
/-- a number that is told, on both sides -/
def TolF (T : Nat → Int32) (n most p k pl : Nat) : Prop := (∀ s, RdS T n p s → ∃ x s', f6_readTold (nI most) s = some (x, s') ∧ Flt k pl s s') ∧ ∀ m0 m, YW T n m0 p m → ∃ x m', f11_reads (nI most) m = some (x, m') ∧ BW k pl m0 m'
def TolO (T : Nat → Int32) (n most p p' v : Nat) : Prop := (∀ s, RdS T n p s → ∃ s', f6_readTold (nI most) s = some (nI v, s') ∧ RdS T n p' s' ∧ FrR s s' ∧ s'.1 0 11 = s.1 0 11) ∧ ∀ m0 m, YW T n m0 p m → ∃ m', f11_reads (nI most) m = some (nI v, m') ∧ YW T n m0 p' m'
theorem tol_do {T : Nat → Int32} {n most p : Nat} (hn : n ≤ 160) (hp : p ≤ n) (hm : most < 2 ^ 30) : (∃ k pl, 0 < k ∧ k < 6 ∧ pl ≤ 200 ∧ TolF T n most p k pl) ∨ ∃ p' v, p < p' ∧ p' ≤ n ∧ v ≤ most ∧ v ≤ 999999 ∧ TolO T n most p p' v := by
  obtain ⟨k, h1, h2, h3⟩ := dig_ex T n p
  have cls : ∀ s, RdS T n p s → ∀ x s1, f6_readDigits s = some (x, s1) → f6_readTold (nI most) s = if x ≤ nI most then some (x, s1) else Option.bind (f6_fail 3 (nI p) s1) fun q => some (x, q) := by
    intro s hs x s1 e
    unfold f6_readTold f6_readTold_j21
    rw [nm_p, hs.2.1, e, Option.bind_some]
  have flt : ∀ s, RdS T n p s → ∀ x s1 kk pl, f6_readDigits s = some (x, s1) → Flt kk pl s s1 → ∃ x s', f6_readTold (nI most) s = some (x, s') ∧ Flt kk pl s s' := by
    intro s hs x s1 kk pl e hF
    rw [cls s hs x s1 e]
    by_cases c : x ≤ nI most
    · rw [if_pos c]; exact ⟨_, _, rfl, hF⟩
    · rw [if_neg c, x_fail hF.2.2.1, Option.bind_some]; exact ⟨_, _, rfl, hF⟩
  by_cases k0 : k = 0
  · subst k0
    refine Or.inl ⟨1, p, by omega, by omega, by omega, fun s hs => ?_, fun m0 m hw => ?_⟩
    · obtain ⟨x, s1, e1, e2⟩ := c_digits hs hn hp h1 h2 h3
      rcases e2 with ⟨_, _, e2⟩ | ⟨e2, _⟩ | ⟨e2, _⟩
      · exact flt s hs x s1 1 p e1 e2
      · omega
      · omega
    · obtain ⟨x, m', e1, e2⟩ := w_reads hw hn hm h1 h2 h3
      rcases e2 with ⟨_, e2⟩ | ⟨e2, _⟩ | ⟨e2, _⟩
      · exact ⟨x, m', e1, e2⟩
      · omega
      · omega
  · by_cases h6 : k = 6 ∧ isD (hd T n (p + 6))
    · refine Or.inl ⟨2, p + 6, by omega, by omega, by have := isD_lt h6.2; omega, fun s hs => ?_, fun m0 m hw => ?_⟩
      · obtain ⟨x, s1, e1, e2⟩ := c_digits hs hn hp h1 h2 h3
        rcases e2 with ⟨e2, _⟩ | ⟨_, _, e2⟩ | ⟨_, e2, _⟩
        · omega
        · exact flt s hs x s1 2 (p + 6) e1 e2
        · exact absurd h6.2 (by rw [← h6.1]; exact e2)
      · obtain ⟨x, m', e1, e2⟩ := w_reads hw hn hm h1 h2 h3
        rcases e2 with ⟨e2, _⟩ | ⟨_, _, e2⟩ | ⟨_, e2, _⟩
        · omega
        · exact ⟨x, m', e1, e2⟩
        · exact absurd h6.2 (by rw [← h6.1]; exact e2)
    · have hv := val_6 h2 h1
      by_cases hm2 : valD T n p k ≤ most
      · refine Or.inr ⟨p + k, valD T n p k, by omega, by have := isD_lt (h2 (k - 1) (by omega)); omega, hm2, hv, fun s hs => ?_, fun m0 m hw => ?_⟩
        · obtain ⟨x, s1, e1, e2⟩ := c_digits hs hn hp h1 h2 h3
          rcases e2 with ⟨e2, _⟩ | ⟨e2, e3, _⟩ | ⟨_, _, rfl, e3, e4, e5⟩
          · omega
          · exact absurd ⟨e2, e3⟩ h6
          · refine ⟨s1, ?_, e3, e4, e5⟩
            rw [cls s hs _ s1 e1, if_pos (nI_le hm2 (by omega))]
        · obtain ⟨x, m', e1, e2⟩ := w_reads hw hn hm h1 h2 h3
          rcases e2 with ⟨e2, _⟩ | ⟨e2, e3, _⟩ | ⟨_, _, ⟨_, rfl, e4⟩ | ⟨e2, _⟩⟩
          · omega
          · exact absurd ⟨e2, e3⟩ h6
          · exact ⟨m', e1, e4⟩
          · omega
      · refine Or.inl ⟨3, p, by omega, by omega, by omega, fun s hs => ?_, fun m0 m hw => ?_⟩
        · obtain ⟨x, s1, e1, e2⟩ := c_digits hs hn hp h1 h2 h3
          rcases e2 with ⟨e2, _⟩ | ⟨e2, e3, _⟩ | ⟨_, _, rfl, e3, e4, e5⟩
          · omega
          · exact absurd ⟨e2, e3⟩ h6
          · obtain ⟨s', g1, g2⟩ := c_flt e3 (k := 3) (pl := p) (by omega) (by omega)
            refine ⟨nI (valD T n p k), s', ?_, g2.fr e4⟩
            rw [cls s hs _ s1 e1, if_neg (nI_ge (by omega) (by omega)), show f6_fail 3 (nI p) s1 = some s' from g1, Option.bind_some]
        · obtain ⟨x, m', e1, e2⟩ := w_reads hw hn hm h1 h2 h3
          rcases e2 with ⟨e2, _⟩ | ⟨e2, e3, _⟩ | ⟨_, _, ⟨e2, _⟩ | ⟨_, e4⟩⟩
          · omega
          · exact absurd ⟨e2, e3⟩ h6
          · omega
          · exact ⟨x, m', e1, e4⟩
