-- rules: a piece with ! and ( on both sides
theorem EvB_not {ask f0 f1 x : Int32} {d : Int64 × Bool} (h : EvB ask f0 x f1 d) : EvB ask f0 (if x = 0 then 1 else 0) f1 (1 - d.1, d.2) := by
  obtain ⟨a0, a1, a2, a3, a4, a5⟩ := h
  have h10 : ¬ (1 : Int32) = 0 := by decide
  have h01 : ¬ (0 : Int32) = 1 := by decide
  refine ⟨?_, ?_, fun hf => ?_, a3, a4, a5⟩
  · by_cases c : x = 0
    · exact Or.inr (if_pos c)
    · exact Or.inl (if_neg c)
  · show 1 - d.1 = 0 ∨ 1 - d.1 = 1
    rcases a1 with e | e <;> rw [e]
    · exact Or.inr (by decide)
    · exact Or.inl (by decide)
  · show _ ↔ 1 - d.1 = 1
    have a2 := a2 hf
    rcases a0 with e | e
    · rw [if_pos e]
      have hd : d.1 = 0 := a1.resolve_right (fun z => by have := a2.mpr z; rw [e] at this; exact h01 this)
      rw [hd]
      exact ⟨fun _ => by decide, fun _ => rfl⟩
    · rw [if_neg (by rw [e]; exact h10), a2.mp e]
      exact ⟨fun z => absurd z h01, fun z => absurd z (by decide)⟩
theorem sin_do {T : Nat → Int32} {n r p o : Nat} {rs : Int32 → Int32 → OS → Option (Int32 × OS)} (hn : n ≤ 160) (hr : r < 20) (hT : ∀ i, i < n → bw 0 255 (T i)) (hp : p ≤ n) (ho : o ≤ 6) (hx : ∀ o' ask s, ¬ s.1 0 6 = 0 → o < 6 → ∃ x, rs o' ask s = some (x, s) ∧ (x = 0 ∨ x = 1)) (hrs : o < 6 → ∀ q, q ≤ n → SinL T n r (fun ask s => rs (nI (o + 1)) ask s) q (o + 1)) : SinL T n r (fun ask s => f6_readSingle_b rs (nI o) ask s) p o := by
  by_cases hc : hd T n p = 33 ∨ hd T n p = 40
  · have hlt : p < n := hd_lt (fun e => by rw [e] at hc; rcases hc with c | c <;> exact absurd c (by decide))
    have hsg : sg T n p = hd T n p := sg_lt hlt
    have cls0 : ∀ (ask : Int32) (s : OS), RdS T n p s → f6_readSingle_b rs (nI o) ask s = f6_readSingle_b_j45 rs (nI o) ask (hd T n p) s := by
      intro ask s hs
      unfold f6_readSingle_b
      rw [c_sign hs hn hp, Option.bind_some, hsg]
      rcases hc with c | c
      · rw [if_pos c]
      · rw [if_neg (show ¬ hd T n p = 33 by rw [c]; decide), if_pos c]
    by_cases ho6 : o = 6
    · subst ho6
      refine Or.inl ⟨5, p, by omega, by omega, by omega, fun ask s _ hs => ?_, fun m0 k o0 σ C bh m _ _ hm => f47_open6 hm hn hc⟩
      obtain ⟨s', g1, g2⟩ := c_flt hs (k := 5) (pl := p) (by omega) (by omega)
      have g1 : f6_fail 5 (s.1 0 4) s = some s' := by rw [hs.2.1]; exact g1
      refine ⟨0, s', ?_, Or.inl rfl, g2⟩
      show f6_readSingle_b rs (nI 6) ask s = _
      rw [cls0 ask s hs]
      unfold f6_readSingle_b_j45
      rw [if_neg (show ¬ nI 6 < (6 : Int32) by decide), g1, Option.bind_some]
    · have ho' : o < 6 := by omega
      have hol : nI o < (6 : Int32) := nI_lt (a := o) (b := 6) ho' (by omega)
      by_cases h33 : hd T n p = 33
      · -- !
        have cls : ∀ (ask : Int32) (s : OS), RdS T n p s → f6_readSingle_b rs (nI o) ask s = Option.bind (rs (nI (o + 1)) ask (wI s 0 4 (s.1 0 4 + 1))) fun q => if q.1 = 0 then some ((1 : Int32), q.2) else some ((0 : Int32), q.2) := by
          intro ask s hs
          rw [cls0 ask s hs]
          unfold f6_readSingle_b_j45
          rw [if_pos hol, nm_p, if_pos h33, nI_1]; rfl
        rcases hrs ho' (p + 1) (by omega) with ⟨k', pl, k1, k2, k3, k4, k5⟩ | ⟨p1, cs1, d1, k1, k2, k3, k4, k5, k6⟩
        · refine Or.inl ⟨k', pl, k1, k2, k3, fun ask s ha hs => ?_, fun m0 k o0 σ C bh m hk hσ hm => ?_⟩
          · obtain ⟨g1, g2, g3⟩ := c_go hs
            obtain ⟨x, s', e1, e2, e3⟩ := k4 ask _ ha g1
            refine ⟨if x = 0 then 1 else 0, s', ?_, ?_, e3.fr g2⟩
            · show f6_readSingle_b rs (nI o) ask s = _
              rw [cls ask s hs, show rs (nI (o + 1)) ask (wI s 0 4 (s.1 0 4 + 1)) = some (x, s') from e1, Option.bind_some]
              by_cases c : x = 0
              · rw [if_pos c, if_pos c]
              · rw [if_neg c, if_neg c]
            · by_cases c : x = 0
              · exact Or.inr (if_pos c)
              · exact Or.inl (if_neg c)
          · obtain ⟨m1, q1, q2⟩ := f47_opens hm hn ho' hc
            rw [h33] at q2
            rw [q1]
            exact k5 m0 (k + 1) o0 σ C bh m1 (by omega) hσ q2
        · refine Or.inr ⟨p1, cs1 ++ [(2, 0)], fun env => (1 - (d1 env).1, (d1 env).2), by omega, k2, by rw [List.length_append]; show 0 < _ + 1; omega, EvS_not k4, fun ask s ha hs => ?_, fun m0 k o0 σ C bh m hk hσ hm => ?_⟩
          · obtain ⟨g1, g2, g3⟩ := c_go hs
            obtain ⟨x, s', e1, e2, e3, e4⟩ := k5 ask _ ha g1
            rw [g3, congrFun g2.2.1 3] at e4
            refine ⟨if x = 0 then 1 else 0, s', ?_, e2, g2.trans e3, EvB_not e4⟩
            show f6_readSingle_b rs (nI o) ask s = _
            rw [cls ask s hs, show rs (nI (o + 1)) ask (wI s 0 4 (s.1 0 4 + 1)) = some (x, s') from e1, Option.bind_some]
            by_cases c : x = 0
            · rw [if_pos c, if_pos c]
            · rw [if_neg c, if_neg c]
          · obtain ⟨m1, q1, q2⟩ := f47_opens hm hn ho' hc
            rw [h33] at q2
            rw [q1]
            have q3 := k6 m0 (k + 1) o0 σ C bh m1 (by omega) hσ q2
            have e : C ++ cs1 ++ List.replicate (k + 1) (2, 0) = C ++ (cs1 ++ [(2, 0)]) ++ List.replicate k (2, 0) := by
              rw [List.replicate_succ]
              simp only [List.append_assoc, List.cons_append, List.nil_append]
            rw [e] at q3; exact q3
      · -- (
        have h40 : hd T n p = 40 := hc.resolve_left h33
        have cls : ∀ (ask : Int32) (s : OS), RdS T n p s → f6_readSingle_b rs (nI o) ask s = Option.bind (f6_readAny rs (nI (o + 1)) ask (wI s 0 4 (s.1 0 4 + 1))) fun q => Option.bind (f6_require 41 q.2) fun q2 => chk (isB q.1) (some (q.1, q2)) := by
          intro ask s hs
          rw [cls0 ask s hs]
          unfold f6_readSingle_b_j45
          rw [if_pos hol, nm_p, if_neg h33, nI_1]
        have hany : ∀ q, q ≤ n → AnyL T n r (fun ask s => f6_readAny rs (nI (o + 1)) ask s) q (o + 1) := fun q hq => any_do hn hr hq (fun q2 hq2 => all_do hn hr hq2 (hrs ho'))
        rcases hany (p + 1) (by omega) with ⟨k', pl, k1, k2, k3, k4, k5⟩ | ⟨p1, cs0, pe, d1, k1, k2, k3, k4, k5, k5', k5'', k6, k7⟩
        · refine Or.inl ⟨k', pl, k1, k2, k3, fun ask s ha hs => ?_, fun m0 k o0 σ C bh m hk hσ hm => ?_⟩
          · obtain ⟨g1, g2, g3⟩ := c_go hs
            obtain ⟨x, s', e1, e2, e3⟩ := k4 ask _ ha g1
            refine ⟨x, s', ?_, e2, e3.fr g2⟩
            show f6_readSingle_b rs (nI o) ask s = _
            rw [cls ask s hs, show f6_readAny rs (nI (o + 1)) ask (wI s 0 4 (s.1 0 4 + 1)) = some (x, s') from e1, Option.bind_some, x_req e3.2.2.1 (by decide), Option.bind_some, isB01 e2, chk_p]
          · obtain ⟨m1, q1, q2⟩ := f47_opens hm hn ho' hc
            rw [h40] at q2
            rw [q1]
            exact k5 m0 (40 :: (List.replicate k 33 ++ σ)) C bh m1 (show (40 : Int32) = 40 from rfl) q2
        · by_cases h41 : hd T n p1 = 41
          · have hlt1 : p1 < n := hd_lt (fun e => by rw [e] at h41; exact absurd h41 (by decide))
            refine Or.inr ⟨p1 + 1, cs0 ++ emC pe, d1, by omega, by omega, k3, k4, fun ask s ha hs => ?_, fun m0 k o0 σ C bh m hk hσ hm => ?_⟩
            · obtain ⟨g1, g2, g3⟩ := c_go hs
              obtain ⟨x, s', e1, e2, e3, e4⟩ := k6 ask _ ha g1
              rw [g3, congrFun g2.2.1 3] at e4
              rcases c_req e2 hn k2 (c := 41) (by decide) (by decide) with ⟨_, _, s2, w1, w2, w3, w4⟩ | ⟨w, _⟩
              · refine ⟨x, s2, ?_, w2, (g2.trans e3).trans w3, by rw [w4]; exact e4⟩
                show f6_readSingle_b rs (nI o) ask s = _
                rw [cls ask s hs, show f6_readAny rs (nI (o + 1)) ask (wI s 0 4 (s.1 0 4 + 1)) = some (x, s') from e1, Option.bind_some, w1, Option.bind_some, isB01 e4.1, chk_p]
              · exact absurd h41 w
            · obtain ⟨m1, q1, q2⟩ := f47_opens hm hn ho' hc
              rw [h40] at q2
              obtain ⟨m2, q3, q4⟩ := StE_real (k7 m0 (40 :: (List.replicate k 33 ++ σ)) C bh m1 (show (40 : Int32) = 40 from rfl) q2) (Or.inr (Or.inr h41))
              obtain ⟨m3, q5, q6⟩ := gb_close q4 hn hr k5 h41
              have q7 := YB.over q6
              have hσ33 : ¬ tpS σ = 33 := by rcases hσ with e | e | e <;> rw [e] <;> decide
              rw [hk] at q7
              have hpn := (y_len q7).2
              obtain ⟨m4, q8, q9⟩ := y_ends hr (show p1 + 1 ≤ 160 by omega) hσ33 k _ _ q7
              have hne : ¬ m3.1 0 49 = 0 := by
                rw [q6.2.2.1.2.2.2.2.1]
                have hl := (y_len q6).1
                have hpos : 0 < (List.replicate k (33 : Int32) ++ σ).length := by
                  rw [List.length_append]
                  cases σ with
                  | nil => rcases hσ with e | e | e <;> exact absurd e (by decide)
                  | cons a b => show 0 < _ + (_ + 1); omega
                exact fun e => by
                  have := (nI_eq (a := (List.replicate k (33 : Int32) ++ σ).length) (b := 0) (by omega) (by omega)).mp e
                  omega
              have hg : f11_goesBehind m2 = some (0, m4) := by
                rw [q5, if_neg hne]
                unfold f11_goesBehind_j104 f11_goesBehind_j118
                rw [show isB (0 : Int32) = true from by decide, chk_p, nm_p, if_pos (show (wI m3 0 50 0).1 0 50 = 0 from wI_at), q8, Option.bind_some]
              refine Or.inr ⟨m4, ?_, ?_⟩
              · rw [q1, q3]
                exact loop_inl (by rw [f47_0 q4, j69_good q4, hg, Option.bind_some])
              · have e : C ++ cs0 ++ emC pe ++ List.replicate k (2, 0) = C ++ (cs0 ++ emC pe) ++ List.replicate k (2, 0) := by simp only [List.append_assoc]
                rw [e] at q9; exact q9
          · refine Or.inl ⟨1, p1, by omega, by omega, by omega, fun ask s ha hs => ?_, fun m0 k o0 σ C bh m hk hσ hm => ?_⟩
            · obtain ⟨g1, g2, g3⟩ := c_go hs
              obtain ⟨x, s', e1, e2, e3, e4⟩ := k6 ask _ ha g1
              rcases c_req e2 hn k2 (c := 41) (by decide) (by decide) with ⟨w, _⟩ | ⟨_, s2, w1, w2⟩
              · exact absurd w h41
              · refine ⟨x, s2, ?_, e4.1, w2.fr (g2.trans e3)⟩
                show f6_readSingle_b rs (nI o) ask s = _
                rw [cls ask s hs, show f6_readAny rs (nI (o + 1)) ask (wI s 0 4 (s.1 0 4 + 1)) = some (x, s') from e1, Option.bind_some, w1, Option.bind_some, isB01 e4.1, chk_p]
            · obtain ⟨m1, q1, q2⟩ := f47_opens hm hn ho' hc
              rw [h40] at q2
              rw [q1]
              exact StE_bad (k7 m0 (40 :: (List.replicate k 33 ++ σ)) C bh m1 (show (40 : Int32) = 40 from rfl) q2) hn (fun e => e.elim k5' (fun e => e.elim k5'' h41))
  · have h33 : ¬ hd T n p = 33 := fun e => hc (Or.inl e)
    have h40 : ¬ hd T n p = 40 := fun e => hc (Or.inr e)
    have cls : ∀ (ask : Int32) (s : OS), RdS T n p s → f6_readSingle_b rs (nI o) ask s = Option.bind (f6_readComparison (nI o) ask s) fun q => chk (isB q.1) (some (q.1, q.2)) := by
      intro ask s hs
      exact single_cmp rs (c_sign hs hn hp) (fun e => h33 ((sg_hd (by decide) (by decide)).mp e)) (fun e => h40 ((sg_hd (by decide) (by decide)).mp e))
    rcases cmp_do hn hr hT hp ho h33 h40 with ⟨k', pl, k1, k2, k3, k4, k5⟩ | ⟨p1, cs1, d1, k1, k2, k3, k4, k5, k6⟩
    · refine Or.inl ⟨k', pl, k1, k2, k3, fun ask s ha hs => ?_, k5⟩
      obtain ⟨x, s', e1, e2, e3⟩ := k4 ask s ha hs
      refine ⟨x, s', ?_, e2, e3⟩
      show f6_readSingle_b rs (nI o) ask s = _
      rw [cls ask s hs, show f6_readComparison (nI o) ask s = some (x, s') from e1, Option.bind_some, isB01 e2, chk_p]
    · refine Or.inr ⟨p1, cs1, d1, k1, k2, k3, k4, fun ask s ha hs => ?_, k6⟩
      obtain ⟨x, s', e1, e2, e3, e4⟩ := k5 ask s ha hs
      refine ⟨x, s', ?_, e2, e3, e4⟩
      show f6_readSingle_b rs (nI o) ask s = _
      rw [cls ask s hs, show f6_readComparison (nI o) ask s = some (x, s') from e1, Option.bind_some, isB01 e4.1, chk_p]
theorem sin_all {T : Nat → Int32} {n r : Nat} (hn : n ≤ 160) (hr : r < 20) (hT : ∀ i, i < n → bw 0 255 (T i)) : ∀ (d o : Nat), o ≤ 6 → 7 ≤ d + o → ∀ p, p ≤ n → SinL T n r (fun ask s => f6_readSingle d (nI o) ask s) p o
  | 0, o, h1, h2, _, _ => by omega
  | d + 1, o, h1, h2, p, hp => sin_do hn hr hT hp h1 (fun o' ask s hs ho => by
      obtain ⟨d', rfl⟩ : ∃ d', d = d' + 1 := ⟨d - 1, by omega⟩
      exact x_single hs d' o' ask) (fun ho q hq => sin_all hn hr hT d (o + 1) (by omega) (by omega) q hq)
theorem any_all {T : Nat → Int32} {n r : Nat} (hn : n ≤ 160) (hr : r < 20) (hT : ∀ i, i < n → bw 0 255 (T i)) (p : Nat) (hp : p ≤ n) : AnyL T n r (fun ask s => f6_readAny (f6_readSingle 8) (nI 1) ask s) p 1 := any_do hn hr hp (fun q hq => all_do hn hr hq (fun q2 hq2 => sin_all hn hr hT 8 1 (by omega) (by omega) q2 hq2))
/-- a whole condition, from its ( on, on both sides -/
def CndY (T : Nat → Int32) (n r p p' : Nat) (cs : List (Int32 × Int32)) : Prop := ∀ (m0 : OS) (C : List (Int32 × Int32)) (o : Nat) (σ : List Int32) (bh : Int32) (m : OS), FrY r m0 m → (∀ i, i < n → m.1 1 i &&& 255 = T i) → m.1 0 6 = nI r → m.1 0 44 = nI n → m.1 0 43 = nI p → m.1 0 45 = 0 → m.1 0 47 = nI C.length → cdA (m.1 42) (m.1 43) (160 * r) C → C.length ≤ p →
  ∃ m', f11_condition m = some m' ∧ FrY r m0 m' ∧ m'.1 0 43 = nI p' ∧ m'.1 0 45 = 0 ∧ m'.1 0 47 = nI (C ++ cs).length ∧ cdA (m'.1 42) (m'.1 43) (160 * r) (C ++ cs) ∧ (C ++ cs).length ≤ p'
def CndF (T : Nat → Int32) (n r p k pl : Nat) : Prop := ∀ (m0 : OS) (C : List (Int32 × Int32)) (m : OS), FrY r m0 m → (∀ i, i < n → m.1 1 i &&& 255 = T i) → m.1 0 6 = nI r → m.1 0 44 = nI n → m.1 0 43 = nI p → m.1 0 45 = 0 → m.1 0 47 = nI C.length → cdA (m.1 42) (m.1 43) (160 * r) C → C.length ≤ p → ∃ m', f11_condition m = some m' ∧ Bd r k pl m0 m'
theorem cnd_do {T : Nat → Int32} {n r : Nat} (hn : n ≤ 160) (hr : r < 20) (hT : ∀ i, i < n → bw 0 255 (T i)) (p : Nat) (hp : p ≤ n) :
    (∃ k pl, 0 < k ∧ k < 6 ∧ pl ≤ 200 ∧ BF T n (fun ask s => f6_readClauseO_j115 ask s) p k pl ∧ CndF T n r p k pl) ∨ ∃ p' cs den, p < p' ∧ p' ≤ n ∧ 0 < cs.length ∧ EvS cs den ∧ BO T n (fun ask s => f6_readClauseO_j115 ask s) p p' den ∧ CndY T n r p p' cs := by
  have start : ∀ (m0 : OS) (C : List (Int32 × Int32)) (m : OS), FrY r m0 m → (∀ i, i < n → m.1 1 i &&& 255 = T i) → m.1 0 6 = nI r → m.1 0 44 = nI n → m.1 0 43 = nI p → m.1 0 45 = 0 → m.1 0 47 = nI C.length → cdA (m.1 42) (m.1 43) (160 * r) C → C.length ≤ p → Yd T n r m0 p 0 [] C (m.1 0 51) (wI (wI (wI m 0 49 0) 0 48 0) 0 50 0) := by
    intro m0 C m h1 h2 h3 h4 h5 h6 h7 h8 h9
    exact ⟨((h1.slot (by omega)).slot (by omega)).slot (by omega), ⟨h2, h3, h4⟩, ⟨h5, h6, h7, rfl, rfl, rfl, rfl⟩, trivial, h8, by show C.length + 0 ≤ p; omega, hp⟩
  by_cases h40 : hd T n p = 40
  · have hlt : p < n := hd_lt (fun e => by rw [e] at h40; exact absurd h40 (by decide))
    have cls : ∀ (ask : Int32) (s : OS), RdS T n p s → ∃ s1, f6_readClauseO_j115 ask s = (Option.bind (f6_readAny (f6_readSingle 8) (nI 1) ask s1) fun q => Option.bind (f6_require 41 q.2) fun q2 => some (q.1, q2)) ∧ RdS T n (p + 1) s1 ∧ FrR s s1 ∧ s1.1 0 11 = s.1 0 11 := by
      intro ask s hs
      rcases c_req hs hn hp (c := 40) (by decide) (by decide) with ⟨_, _, s1, w1, w2, w3, w4⟩ | ⟨w, _⟩
      · refine ⟨s1, ?_, w2, w3, w4⟩
        unfold f6_readClauseO_j115
        rw [w1, Option.bind_some]; rfl
      · exact absurd h40 w
    have ycond : ∀ (m0 : OS) (C : List (Int32 × Int32)) (bh : Int32) (m : OS), Yd T n r m0 p 0 [] C bh (wI (wI (wI m 0 49 0) 0 48 0) 0 50 0) → ∃ m1, f11_condition m = loop (f11_condition_l47) ((1 : Int32), m1) ∧ Yd T n r m0 (p + 1) 1 [40] C bh m1 := by
      intro m0 C bh m hm
      obtain ⟨m1, q1, q2⟩ := y_opens hm hn (show p ≤ 190 by omega) hlt (by omega)
      rw [h40] at q2
      refine ⟨m1, ?_, q2⟩
      unfold f11_condition f11_condition_j33
      simp only [nm_p]
      rw [y_here hm hn, Option.bind_some, if_pos h40, y_good hm, Option.bind_some, if_neg (show ¬ (1 : Int32) = 0 by decide), q1, Option.bind_some]
    rcases any_all hn hr hT (p + 1) (by omega) with ⟨k', pl, k1, k2, k3, k4, k5⟩ | ⟨p1, cs0, pe, d1, k1, k2, k3, k4, k5, k5', k5'', k6, k7⟩
    · refine Or.inl ⟨k', pl, k1, k2, k3, fun ask s ha hs => ?_, fun m0 C m h1 h2 h3 h4 h5 h6 h7 h8 h9 => ?_⟩
      · obtain ⟨s1, c1, c2, c3, c4⟩ := cls ask s hs
        obtain ⟨x, s', e1, e2, e3⟩ := k4 ask s1 ha c2
        refine ⟨x, s', ?_, e2, e3.fr c3⟩
        show f6_readClauseO_j115 ask s = _
        rw [c1, show f6_readAny (f6_readSingle 8) (nI 1) ask s1 = some (x, s') from e1, Option.bind_some, x_req e3.2.2.1 (by decide), Option.bind_some]
      · obtain ⟨m1, q1, q2⟩ := ycond m0 C _ m (start m0 C m h1 h2 h3 h4 h5 h6 h7 h8 h9)
        rw [q1]
        exact k5 m0 [40] C _ m1 rfl q2
    · by_cases h41 : hd T n p1 = 41
      · have hlt1 : p1 < n := hd_lt (fun e => by rw [e] at h41; exact absurd h41 (by decide))
        refine Or.inr ⟨p1 + 1, cs0 ++ emC pe, d1, by omega, by omega, k3, k4, fun ask s ha hs => ?_, fun m0 C _ _ _ m h1 h2 h3 h4 h5 h6 h7 h8 h9 => ?_⟩
        · obtain ⟨s1, c1, c2, c3, c4⟩ := cls ask s hs
          obtain ⟨x, s', e1, e2, e3, e4⟩ := k6 ask s1 ha c2
          rw [c4, congrFun c3.2.1 3] at e4
          rcases c_req e2 hn k2 (c := 41) (by decide) (by decide) with ⟨_, _, s2, w1, w2, w3, w4⟩ | ⟨w, _⟩
          · refine ⟨x, s2, ?_, w2, (c3.trans e3).trans w3, by rw [w4]; exact e4⟩
            show f6_readClauseO_j115 ask s = _
            rw [c1, show f6_readAny (f6_readSingle 8) (nI 1) ask s1 = some (x, s') from e1, Option.bind_some, w1, Option.bind_some]
          · exact absurd h41 w
        · obtain ⟨m1, q1, q2⟩ := ycond m0 C _ m (start m0 C m h1 h2 h3 h4 h5 h6 h7 h8 h9)
          obtain ⟨m2, q3, q4⟩ := StE_real (k7 m0 [40] C _ m1 rfl q2) (Or.inr (Or.inr h41))
          obtain ⟨m3, q5, q6⟩ := gb_close (σ := []) q4 hn hr k5 h41
          have h49 : m3.1 0 49 = 0 := q6.2.2.1.2.2.2.2.1
          have hg : f11_goesBehind m2 = some (0, wI m3 0 50 1) := by
            rw [q5, if_pos h49]
            unfold f11_goesBehind_j104 f11_goesBehind_j118
            rw [show isB (1 : Int32) = true from by decide, chk_p, nm_p, if_neg (show ¬ (wI m3 0 50 1).1 0 50 = 0 by rw [wI_at]; decide)]
          have hgood : f11_isGood (wI m3 0 50 1) = some 1 := (show f11_isGood (wI m3 0 50 1) = f11_isGood m3 from rfl).trans (y_good q6)
          refine ⟨wI m3 0 50 1, ?_, q6.1.slot (by omega), q6.2.2.1.1, q6.2.2.1.2.1, ?_, ?_, ?_⟩
          · rw [q1, q3, loop_inl (s' := (0, wI m3 0 50 1)) (by rw [f47_0 q4, j69_good q4, hg, Option.bind_some])]
            refine loop_inr ?_
            unfold f11_condition_l47 f11_condition_j84
            show Option.bind (f11_isGood (wI m3 0 50 1)) (fun q_48 => if q_48 = 0 then _ else if (wI m3 0 50 1).1 0 50 = 0 then _ else Option.map Sum.inr (some (wI m3 0 50 1))) = _
            rw [hgood, Option.bind_some, if_neg (show ¬ (1 : Int32) = 0 by decide), if_neg (show ¬ (wI m3 0 50 1).1 0 50 = 0 by rw [wI_at]; decide)]; rfl
          · rw [← List.append_assoc]; exact q6.2.2.1.2.2.1
          · rw [← List.append_assoc]; exact q6.2.2.2.2.1
          · rw [← List.append_assoc]
            have hl := (y_len q6).1
            have : (C ++ cs0 ++ emC pe).length + 0 ≤ p1 + 1 := hl
            omega
      · refine Or.inl ⟨1, p1, by omega, by omega, by omega, fun ask s ha hs => ?_, fun m0 C m h1 h2 h3 h4 h5 h6 h7 h8 h9 => ?_⟩
        · obtain ⟨s1, c1, c2, c3, c4⟩ := cls ask s hs
          obtain ⟨x, s', e1, e2, e3, e4⟩ := k6 ask s1 ha c2
          rcases c_req e2 hn k2 (c := 41) (by decide) (by decide) with ⟨w, _⟩ | ⟨_, s2, w1, w2⟩
          · exact absurd w h41
          · refine ⟨x, s2, ?_, e4.1, w2.fr (c3.trans e3)⟩
            show f6_readClauseO_j115 ask s = _
            rw [c1, show f6_readAny (f6_readSingle 8) (nI 1) ask s1 = some (x, s') from e1, Option.bind_some, w1, Option.bind_some]
        · obtain ⟨m1, q1, q2⟩ := ycond m0 C _ m (start m0 C m h1 h2 h3 h4 h5 h6 h7 h8 h9)
          rw [q1]
          exact StE_bad (k7 m0 [40] C _ m1 rfl q2) hn (fun e => e.elim k5' (fun e => e.elim k5'' h41))
  · refine Or.inl ⟨1, p, by omega, by omega, by omega, fun ask s ha hs => ?_, fun m0 C m h1 h2 h3 h4 h5 h6 h7 h8 h9 => ?_⟩
    · rcases c_req hs hn hp (c := 40) (by decide) (by decide) with ⟨w, _⟩ | ⟨_, s1, w1, w2⟩
      · exact absurd w h40
      · have hx := w2.2.2.1
        obtain ⟨y, y1, y2⟩ := x_any hx 1 ask (x_single hx 7 1 ask)
        refine ⟨y, s1, ?_, y2, w2⟩
        show f6_readClauseO_j115 ask s = _
        unfold f6_readClauseO_j115
        rw [w1, Option.bind_some, y1, Option.bind_some, x_req hx (by decide), Option.bind_some]
    · have hm := start m0 C m h1 h2 h3 h4 h5 h6 h7 h8 h9
      have hb := y_bd hm (k := 1) (pl := p) (by omega) (by omega) (by omega)
      refine ⟨_, ?_, hb⟩
      have hw := y_wrongs hm (nI 1) (nI p)
      have h43 : (wI (wI (wI m 0 49 0) 0 48 0) 0 50 0).1 0 43 = nI p := hm.2.2.1.1
      unfold f11_condition f11_condition_j33
      simp only [nm_p]
      rw [y_here hm hn, Option.bind_some, if_neg h40, h43, show f11_wrongs 1 (nI p) (wI (wI (wI m 0 49 0) 0 48 0) 0 50 0) = _ from hw, Option.bind_some, b_good hb, Option.bind_some, if_pos rfl]
