-- the words of the tables
abbrev lw_g : List Cond := lw_tbl.filter goodWord
abbrev wsOf (y : MethodName) (b : ByteArray) (n : Nat) (r : Option FieldType) : List Cond := .code y b n r :: lw_g
theorem wd_all : GoodIn lw_g lw_g := fun w h => ⟨h, good_of_word (List.mem_filter.mp h).2⟩
theorem wd_ws {y : MethodName} {b : ByteArray} {n : Nat} {r : Option FieldType} (h : Cond.code y b n r ∈ lw_g) : GoodIn lw_g (wsOf y b n r) := fun w hw => by
  rcases List.mem_cons.mp hw with h1 | h1
  · subst h1; exact wd_all _ h
  · exact wd_all _ h1
theorem wd_T {w : Cond} {i : Nat} (h : tables_1[i]? = some w) (hg : goodWord w = true) : w ∈ lw_g := List.mem_filter.mpr ⟨List.mem_append_right _ (List.mem_of_getElem? h), hg⟩
theorem wd_1 {w : Cond} {i : Nat} (h : tables_1_1[i]? = some w) (hg : goodWord w = true) : w ∈ lw_g := List.mem_filter.mpr ⟨List.mem_append_right _ (List.mem_append_left _ (List.mem_of_getElem? h)), hg⟩
theorem wd_2 {w : Cond} {i : Nat} (h : tables_1_2[i]? = some w) (hg : goodWord w = true) : w ∈ lw_g := List.mem_filter.mpr ⟨List.mem_append_right _ (List.mem_append_right _ (List.mem_append_left _ (List.mem_of_getElem? h))), hg⟩
theorem wd_3 {w : Cond} {i : Nat} (h : tables_1_3[i]? = some w) (hg : goodWord w = true) : w ∈ lw_g := List.mem_filter.mpr ⟨List.mem_append_right _ (List.mem_append_right _ (List.mem_append_right _ (List.mem_append_left _ (List.mem_of_getElem? h)))), hg⟩
theorem wd_4 {w : Cond} {i : Nat} (h : tables_1_4[i]? = some w) (hg : goodWord w = true) : w ∈ lw_g := List.mem_filter.mpr ⟨List.mem_append_right _ (List.mem_append_right _ (List.mem_append_right _ (List.mem_append_right _ (List.mem_append_left _ (List.mem_of_getElem? h))))), hg⟩
theorem wd_5 {w : Cond} {i : Nat} (h : tables_1_5[i]? = some w) (hg : goodWord w = true) : w ∈ lw_g := List.mem_filter.mpr ⟨List.mem_append_right _ (List.mem_append_right _ (List.mem_append_right _ (List.mem_append_right _ (List.mem_append_right _ (List.mem_append_left _ (List.mem_of_getElem? h)))))), hg⟩
theorem wd_6 {w : Cond} {i : Nat} (h : tables_1_6[i]? = some w) (hg : goodWord w = true) : w ∈ lw_g := List.mem_filter.mpr ⟨List.mem_append_right _ (List.mem_append_right _ (List.mem_append_right _ (List.mem_append_right _ (List.mem_append_right _ (List.mem_append_right _ (List.mem_append_left _ (List.mem_of_getElem? h))))))), hg⟩
theorem wd_7 {w : Cond} {i : Nat} (h : tables_1_7[i]? = some w) (hg : goodWord w = true) : w ∈ lw_g := List.mem_filter.mpr ⟨List.mem_append_right _ (List.mem_append_right _ (List.mem_append_right _ (List.mem_append_right _ (List.mem_append_right _ (List.mem_append_right _ (List.mem_append_right _ (List.mem_append_left _ (List.mem_of_getElem? h)))))))), hg⟩
theorem wd_8 {w : Cond} {i : Nat} (h : tables_1_8[i]? = some w) (hg : goodWord w = true) : w ∈ lw_g := List.mem_filter.mpr ⟨List.mem_append_right _ (List.mem_append_right _ (List.mem_append_right _ (List.mem_append_right _ (List.mem_append_right _ (List.mem_append_right _ (List.mem_append_right _ (List.mem_append_right _ (List.mem_of_getElem? h)))))))), hg⟩
theorem wd_p {w : Cond} {i : Nat} (h : (k2_sels lw_privs)[i]? = some w) (hg : goodWord w = true) : w ∈ lw_g := List.mem_filter.mpr ⟨List.mem_append_left _ (List.mem_of_getElem? h), hg⟩
-- an object's state: its whole numbers (row 0: the fields by their slots; row k + 1: the array in slot k), its long ones
abbrev OS : Type := (Nat → Nat → Int32) × (Nat → Nat → Int64)
def wI (s : OS) (r i : Nat) (v : Int32) : OS := (fun r' => if r' = r then (fun i' => if i' = i then v else s.1 r i') else s.1 r', s.2)
def wL (s : OS) (r i : Nat) (v : Int64) : OS := (s.1, fun r' => if r' = r then (fun i' => if i' = i then v else s.2 r i') else s.2 r')
-- what a program does, as a function
def chk {α : Type} (b : Bool) (k : Option α) : Option α := if b = true then k else none
def nm {α β : Type} (v : α) (k : α → β) : β := k v
def inb (i : Int32) (n : Nat) : Bool := decide (0 ≤ i.toInt) && decide (i.toInt < n)
def isB (v : Int32) : Bool := decide (v = 0) || decide (v = 1)
def isC (v : Int32) : Bool := decide (0 ≤ v) && decide (v ≤ 65535)
def loopN {S R : Type} (f : S → Option (S ⊕ R)) : Nat → S → Option R
  | 0, _ => none
  | n + 1, s => match f s with
    | none => none
    | some (.inl s') => loopN f n s'
    | some (.inr r) => some r
noncomputable def loop {S R : Type} (f : S → Option (S ⊕ R)) (s : S) : Option R := Classical.epsilon (h := ⟨none⟩) (fun o : Option R => (∃ n r, loopN f n s = some r ∧ o = some r) ∨ ((∀ n, loopN f n s = none) ∧ o = none))
theorem chk_e {α : Type} {b : Bool} {k : Option α} {r : α} (h : chk b k = some r) : b = true ∧ k = some r := by
  unfold chk at h
  by_cases hb : b = true
  · rw [if_pos hb] at h; exact ⟨hb, h⟩
  · rw [if_neg hb] at h; cases h
theorem nam_e {α β : Type} {v : α} {k : α → β} {r : β} (h : nm v k = r) : ∃ y, y = v ∧ k y = r := ⟨v, rfl, h⟩
theorem bnd_e {α β : Type} {x : Option α} {k : α → Option β} {r : β} (h : Option.bind x k = some r) : ∃ y, x = some y ∧ k y = some r := by
  cases x with
  | none => cases h
  | some y => exact ⟨y, rfl, h⟩
theorem map_e {α β : Type} {x : Option α} {g : α → β} {r : β} (h : Option.map g x = some r) : ∃ y, x = some y ∧ g y = r := by
  cases x with
  | none => cases h
  | some y => exact ⟨y, rfl, Option.some.inj h⟩
theorem ite_t {α : Sort _} {c : Prop} [Decidable c] {a b z : α} (hc : c) (h : (if c then a else b) = z) : a = z := by rw [if_pos hc] at h; exact h
theorem ite_f {α : Sort _} {c : Prop} [Decidable c] {a b z : α} (hc : ¬ c) (h : (if c then a else b) = z) : b = z := by rw [if_neg hc] at h; exact h
theorem inb_vp {i : Int32} {n : Nat} (h : inb i n = true) : vp_in i n := by
  unfold inb at h
  rw [Bool.and_eq_true, decide_eq_true_eq, decide_eq_true_eq] at h
  exact vp_in_iff.mpr h
def nx {S R : Type} (f : S → Option (S ⊕ R)) (n : Nat) (r : R) : S ⊕ R → Prop
  | .inl s' => loopN f n s' = some r
  | .inr r' => r' = r
theorem loopN_e {S R : Type} {f : S → Option (S ⊕ R)} {n : Nat} {s : S} {r : R} (h : loopN f (n + 1) s = some r) : ∃ x, f s = some x ∧ nx f n r x := by
  unfold loopN at h
  cases hf : f s with
  | none => rw [hf] at h; cases h
  | some x =>
    rw [hf] at h
    cases x with
    | inl s' => exact ⟨_, rfl, h⟩
    | inr r' => exact ⟨_, rfl, Option.some.inj h⟩
theorem nx_l {S R : Type} {f : S → Option (S ⊕ R)} {n : Nat} {r : R} {x : S ⊕ R} {s' : S} (hx : nx f n r x) (h : some (Sum.inl s') = some x) : loopN f n s' = some r := by cases h; exact hx
theorem nx_r {S R : Type} {f : S → Option (S ⊕ R)} {n : Nat} {r : R} {x : S ⊕ R} {r' : R} (hx : nx f n r x) (h : Sum.inr r' = x) : r' = r := by cases h; exact hx
theorem nx_m {S R : Type} {f : S → Option (S ⊕ R)} {n : Nat} {r : R} {x : S ⊕ R} {o : Option R} (hx : nx f n r x) (h : Option.map Sum.inr o = some x) : o = some r := by
  obtain ⟨y, h1, h2⟩ := map_e h
  rw [h1, nx_r hx h2]
theorem loopN_det {S R : Type} {f : S → Option (S ⊕ R)} {r r' : R} : ∀ {n n' : Nat} {s : S}, loopN f n s = some r → loopN f n' s = some r' → r = r'
  | 0, _, _, h, _ => by cases h
  | _ + 1, 0, _, _, h => by cases h
  | n + 1, n' + 1, s, h, h' => by
    obtain ⟨x, h1, h2⟩ := loopN_e h
    obtain ⟨x', h1', h2'⟩ := loopN_e h'
    rw [h1] at h1'
    cases h1'
    cases x with
    | inl s' => exact loopN_det h2 h2'
    | inr q => exact h2.symm.trans h2'
theorem loop_spec {S R : Type} (f : S → Option (S ⊕ R)) (s : S) : (∃ n r, loopN f n s = some r ∧ loop f s = some r) ∨ ((∀ n, loopN f n s = none) ∧ loop f s = none) := by
  unfold loop
  refine Classical.epsilon_spec (p := fun o : Option R => (∃ n r, loopN f n s = some r ∧ o = some r) ∨ ((∀ n, loopN f n s = none) ∧ o = none)) ?_
  by_cases h : ∃ n r, loopN f n s = some r
  · obtain ⟨n, r, h⟩ := h
    exact ⟨some r, Or.inl ⟨n, r, h, rfl⟩⟩
  · refine ⟨none, Or.inr ⟨fun n => ?_, rfl⟩⟩
    cases hq : loopN f n s with
    | none => rfl
    | some r => exact absurd ⟨n, r, hq⟩ h
theorem loop_e {S R : Type} {f : S → Option (S ⊕ R)} {s : S} {r : R} (h : loop f s = some r) : ∃ n, loopN f n s = some r := by
  rcases loop_spec f s with ⟨n, r', h1, h2⟩ | ⟨h1, h2⟩
  · rw [h2] at h; cases h; exact ⟨n, h1⟩
  · rw [h2] at h; cases h
theorem loop_c {S R : Type} {f : S → Option (S ⊕ R)} {s : S} {r : R} {n : Nat} (h : loopN f n s = some r) : loop f s = some r := by
  rcases loop_spec f s with ⟨n', r', h1, h2⟩ | ⟨h1, h2⟩
  · rw [h2, loopN_det h1 h]
  · rw [h1 n] at h; cases h
theorem loop_inl {S R : Type} {f : S → Option (S ⊕ R)} {s s' : S} (h : f s = some (.inl s')) : loop f s = loop f s' := by
  rcases loop_spec f s' with ⟨n, r, h1, h2⟩ | ⟨h1, h2⟩
  · rw [h2]
    refine loop_c (n := n + 1) ?_
    unfold loopN; rw [h]; exact h1
  · rw [h2]
    cases hl : loop f s with
    | none => rfl
    | some r =>
      obtain ⟨n, hn⟩ := loop_e hl
      cases n with
      | zero => cases hn
      | succ n =>
        obtain ⟨x, g1, g2⟩ := loopN_e hn
        rw [h] at g1; cases g1
        have g2 : loopN f n s' = some r := g2
        rw [h1 n] at g2; cases g2
theorem loop_inr {S R : Type} {f : S → Option (S ⊕ R)} {s : S} {r : R} (h : f s = some (.inr r)) : loop f s = some r := by
  refine loop_c (n := 1) ?_
  unfold loopN; rw [h]
-- the machine's side
abbrev rmL (k : Nat) : Room := { frames := k, cells := 0, slots := 0, locals := 40 * k }
abbrev tysA (cy : Nat → ClassId) : List (ClassId × FieldType) := [(cy 0, .int), (cy 1, .long), (cy 2, .boolean), (cy 3, .char), (cy 4, .byte)]
def Afr (ad : Nat → Nat) (n sz : Nat) : Nat → Prop := fun q => (∃ k, k < n ∧ q = ad k) ∨ sz ≤ q
def Wd (D : va_G) (ws : va_W) (A : Nat → Prop) (H0 H : Heap) (locs : List Loc) : Prop := va_P D vwCl ws H ∧ va_D A ws ∧ va_S A H0 H locs
abbrev PreG (D : va_G) (cy : Nat → ClassId) (ws : va_W) (sz : Nat) (N : State → Prop) : State → Prop := fun U => U.heap.size = sz ∧ va_P D vwCl ws U.heap ∧ va_K D vwCl (tysA cy) U ∧ va_D (fun _ => True) ws ∧ N U
/-- what the class's methods take of the tables and of the JDK: three links to the outer class's own methods, the letters' text -/
def NC (ad : Nat → Nat) (U : State) : Prop := va_Nw (.methodLinkNest RX4 80 yX10_isWithin RX10) U ∧ va_Nw (.methodLinkNest RX5 99 yX10_isWithin RX10) U ∧ va_Nw (.methodLinkNest RX9 45 yX10_isPlace RX10) U ∧
  (∃ kS vS : Nat, vk_R "StoneVault$RuleReader" 52 "fhkwmlasd" kS U ∧ vk_S 1 [9] [[102, 104, 107, 119, 109, 108, 97, 115, 100]] (fun _ => kS) (fun _ => vS) (Afr ad 67 U.heap.size) U U.heap) ∧ va_Z "java/lang/String" "COMPACT_STRINGS" "Z" (.int 1) (Afr ad 67 U.heap.size) U U.heap
def NM (_ : State) : Prop := True
abbrev PosG (D : va_G) (ws : va_W) (A : Nat → Prop) : State → Prop := fun t => va_P D vwCl ws t.heap ∧ va_D A ws
theorem va_D_afr {ad : Nat → Nat} {n sz : Nat} {B : Nat → Prop} {ws : va_W} (h : va_D B ws) (hn : ws.map Prod.fst = (List.range n).map ad) : va_D (Afr ad n sz) ws := by
  refine ⟨h.1, fun k q hk => Or.inl ?_⟩
  have h1 : (ws.map Prod.fst)[k]? = some q.1 := by rw [List.getElem?_map, hk]; rfl
  rw [hn, List.getElem?_map] at h1
  obtain ⟨i, hi, e⟩ := Option.map_eq_some_iff.mp h1
  have hi2 := List.mem_range.mp (List.mem_of_getElem? hi)
  exact ⟨i, hi2, e.symm⟩
section
variable {p : Program} {l : Launch} {e : Env} {R : Room} {s : State} {m : MethodId} {args : Array Value} {below : List Frame} {meth : Method} {c : Code} {H : Heap} {locs : List Loc} {Q : State → Prop} {cc : ByteArray} {pc : Nat} {ls : Array Slot} {rest : List Value} {A : Nat → Prop} {H0 : Heap} {cells slots : Nat}
theorem topI {x y : Int32} (he : y = x) (k : W p l e R s m args below meth c H locs cells slots Q (F0 m pc ls (.int y :: rest))) : W p l e R s m args below meth c H locs cells slots Q (F0 m pc ls (.int x :: rest)) := he ▸ k
theorem topL {x y : Int64} (he : y = x) (k : W p l e R s m args below meth c H locs cells slots Q (F0 m pc ls (.long y :: rest))) : W p l e R s m args below meth c H locs cells slots Q (F0 m pc ls (.long x :: rest)) := he ▸ k
theorem retI {D : va_G} {ws : va_W} {ty : FieldType} {v : Int32} (hx : p.tables.exec = Jvm.exec) (hb : c.code = cc) (hr : meth.sig.returnType = some ty) (hlk : meth.locks = false) (hw : Wd D ws A s.heap H locs) (hn : narrow ty (.int v) = .int v) (hdg : decode cc pc = .ok (.ireturn, 1)) :
    W p l e R s m args below meth c H locs cells slots (MQ below (va_Qi (fun x (_ : Unit) => x = v) (fun _ => PosG D ws A) A) args s cells slots A) (F0 m pc ls [.int v]) :=
  W.zret hx hb hr hn (fun t ht _ => ⟨⟨v, (), rfl, rfl, by rw [ht]; exact hw.1, hw.2.1⟩, hw.2.2.F ht⟩) hw.2.2.2.2 hdg hlk
theorem retL {D : va_G} {ws : va_W} {v : Int64} (hx : p.tables.exec = Jvm.exec) (hb : c.code = cc) (hr : meth.sig.returnType = some .long) (hlk : meth.locks = false) (hw : Wd D ws A s.heap H locs) (hdg : decode cc pc = .ok (.lreturn, 1)) :
    W p l e R s m args below meth c H locs cells slots (MQ below (va_Ql (fun x (_ : Unit) => x = v) (fun _ => PosG D ws A) A) args s cells slots A) (F0 m pc ls [.long v]) :=
  W.lret hx hb hr (fun t ht _ => ⟨⟨v, (), rfl, rfl, by rw [ht]; exact hw.1, hw.2.1⟩, hw.2.2.F ht⟩) hw.2.2.2.2 hdg hlk
theorem retV {D : va_G} {ws : va_W} (hx : p.tables.exec = Jvm.exec) (hb : c.code = cc) (hr : meth.sig.returnType = none) (hlk : meth.locks = false) (hw : Wd D ws A s.heap H locs) (hdg : decode cc pc = .ok (.return_, 1)) :
    W p l e R s m args below meth c H locs cells slots (MQ below (va_Qv (fun (_ : Unit) => True) (fun _ => PosG D ws A) A) args s cells slots A) (F0 m pc ls []) :=
  W.vret hx hb hr (fun t ht _ => ⟨⟨(), rfl, trivial, by rw [ht]; exact hw.1, hw.2.1⟩, hw.2.2.F ht⟩) hw.2.2.2.2 hdg hlk
-- a call's start and its end
theorem preG {D : va_G} {cy : Nat → ClassId} {ws : va_W} {av : List Value} {N : State → Prop} (hK : va_K D vwCl (tysA cy) s) (hP : va_P D vwCl ws H) (hD : va_D A ws) (hN : ∀ U : State, U.heap = H → s.WarmedH U.vm → N U) (hB : ∀ (a : Array Value) (U : State) (g : JFrame) (mk : MethodId), N U → N (U.calling g mk a)) : PreS s H (va_Pc av (PreG D cy ws H.size N)) av := by
  refine ⟨fun a U g mk q => ⟨q.1, q.2.1, q.2.2.1, va_K.moved (u := U) (U := U.calling g mk a) (Vm.Alike.refl U.vm) q.2.2.2.1, q.2.2.2.2.1, hB a U g mk q.2.2.2.2.2⟩, fun U hU hW => ⟨rfl, by rw [hU], by rw [hU]; exact hP, va_K.moved hW.alike hK, hD.weaken (fun _ _ _ _ => trivial), hN U hU hW⟩⟩
theorem NM_keep : ∀ U : State, U.heap = H → s.WarmedH U.vm → NM U := fun _ _ _ => trivial
theorem NM_blind : ∀ (a : Array Value) (U : State) (g : JFrame) (mk : MethodId), NM U → NM (U.calling g mk a) := fun _ _ _ _ _ => trivial
theorem NC_keep {ad : Nat → Nat} (h : NC ad s) (hS : va_S (Afr ad 67 s.heap.size) s.heap H locs) : ∀ U : State, U.heap = H → s.WarmedH U.vm → NC ad U := by
  intro U hU hW
  subst hU
  have hA : ∀ q, Afr ad 67 U.heap.size q → Afr ad 67 s.heap.size q := fun q h => h.elim Or.inl (fun h => Or.inr (Nat.le_trans hS.1 h))
  obtain ⟨h1, h2, h3, ⟨kS, vS, h4, h5⟩, h6⟩ := h
  exact ⟨va_Nw.warmM hW h1, va_Nw.warmM hW h2, va_Nw.warmM hW h3, ⟨kS, vS, vk_R.warm hW h4, ((h5.kept hS.2.1).narrow hA).moved hW.alike⟩, ((h6.kept hS.2.1).narrow hA).moved hW.alike⟩
theorem NC_blind {ad : Nat → Nat} : ∀ (a : Array Value) (U : State) (g : JFrame) (mk : MethodId), NC ad U → NC ad (U.calling g mk a) := by
  intro a U g mk h
  obtain ⟨h1, h2, h3, ⟨kS, vS, h4, h5⟩, h6⟩ := h
  exact ⟨va_Nw.same rfl rfl h1, va_Nw.same rfl rfl h2, va_Nw.same rfl rfl h3, ⟨kS, vS, vk_R.same rfl h4, h5.moved (U := U.calling g mk a) (Vm.Alike.refl U.vm)⟩, h6.moved (U := U.calling g mk a) (Vm.Alike.refl U.vm)⟩
theorem endI {D : va_G} {ws' : va_W} {A1 : Nat → Prop} {a : Array Value} {v : Int32} {st0 : List Value} {mc ms : Nat} (hr : va_Run p l e R s m args below meth c H locs cells slots mc ms (F0 m pc ls st0) rest (va_Qi (fun x (_ : Unit) => x = v) (fun _ => PosG D ws' A1) A1 a) A1) (hS : va_S A H0 H locs) (hA : ∀ q, A1 q → A q)
    (kk : ∀ (H1 : Heap) (locs1 : List Loc), Wd D ws' A H0 H1 locs1 → W p l e R s m args below meth c H1 locs1 (cells + mc) (slots + ms) Q (F0 m (pc + 3) ls (.int v :: rest))) : W p l e R s m args below meth c H locs cells slots Q (F0 m pc ls st0) :=
  va_calli hr hS (fun q _ h => hA q h) hA (fun r u t H1 locs1 ht _ hp hB _ _ hS1 => by
    subst hp; subst ht
    exact kk _ locs1 ⟨hB.1, hB.2.weaken (fun _ _ _ h => hA _ h), hS1⟩)
theorem endL {D : va_G} {ws' : va_W} {A1 : Nat → Prop} {a : Array Value} {v : Int64} {st0 : List Value} {mc ms : Nat} (hr : va_Run p l e R s m args below meth c H locs cells slots mc ms (F0 m pc ls st0) rest (va_Ql (fun x (_ : Unit) => x = v) (fun _ => PosG D ws' A1) A1 a) A1) (hS : va_S A H0 H locs) (hA : ∀ q, A1 q → A q)
    (kk : ∀ (H1 : Heap) (locs1 : List Loc), Wd D ws' A H0 H1 locs1 → W p l e R s m args below meth c H1 locs1 (cells + mc) (slots + ms) Q (F0 m (pc + 3) ls (.long v :: rest))) : W p l e R s m args below meth c H locs cells slots Q (F0 m pc ls st0) :=
  va_calll hr hS (fun q _ h => hA q h) hA (fun r u t H1 locs1 ht _ hp hB _ _ hS1 => by
    subst hp; subst ht
    exact kk _ locs1 ⟨hB.1, hB.2.weaken (fun _ _ _ h => hA _ h), hS1⟩)
theorem endV {D : va_G} {ws' : va_W} {A1 : Nat → Prop} {a : Array Value} {st0 : List Value} {mc ms : Nat} (hr : va_Run p l e R s m args below meth c H locs cells slots mc ms (F0 m pc ls st0) rest (va_Qv (fun (_ : Unit) => True) (fun _ => PosG D ws' A1) A1 a) A1) (hS : va_S A H0 H locs) (hA : ∀ q, A1 q → A q)
    (kk : ∀ (H1 : Heap) (locs1 : List Loc), Wd D ws' A H0 H1 locs1 → W p l e R s m args below meth c H1 locs1 (cells + mc) (slots + ms) Q (F0 m (pc + 3) ls rest)) : W p l e R s m args below meth c H locs cells slots Q (F0 m pc ls st0) :=
  va_callv hr hS (fun q _ h => hA q h) hA (fun u t H1 locs1 ht _ hp hB _ _ hS1 => by
    subst ht
    exact kk _ locs1 ⟨hB.1, hB.2.weaken (fun _ _ _ h => hA _ h), hS1⟩)
theorem afr_in {ad : Nat → Nat} {n : Nat} (hS : va_S (Afr ad n H0.size) H0 H locs) : ∀ q, Afr ad n H.size q → Afr ad n H0.size q := fun q h => h.elim Or.inl (fun h => Or.inr (Nat.le_trans hS.1 h))
end
theorem narB {v : Int32} (h : isB v = true) : narrow .boolean (.int v) = .int v := by
  unfold isB at h
  rw [Bool.or_eq_true, decide_eq_true_eq, decide_eq_true_eq] at h
  rcases h with rfl | rfl <;> rfl
theorem fitB {v : Int32} (h : isB v = true) : fits .boolean (.int v) = true := by
  unfold isB at h
  rw [Bool.or_eq_true, decide_eq_true_eq, decide_eq_true_eq] at h
  rcases h with rfl | rfl <;> rfl
theorem narC {v : Int32} (h : isC v = true) : narrow .char (.int v) = .int v := by
  unfold isC at h
  rw [Bool.and_eq_true, decide_eq_true_eq, decide_eq_true_eq] at h
  obtain ⟨q, hq, rfl⟩ := nI_of2 (M := 65535) (n := 65535) (by decide) (fun h0 => absurd h.1 (by rw [Int32.le_iff_toInt_le]; rw [Int32.lt_iff_toInt_lt] at h0; omega)) h.2
  exact (pk_charN (by omega)).1
abbrev QcI (D : va_G) (ad : Nat → Nat) (n : Nat) (ws : va_W) (v : Int32) (sz : Nat) : Array Value → State → Outcome → State → Prop := va_Qi (fun x (_ : Unit) => x = v) (fun _ => PosG D ws (Afr ad n sz)) (Afr ad n sz)
abbrev QcL (D : va_G) (ad : Nat → Nat) (n : Nat) (ws : va_W) (v : Int64) (sz : Nat) : Array Value → State → Outcome → State → Prop := va_Ql (fun x (_ : Unit) => x = v) (fun _ => PosG D ws (Afr ad n sz)) (Afr ad n sz)
abbrev QcV (D : va_G) (ad : Nat → Nat) (n : Nat) (ws : va_W) (sz : Nat) : Array Value → State → Outcome → State → Prop := va_Qv (fun (_ : Unit) => True) (fun _ => PosG D ws (Afr ad n sz)) (Afr ad n sz)
def Cx (p : Program) (c : Code) (cc : ByteArray) (nL : Nat) (s : State) (m : MethodId) (args : Array Value) (own : String) (meth : Method) (ret : Option FieldType) (D : va_G) (cy : Nat → ClassId) (N : State → Prop) : Prop :=
  p.tables.exec = Jvm.exec ∧ c.code = cc ∧ c.maxLocals = nL ∧ s.vm.findClass own = some m.cls ∧ (∀ w ∈ lw_g, w.before args s = true) ∧ meth.sig.returnType = ret ∧ meth.locks = false ∧ va_K D vwCl (tysA cy) s ∧ N s
theorem metG {l : Launch} {y : MethodName} {cc : ByteArray} {nL k n : Nat} {ret : Option FieldType} {own : String} {D : va_G} {ad : Nat → Nat} {cy : Nat → ClassId} {N : State → Prop} {ws : va_W} {av : List Value} {Qc : Nat → Array Value → State → Outcome → State → Prop} (hy : plainName y.cls = true) (ho : y.cls = own) (hlen : (lg_sl av).length ≤ nL) (hn : ws.map Prod.fst = (List.range n).map ad)
    (body : ∀ (p : Program) (e : Env) (s : State) (m : MethodId) (below : List Frame) (meth : Method) (c : Code) (ls : Array Slot), Cx p c cc nL s m av.toArray own meth ret D cy N → Wd D ws (Afr ad n s.heap.size) s.heap s.heap [] → lv_has ls nL (lv_args 0 av) → W p l e (rmL k) s m av.toArray below meth c s.heap [] 0 0 (MQ below (Qc s.heap.size) av.toArray s 0 0 (Afr ad n s.heap.size)) (F0 m 0 ls [])) (sz : Nat) :
    Met l y (wsOf y cc nL ret) (rmL k) (va_Pc av (PreG D cy ws sz N)) (Qc sz) 0 0 (Afr ad n sz) := by
  refine Met.ofW (cc := cc) (maxL := nL) (ret := ret) hy rfl ?_
  intro p e s m args below meth c s₁ B hml hv
  obtain ⟨rfl, hsz, hP, hK, hD0, hN⟩ := hv
  have hts0 := atoms_spec (ws := wsOf y cc nL ret) B.pre
  have hown : s.vm.findClass own = some m.cls := by rw [← ho]; exact findClass_of_methodNamed B.named
  subst hsz
  have hl := lv_entry av hlen
  rw [lg_entry_eq]
  exact body p e s m below meth c _ ⟨B.exec, B.bytes, hml, hown, fun w h => hts0 w (List.mem_cons_of_mem _ h), B.returns, B.notSynchronized, hK, hN⟩ ⟨hP, va_D_afr hD0 hn, va_S.rf⟩ hl
/-- the place of a letter among the letters, or -1 -/
def ixOf (x : Int32) : Int32 := if x = 102 then 0 else if x = 104 then 1 else if x = 107 then 2 else if x = 119 then 3 else if x = 109 then 4 else if x = 108 then 5 else if x = 97 then 6 else if x = 115 then 7 else if x = 100 then 8 else -1
