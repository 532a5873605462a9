-- from the entry to the end
/-! THE CLAIM OUT OF ONE WALK OF THE LAW'S BODY. Your part is whole_start (and what it stands on); all else here is the same for every law, but numbers. -/
def R_law : String := "StoneVaultLaw"
def lw_P (b : Addr) (xs : List Int32) (args : Array Value) (s : State) : Prop := args = #[.ref b] ∧ s.IntsAt b xs ∧ xs.length ≤ 3072 ∧ (Jvm.Cond.and given_1 narrow_1).before args s = true
def lw_Q (_ : Array Value) (s : State) (o : Outcome) (t : State) : Prop := o = .returned (some (.int 1)) ∧ Framed s o t [] 600000 7302250
def lw_Z (below : List Frame) (a : Array Value) (s : State) : State → Prop := fun t => ∃ o, t.status = .running ∧ Ended t below o ∧ lw_Q a s o t
/-- the law's own end, with 1 on the stack, nothing written that was there before, its room as the claim has it -/
theorem lw_ret {p : Program} {l : Launch} {e : Env} {s : State} {m : MethodId} {below : List Frame} {meth : Method} {c : Code} {b : Nat} (hx : p.tables.exec = Jvm.exec) (hb : c.code = code) (hr : meth.sig.returnType = ret) (hlocks : meth.locks = false) {pc : Nat} {H : Heap} {ls : Array Slot} (hdg : decode code pc = .ok (.ireturn, 1)) : W p l e room_1 s m #[Value.ref b] below meth c H [] 600000 7302250 (lw_Z below #[Value.ref b] s) (F0 m pc ls [.int 1]) := by
  intro T hT X
  obtain ⟨fs, hret, hrun, hended, hW, hframe⟩ := X.leave (v := some (.int 1)) (hlocks := hlocks) (fun h => by rw [hr] at h; cases h)
  have hmeth' : T.vm.method? m = some meth := X.method'
  refine ⟨T.setFrames fs, ?_, .returned (some (.int 1)), hrun, hended, rfl, ⟨_, rfl⟩, hW, hframe⟩
  jvm_step X.here [X.here.top, hx, hb, hdg, hmeth', hr, ret, narrow_b1]
  (try refine ⟨rfl, ?_⟩); (try refine ⟨rfl, ?_⟩)
  first | (intro acts; rw [hret _ acts rfl rfl rfl]) | rw [hret _ _ rfl rfl rfl]
  exact Steps.refl _
/-- what holds at the law's entry: the machine, the code, the tables' words (any of lw_tbl by 'hts w (by decide +kernel)'), the script of L ints xs at the cell b, what the Statement gives of the start (any of its parts by flat_of_before) -/
def lw_At (p : Program) (s : State) (m : MethodId) (meth : Method) (c : Code) (b L : Nat) (xs : Nat → Int32) : Prop :=
  p.tables.exec = Jvm.exec ∧ c.code = code ∧ meth.sig.returnType = ret ∧ c.maxLocals = 4 ∧ s.vm.findClass R_law = some m.cls ∧ (∀ w ∈ lw_tbl, w.before #[Value.ref b] s = true) ∧ va_X b L xs s s.heap ∧ b < s.heap.size ∧ meth.locks = false ∧ (Jvm.Cond.and given_1 narrow_1).before #[Value.ref b] s = true
theorem st_part {D : va_G} {A : Nat → Prop} {a a' b : va_W} {H : Heap} (h : va_P D vwCl (a ++ b) H) (d : va_D A (a ++ b)) (is : List Nat) (hn : va_nd is = true) (hf : is.filterMap (fun i => a[i]?) = a') (hm : is.map (fun i => a[i]?) = a'.map some) : va_P D vwCl (b ++ a') H ∧ va_D A (b ++ a') := by
  have ga : ∀ (i : Nat) (x : Nat × va_E), a[i]? = some x → (a ++ b)[i]? = some x := fun i x hx => by
    rw [List.getElem?_append_left (List.getElem?_eq_some_iff.mp hx).1]; exact hx
  have gb : ∀ (i : Nat) (x : Nat × va_E), b[i]? = some x → (a ++ b)[a.length + i]? = some x := fun i x hx => by
    rw [List.getElem?_append_right (by omega), Nat.add_sub_cancel_left]; exact hx
  have pa : va_P D vwCl a H := fun k x hx => h k x (ga k x hx)
  have da : va_D A a := ⟨fun i j x y hx hy e => d.1 i j x y (ga i x hx) (ga j y hy) e, fun k x hx => d.2 k x (ga k x hx)⟩
  have db : va_D A b := ⟨fun i j x y hx hy e => by
    have := d.1 _ _ x y (gb i x hx) (gb j y hy) e
    omega, fun k x hx => d.2 _ x (gb k x hx)⟩
  have da' : va_D A a' := da.sub is hn hm
  have mem : ∀ (j : Nat) (y : Nat × va_E), a'[j]? = some y → ∃ i : Nat, a[i]? = some y := by
    intro j y hy
    have h1 : y ∈ is.filterMap (fun i => a[i]?) := by rw [hf]; exact List.mem_of_getElem? hy
    obtain ⟨i, _, h2⟩ := List.mem_filterMap.mp h1
    exact ⟨i, h2⟩
  refine ⟨va_P.app (fun k x hx => h _ x (gb k x hx)) (pa.sub is hf), va_D.app db da' (fun i j x y hx hy hxy => ?_)⟩
  obtain ⟨i2, h2⟩ := mem j y hy
  have hi2 := (List.getElem?_eq_some_iff.mp h2).1
  have := d.1 _ _ x y (gb i x hx) (ga i2 y h2) hxy
  omega
theorem aC0_fresh {cy : Nat → ClassId} {u : US} {A : Nat → Prop} {n : Nat} {s0 s1 s2 s3 s4 s5 s6 s7 s8 s9 s10 : OS} {wm : va_W} (hD : va_D A (wm ++ cellsC (aC0 u) cy s0 s1 s2 s3 s4 s5 s6 s7 s8 s9 s10)) (hA : ∀ q, A q → n ≤ q) : ∀ k, k < 67 → n ≤ aC0 u k := fun k hk => by
  have h1 : ((cellsC (aC0 u) cy s0 s1 s2 s3 s4 s5 s6 s7 s8 s9 s10).map Prod.fst)[k]? = some (aC0 u k) := by rw [fstC, List.getElem?_map, List.getElem?_range hk]; rfl
  rw [List.getElem?_map] at h1
  obtain ⟨⟨a, e⟩, h2, h3⟩ := Option.map_eq_some_iff.mp h1
  have h3 : a = aC0 u k := h3
  subst h3
  exact hA _ (hD.2 (wm.length + k) (aC0 u k, e) (by rw [List.getElem?_append_right (by omega), Nat.add_sub_cancel_left]; exact h2))
set_option maxHeartbeats 8000000 in
set_option maxRecDepth 100000 in
theorem whole_start {p : Program} {e : Env} {s : State} {m : MethodId} {below : List Frame} {meth : Method} {c : Code} (l : Launch) (hflags : l.flags = flags0) {b L : Nat} {xs : Nat → Int32} (hL : L ≤ 3072) (C0 : lw_At p s m meth c b L xs) : W p l e room_1 s m #[Value.ref b] below meth c s.heap [] 0 0 (lw_Z below #[Value.ref b] s) (entryFrame m ([Value.ref b] : List Value).toArray 4) := by
  obtain ⟨hx, hb, hr, hml, hown, htb, hX, hbl, hlk, hg⟩ := C0
  have hts : ∀ w ∈ lw_g, w.before #[Value.ref b] s = true := fun w h => htb w (List.mem_filter.mp h).1
  obtain ⟨D, cy, hK⟩ := hK_of hts
  have hN := NL_of htb hg
  have hl := lv_entry (n := 4) [Value.ref b] (Nat.le_of_ble_eq_true rfl)
  rw [lg_entry_eq]
  have hR0 := fun {pc : Nat} {H : Heap} {ls : Array Slot} (hdg : decode code pc = .ok (.ireturn, 1)) => lw_ret (p := p) (l := l) (e := e) (s := s) (m := m) (below := below) (meth := meth) (c := c) (b := b) hx hb hr hlk (pc := pc) (H := H) (ls := ls) hdg
  generalize hQ : lw_Z below #[Value.ref b] s = Q at hR0 ⊢
  obtain ⟨A, hAe⟩ : ∃ A : Nat → Prop, A = fun q => s.heap.size ≤ q := ⟨_, rfl⟩
  have hA : ∀ q : Nat, s.heap.size ≤ q → A q := fun q h => by rw [hAe]; exact h
  have hP : va_P D vwCl [] s.heap := fun k q h => (by cases k <;> cases h)
  have hD : va_D A [] := ⟨fun i j x y h => (by cases i <;> cases h), fun k q h => (by cases k <;> cases h)⟩
  have hS : va_S A s.heap s.heap [] := va_S.rf
  have hl : lv_has _ 4 [(0, .ref b)] := hl
  refine va_new (ci := 10) (fs := [.null, .null, .null, .null, .null, .null, .null, .null, .null, .int 0]) (C := RX10) (T := TX10) (N := 10) hx hb hts inX10 tyX10 tyX10_ok hown (hts _ (wd_1 (w := .classLink RL 7 RX10) (i := 20) (by decide +kernel) rfl)) (hts _ (wd_1 (w := .instantiable RX10 10) (i := 21) (by decide +kernel) rfl)) (hts _ (wd_1 (w := .initialized RX10) (i := 1) (by decide +kernel) rfl)) hK hP hD hS hA rfl (by decide) (Nat.le_of_ble_eq_true rfl) (Nat.le_of_ble_eq_true rfl) dL_law_0 (fun q_10 H hP hD hS => ?_)
  refine W.widen (k := 1) (n := 10) (Nat.le_of_ble_eq_true rfl) (Nat.le_of_ble_eq_true rfl) ?_
  refine lv_dup hx hb dL_law_3 rfl ?_
  have pg_10 := preG (av := [.ref q_10]) (N := NM) (ws := [(q_10, .inr (10, [.null, .null, .null, .null, .null, .null, .null, .null, .null, .int 0]))]) hK (fun k x hx => by have h2 : k < 1 := (List.getElem?_eq_some_iff.mp hx).1; have h3 : k = 0 := (by omega); subst h3; cases hx; exact hP _ _ (lastE _ _)) (A := A) ⟨fun i j x y hx hy _ => by have h2 : i < 1 := (List.getElem?_eq_some_iff.mp hx).1; have h3 : j < 1 := (List.getElem?_eq_some_iff.mp hy).1; omega, fun k x hx => by have h2 : k < 1 := (List.getElem?_eq_some_iff.mp hx).1; have h3 : k = 0 := (by omega); subst h3; cases hx; exact hD.2 _ _ (lastE _ _)⟩ NM_keep NM_blind
  refine ctorCall (mc := 66) (ms := 10993) (va_runI (As := []) (rest := [.ref q_10]) ⟨hx, hb, hml, hown, hts⟩ (k10 l D cy H.size q_10) (cwI 0 hts (wd_ws (wd_1 (w := .code yX10_init cX10_init 1 none) (i := 24) (by decide +kernel) rfl)) rfl rfl rfl (hts _ (wd_1 (w := .initialized RX10) (i := 1) (by decide +kernel) rfl)) (hts _ (wd_1 (w := .methodLink RL 9 yX10_init) (i := 22) (by decide +kernel) rfl)) (hts _ (wd_1 (w := .instanceMethod yX10_init) (i := 23) (by decide +kernel) rfl)) rfl (by decide +kernel) ⟨Nat.le_of_ble_eq_true rfl, Nat.le_of_ble_eq_true rfl⟩) pg_10 rfl rfl hl.1 rfl (lv_room (Nat.le_of_ble_eq_true rfl)) dL_law_4 ⟨Nat.le_of_ble_eq_true rfl, Nat.le_of_ble_eq_true rfl⟩) hP hD hS hA (fun u_10 H locs hu_10 hPn hDn hS => ?_)
  clear pg_10
  refine W.widen (k := 67) (n := 11003) (Nat.le_of_ble_eq_true rfl) (Nat.le_of_ble_eq_true rfl) ?_
  refine lv_astore_n (lv' := [(1, .ref q_10), (0, .ref b)]) hx hb dL_law_7 rfl hl (by decide) rfl (fun ls hl => ?_)
  have hP : va_P D vwCl (i10 cy u_10) H := hPn
  have hD : va_D A (i10 cy u_10) := hDn
  refine va_new (ci := 11) (fs := [.null, .int 0, .int 0, .int 0, .int 0, .int 0, .int 0, .int 0, .int 0, .int 0, .int 0, .null, .null, .null, .null, .null, .null, .null, .null, .null, .null, .null, .null, .null, .int 0, .null, .null, .null, .null, .null, .null, .null, .null, .null, .null, .null, .null, .null, .null, .null, .null, .null, .null, .int 0, .int 0, .int 0, .int 0, .int 0, .int 0, .int 0, .int 0, .int 0, .null, .int 0, .int 0, .null, .null, .null, .null, .null, .null, .null, .null, .null, .null, .null, .null, .null, .int 0, .int 0, .null, .null, .null, .null, .null, .null, .null, .null, .null, .null, .null, .null, .null, .null, .null, .null, .null, .null, .null, .int 0, .int 0, .long 0, .int 0, .int 0, .long 0]) (C := RX11) (T := TX11) (N := 95) hx hb hts inX11 tyX11 tyX11_ok hown (hts _ (wd_6 (w := .classLink RL 10 RX11) (i := 20) (by decide +kernel) rfl)) (hts _ (wd_6 (w := .instantiable RX11 95) (i := 21) (by decide +kernel) rfl)) (hts _ (wd_1 (w := .initialized RX11) (i := 12) (by decide +kernel) rfl)) hK hP hD hS hA rfl (by decide) (Nat.le_of_ble_eq_true rfl) (Nat.le_of_ble_eq_true rfl) dL_law_8 (fun q_11 H hP hD hS => ?_)
  refine W.widen (k := 68) (n := 11098) (Nat.le_of_ble_eq_true rfl) (Nat.le_of_ble_eq_true rfl) ?_
  refine lv_dup hx hb dL_law_11 rfl ?_
  have pg_11 := preG (av := [.ref q_11]) (N := NM) (ws := [(q_11, .inr (11, [.null, .int 0, .int 0, .int 0, .int 0, .int 0, .int 0, .int 0, .int 0, .int 0, .int 0, .null, .null, .null, .null, .null, .null, .null, .null, .null, .null, .null, .null, .null, .int 0, .null, .null, .null, .null, .null, .null, .null, .null, .null, .null, .null, .null, .null, .null, .null, .null, .null, .null, .int 0, .int 0, .int 0, .int 0, .int 0, .int 0, .int 0, .int 0, .int 0, .null, .int 0, .int 0, .null, .null, .null, .null, .null, .null, .null, .null, .null, .null, .null, .null, .null, .int 0, .int 0, .null, .null, .null, .null, .null, .null, .null, .null, .null, .null, .null, .null, .null, .null, .null, .null, .null, .null, .null, .int 0, .int 0, .long 0, .int 0, .int 0, .long 0]))]) hK (fun k x hx => by have h2 : k < 1 := (List.getElem?_eq_some_iff.mp hx).1; have h3 : k = 0 := (by omega); subst h3; cases hx; exact hP _ _ (lastE _ _)) (A := A) ⟨fun i j x y hx hy _ => by have h2 : i < 1 := (List.getElem?_eq_some_iff.mp hx).1; have h3 : j < 1 := (List.getElem?_eq_some_iff.mp hy).1; omega, fun k x hx => by have h2 : k < 1 := (List.getElem?_eq_some_iff.mp hx).1; have h3 : k = 0 := (by omega); subst h3; cases hx; exact hD.2 _ _ (lastE _ _)⟩ NM_keep NM_blind
  refine ctorCall (mc := 65) (ms := 36564) (va_runI (As := []) (rest := [.ref q_11]) ⟨hx, hb, hml, hown, hts⟩ (k11 l D cy H.size q_11) (cwI 0 hts (wd_ws (wd_6 (w := .code yX11_init cX11_init 2 none) (i := 24) (by decide +kernel) rfl)) rfl rfl rfl (hts _ (wd_1 (w := .initialized RX11) (i := 12) (by decide +kernel) rfl)) (hts _ (wd_6 (w := .methodLink RL 12 yX11_init) (i := 22) (by decide +kernel) rfl)) (hts _ (wd_6 (w := .instanceMethod yX11_init) (i := 23) (by decide +kernel) rfl)) rfl (by decide +kernel) ⟨Nat.le_of_ble_eq_true rfl, Nat.le_of_ble_eq_true rfl⟩) pg_11 rfl rfl hl.1 rfl (lv_room (Nat.le_of_ble_eq_true rfl)) dL_law_12 ⟨Nat.le_of_ble_eq_true rfl, Nat.le_of_ble_eq_true rfl⟩) hP hD hS hA (fun u_11 H locs hu_11 hPn hDn hS => ?_)
  clear pg_11
  refine W.widen (k := 133) (n := 47662) (Nat.le_of_ble_eq_true rfl) (Nat.le_of_ble_eq_true rfl) ?_
  refine lv_astore_n (lv' := [(2, .ref q_11), (1, .ref q_10), (0, .ref b)]) hx hb dL_law_15 rfl hl (by decide) rfl (fun ls hl => ?_)
  refine lv_iconst (v := 0) hx hb dL_law_16 (by decide) ?_
  refine lv_istore_n (lv' := [(3, .int 0), (2, .ref q_11), (1, .ref q_10), (0, .ref b)]) hx hb dL_law_17 rfl hl (by decide) rfl (fun ls hl => ?_)
  obtain ⟨hP2, hD2⟩ := st_part hPn hDn isC0 nd_C0 (fm_C0 cy u_10) (mp_C0 cy u_10)
  have hAq : ∀ q, A q → s.heap.size ≤ q := fun q h => by rw [hAe] at h; exact h
  have hC := aC0_fresh (u := u_10) (cy := cy) hD2 hAq
  subst hAe
  refine law_loop (aC := aC0 u_10) (aM := fun k => if k = 0 then u_11 11 99 else u_11 11 k) (D := D) (cy := cy) ⟨hx, hb, hml, hown, hts, hK, hX, hbl, hN, hC, hL⟩ (fun H locs ls hS => ?_) (L + 1) 0 z0 zI zI zI zI z5 z6 zI zI zI zI mInit H locs ls (by omega) rel_0 (by omega) ⟨hP2, hD2, hS⟩ ?_
  · refine lv_iconst (v := 1) hx hb dL_law_1386 (by decide) ?_
    refine va_forget (fun q hq => hS.2.2 q hq) ?_
    refine W.widen (k := 600000) (n := 7302250) (Nat.le_of_ble_eq_true rfl) (Nat.le_of_ble_eq_true rfl) ?_
    exact hR0 dL_law_1387
  · have e1 : u_10 10 99 = q_10 := hu_10
    have e2 : u_11 11 99 = q_11 := hu_11
    rw [← e1, ← e2] at hl
    exact hl
