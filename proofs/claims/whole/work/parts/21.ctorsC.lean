abbrev rmK (k mc ms : Nat) : Room := { frames := k, cells := mc, slots := ms, locals := 40 * k }
abbrev US : Type := Nat → Nat → Nat
abbrev QcK (D : va_G) (B : US → va_W) (o h : Nat) (A : Nat → Prop) : Array Value → State → Outcome → State → Prop := va_Qv (fun (u : US) => u o 99 = h) (fun u => PosG D (B u) A) A
theorem metK {l : Launch} {y : MethodName} {cc : ByteArray} {nL k mc ms o : Nat} {own : String} {D : va_G} {cy : Nat → ClassId} {h0 : Nat} {e0 : va_E} {B : US → va_W} (hy : plainName y.cls = true) (ho : y.cls = own) (hlen : (lg_sl [Value.ref h0]).length ≤ nL) (hyi : y.name = "<init>")
    (body : ∀ (p : Program) (e : Env) (s : State) (m : MethodId) (below : List Frame) (meth : Method) (c : Code) (ls : Array Slot), Cx p c cc nL s m ([.ref h0] : List Value).toArray own meth none D cy NM → meth.name = "<init>" → Wd D [(h0, e0)] (va_A [(h0, e0)] s.heap.size) s.heap s.heap [] → lv_has ls nL [(0, .ref h0)] → W p l e (rmK k mc ms) s m ([.ref h0] : List Value).toArray below meth c s.heap [] 0 0 (MQ below (QcK D B o h0 (va_A [(h0, e0)] s.heap.size)) ([.ref h0] : List Value).toArray s mc ms (va_A [(h0, e0)] s.heap.size)) (F0 m 0 ls [])) (sz : Nat) :
    Met l y (wsOf y cc nL none) (rmK k mc ms) (va_Pc [.ref h0] (PreG D cy [(h0, e0)] sz NM)) (QcK D B o h0 (va_A [(h0, e0)] sz)) mc ms (va_A [(h0, e0)] sz) := by
  refine Met.ofW (cc := cc) (maxL := nL) (ret := none) hy rfl ?_
  intro p e s m args below meth c s₁ B hml hv
  obtain ⟨rfl, hsz, hP, hK, hD0, hN⟩ := hv
  have hts0 := atoms_spec (ws := wsOf y cc nL none) B.pre
  have hown : s.vm.findClass own = some m.cls := by rw [← ho]; exact findClass_of_methodNamed B.named
  have hmn : meth.name = "<init>" := (name_of_methodNamed B.named B.method).1.trans hyi
  subst hsz
  have hl := lv_entry [Value.ref h0] hlen
  rw [lg_entry_eq]
  exact body p e s m below meth c _ ⟨B.exec, B.bytes, hml, hown, fun w h => hts0 w (List.mem_cons_of_mem _ h), B.returns, B.notSynchronized, hK, hN⟩ hmn ⟨hP, hD0.self, va_S.rf⟩ hl
section
variable {p : Program} {l : Launch} {e : Env} {R : Room} {s : State} {m : MethodId} {args : Array Value} {below : List Frame} {meth : Method} {c : Code} {H : Heap} {locs : List Loc} {Q : State → Prop} {cc : ByteArray} {pc : Nat} {ls : Array Slot} {rest : List Value} {A : Nat → Prop} {H0 : Heap} {cells slots : Nat} {D : va_G} {ad : Nat → Nat} {cy : Nat → ClassId}
theorem lastE (ws : va_W) (x : Nat × va_E) : (ws ++ [x])[ws.length]? = some x := by rw [List.getElem?_append_right (Nat.le_refl _)]; simp
theorem nw_int (hx : p.tables.exec = Jvm.exec) (hb : c.code = cc) (hts : ∀ w ∈ lw_g, w.before args s = true) (hK : va_K D vwCl (tysA cy) s) {ws : va_W} (hP : va_P D vwCl ws H) (hD : va_D A ws) (hS : va_S A H0 H locs) (hA : ∀ q, H0.size ≤ q → A q) {n : Int32} {N' : Nat} (hn : ¬ n < 0) (hN : n.toNatClampNeg = N') (hby : N' * 4 ≤ 536870912) (hcells : cells + 1 ≤ R.cells) (hslots : slots + N' ≤ R.slots) (hdg : decode cc pc = .ok (.newarray .int, 2))
    (kk : ∀ (q : Nat) (H1 : Heap), va_P D vwCl (ws ++ [(q, .inl (cy 0, N', .inl (fun _ => 0)))]) H1 → va_D A (ws ++ [(q, .inl (cy 0, N', .inl (fun _ => 0)))]) → va_S A H0 H1 locs → W p l e R s m args below meth c H1 locs (cells + 1) (slots + N') Q (F0 m (pc + 2) ls (.ref q :: rest))) : W p l e R s m args below meth c H locs cells slots Q (F0 m pc ls (.int n :: rest)) :=
  va_newa (atype := .int) (ty := .int) hx hb (hts _ (wd_1 (w := .arrayClass .int) (i := 41) (by decide +kernel) rfl)) rfl hK hP hD hS hA (a0 := (N', .inl (fun _ => 0))) (fun cA => rfl) hn hN hby hcells hslots hdg (fun q cA H1 hK1 hP1 hD1 hS1 => by
    have e1 : s.vm.findClass ("[" ++ FieldType.toString .int) = some cA := (hK1.2 5 _ rfl).2
    have e2 : s.vm.findClass ("[" ++ FieldType.toString .int) = some (cy 0) := (hK.2 0 _ rfl).2
    have e3 : cA = cy 0 := Option.some.inj (e1.symm.trans e2)
    subst e3
    exact kk q H1 hP1 hD1 hS1)
theorem nw_long (hx : p.tables.exec = Jvm.exec) (hb : c.code = cc) (hts : ∀ w ∈ lw_g, w.before args s = true) (hK : va_K D vwCl (tysA cy) s) {ws : va_W} (hP : va_P D vwCl ws H) (hD : va_D A ws) (hS : va_S A H0 H locs) (hA : ∀ q, H0.size ≤ q → A q) {n : Int32} {N' : Nat} (hn : ¬ n < 0) (hN : n.toNatClampNeg = N') (hby : N' * 8 ≤ 536870912) (hcells : cells + 1 ≤ R.cells) (hslots : slots + N' ≤ R.slots) (hdg : decode cc pc = .ok (.newarray .long, 2))
    (kk : ∀ (q : Nat) (H1 : Heap), va_P D vwCl (ws ++ [(q, .inl (cy 1, N', .inr (.inl (fun _ => 0))))]) H1 → va_D A (ws ++ [(q, .inl (cy 1, N', .inr (.inl (fun _ => 0))))]) → va_S A H0 H1 locs → W p l e R s m args below meth c H1 locs (cells + 1) (slots + N') Q (F0 m (pc + 2) ls (.ref q :: rest))) : W p l e R s m args below meth c H locs cells slots Q (F0 m pc ls (.int n :: rest)) :=
  va_newa (atype := .long) (ty := .long) hx hb (hts _ (wd_1 (w := .arrayClass .long) (i := 75) (by decide +kernel) rfl)) rfl hK hP hD hS hA (a0 := (N', .inr (.inl (fun _ => 0)))) (fun cA => rfl) hn hN hby hcells hslots hdg (fun q cA H1 hK1 hP1 hD1 hS1 => by
    have e1 : s.vm.findClass ("[" ++ FieldType.toString .long) = some cA := (hK1.2 5 _ rfl).2
    have e2 : s.vm.findClass ("[" ++ FieldType.toString .long) = some (cy 1) := (hK.2 1 _ rfl).2
    have e3 : cA = cy 1 := Option.some.inj (e1.symm.trans e2)
    subst e3
    exact kk q H1 hP1 hD1 hS1)
theorem nw_boolean (hx : p.tables.exec = Jvm.exec) (hb : c.code = cc) (hts : ∀ w ∈ lw_g, w.before args s = true) (hK : va_K D vwCl (tysA cy) s) {ws : va_W} (hP : va_P D vwCl ws H) (hD : va_D A ws) (hS : va_S A H0 H locs) (hA : ∀ q, H0.size ≤ q → A q) {n : Int32} {N' : Nat} (hn : ¬ n < 0) (hN : n.toNatClampNeg = N') (hby : N' * 1 ≤ 536870912) (hcells : cells + 1 ≤ R.cells) (hslots : slots + N' ≤ R.slots) (hdg : decode cc pc = .ok (.newarray .boolean, 2))
    (kk : ∀ (q : Nat) (H1 : Heap), va_P D vwCl (ws ++ [(q, .inl (cy 2, N', .inl (fun _ => 0)))]) H1 → va_D A (ws ++ [(q, .inl (cy 2, N', .inl (fun _ => 0)))]) → va_S A H0 H1 locs → W p l e R s m args below meth c H1 locs (cells + 1) (slots + N') Q (F0 m (pc + 2) ls (.ref q :: rest))) : W p l e R s m args below meth c H locs cells slots Q (F0 m pc ls (.int n :: rest)) :=
  va_newa (atype := .boolean) (ty := .boolean) hx hb (hts _ (wd_1 (w := .arrayClass .boolean) (i := 74) (by decide +kernel) rfl)) rfl hK hP hD hS hA (a0 := (N', .inl (fun _ => 0))) (fun cA => rfl) hn hN hby hcells hslots hdg (fun q cA H1 hK1 hP1 hD1 hS1 => by
    have e1 : s.vm.findClass ("[" ++ FieldType.toString .boolean) = some cA := (hK1.2 5 _ rfl).2
    have e2 : s.vm.findClass ("[" ++ FieldType.toString .boolean) = some (cy 2) := (hK.2 2 _ rfl).2
    have e3 : cA = cy 2 := Option.some.inj (e1.symm.trans e2)
    subst e3
    exact kk q H1 hP1 hD1 hS1)
theorem nw_char (hx : p.tables.exec = Jvm.exec) (hb : c.code = cc) (hts : ∀ w ∈ lw_g, w.before args s = true) (hK : va_K D vwCl (tysA cy) s) {ws : va_W} (hP : va_P D vwCl ws H) (hD : va_D A ws) (hS : va_S A H0 H locs) (hA : ∀ q, H0.size ≤ q → A q) {n : Int32} {N' : Nat} (hn : ¬ n < 0) (hN : n.toNatClampNeg = N') (hby : N' * 2 ≤ 536870912) (hcells : cells + 1 ≤ R.cells) (hslots : slots + N' ≤ R.slots) (hdg : decode cc pc = .ok (.newarray .char, 2))
    (kk : ∀ (q : Nat) (H1 : Heap), va_P D vwCl (ws ++ [(q, .inl (cy 3, N', .inl (fun _ => 0)))]) H1 → va_D A (ws ++ [(q, .inl (cy 3, N', .inl (fun _ => 0)))]) → va_S A H0 H1 locs → W p l e R s m args below meth c H1 locs (cells + 1) (slots + N') Q (F0 m (pc + 2) ls (.ref q :: rest))) : W p l e R s m args below meth c H locs cells slots Q (F0 m pc ls (.int n :: rest)) :=
  va_newa (atype := .char) (ty := .char) hx hb (hts _ (wd_1 (w := .arrayClass .char) (i := 42) (by decide +kernel) rfl)) rfl hK hP hD hS hA (a0 := (N', .inl (fun _ => 0))) (fun cA => rfl) hn hN hby hcells hslots hdg (fun q cA H1 hK1 hP1 hD1 hS1 => by
    have e1 : s.vm.findClass ("[" ++ FieldType.toString .char) = some cA := (hK1.2 5 _ rfl).2
    have e2 : s.vm.findClass ("[" ++ FieldType.toString .char) = some (cy 3) := (hK.2 3 _ rfl).2
    have e3 : cA = cy 3 := Option.some.inj (e1.symm.trans e2)
    subst e3
    exact kk q H1 hP1 hD1 hS1)
theorem nw_byte (hx : p.tables.exec = Jvm.exec) (hb : c.code = cc) (hts : ∀ w ∈ lw_g, w.before args s = true) (hK : va_K D vwCl (tysA cy) s) {ws : va_W} (hP : va_P D vwCl ws H) (hD : va_D A ws) (hS : va_S A H0 H locs) (hA : ∀ q, H0.size ≤ q → A q) {n : Int32} {N' : Nat} (hn : ¬ n < 0) (hN : n.toNatClampNeg = N') (hby : N' * 1 ≤ 536870912) (hcells : cells + 1 ≤ R.cells) (hslots : slots + N' ≤ R.slots) (hdg : decode cc pc = .ok (.newarray .byte, 2))
    (kk : ∀ (q : Nat) (H1 : Heap), va_P D vwCl (ws ++ [(q, .inl (cy 4, N', .inl (fun _ => 0)))]) H1 → va_D A (ws ++ [(q, .inl (cy 4, N', .inl (fun _ => 0)))]) → va_S A H0 H1 locs → W p l e R s m args below meth c H1 locs (cells + 1) (slots + N') Q (F0 m (pc + 2) ls (.ref q :: rest))) : W p l e R s m args below meth c H locs cells slots Q (F0 m pc ls (.int n :: rest)) :=
  va_newa (atype := .byte) (ty := .byte) hx hb (hts _ (wd_4 (w := .arrayClass .byte) (i := 17) (by decide +kernel) rfl)) rfl hK hP hD hS hA (a0 := (N', .inl (fun _ => 0))) (fun cA => rfl) hn hN hby hcells hslots hdg (fun q cA H1 hK1 hP1 hD1 hS1 => by
    have e1 : s.vm.findClass ("[" ++ FieldType.toString .byte) = some cA := (hK1.2 5 _ rfl).2
    have e2 : s.vm.findClass ("[" ++ FieldType.toString .byte) = some (cy 4) := (hK.2 4 _ rfl).2
    have e3 : cA = cy 4 := Option.some.inj (e1.symm.trans e2)
    subst e3
    exact kk q H1 hP1 hD1 hS1)
theorem ctorJoin {A0 : Nat → Prop} {ws w1 : va_W} {q : Nat} {e0 : va_E} {H H1 : Heap} (hP : va_P D vwCl (ws ++ [(q, e0)]) H) (hD : va_D A0 (ws ++ [(q, e0)])) (hk : ∀ x : Nat, x < H.size → ¬ va_A [(q, e0)] H.size x → H1[x]? = H[x]?) (hF : ∀ x, va_A [(q, e0)] H.size x → A0 x) (hP1 : va_P D vwCl w1 H1) (hD1 : va_D (va_A [(q, e0)] H.size) w1) : va_P D vwCl (ws ++ w1) H1 ∧ va_D A0 (ws ++ w1) := by
  have hin : ∀ (k : Nat) (x : Nat × va_E), ws[k]? = some x → (ws ++ [(q, e0)])[k]? = some x := fun k x hx => by
    rw [List.getElem?_append_left (List.getElem?_eq_some_iff.mp hx).1]; exact hx
  have apart : ∀ (k : Nat) (x : Nat × va_E), ws[k]? = some x → x.1 < H.size ∧ ¬ va_A [(q, e0)] H.size x.1 := by
    intro k x hx
    have hl := (hP k x (hin k x hx)).lt
    refine ⟨hl, fun h => ?_⟩
    rcases h with ⟨k2, e2, h⟩ | h
    · have h2 : k2 < 1 := (List.getElem?_eq_some_iff.mp h).1
      have h3 : k2 = 0 := by omega
      subst h3
      cases h
      have hkl : k < ws.length := (List.getElem?_eq_some_iff.mp hx).1
      have := hD.1 k ws.length x (x.1, e0) (hin k x hx) (by rw [List.getElem?_append_right (Nat.le_refl _)]; simp) rfl
      omega
    · omega
  refine ⟨va_P.app (fun k x hx => ?_) hP1, va_D.app ⟨fun i j x y hx hy e => hD.1 i j x y (hin i x hx) (hin j y hy) e, fun k x hx => hD.2 k x (hin k x hx)⟩ (hD1.weaken (fun k x _ h => hF x.1 h)) (fun i j x y hx hy hxy => ?_)⟩
  · exact (hP k x (hin k x hx)).kept (hk x.1 (apart k x hx).1 (apart k x hx).2)
  · exact (apart i x hx).2 (by rw [hxy]; exact hD1.2 j y hy)
theorem ctorCall {mc ms o : Nat} {a : Array Value} {st0 : List Value} {ws : va_W} {q : Nat} {e0 : va_E} {B : US → va_W} (hr : va_Run p l e R s m args below meth c H locs cells slots mc ms (F0 m pc ls st0) rest (QcK D B o q (va_A [(q, e0)] H.size) a) (va_A [(q, e0)] H.size)) (hP : va_P D vwCl (ws ++ [(q, e0)]) H) (hD : va_D A (ws ++ [(q, e0)])) (hS : va_S A H0 H locs) (hA : ∀ x, H0.size ≤ x → A x)
    (kk : ∀ (u : US) (H1 : Heap) (locs1 : List Loc), u o 99 = q → va_P D vwCl (ws ++ B u) H1 → va_D A (ws ++ B u) → va_S A H0 H1 locs1 → W p l e R s m args below meth c H1 locs1 (cells + mc) (slots + ms) Q (F0 m (pc + 3) ls rest)) : W p l e R s m args below meth c H locs cells slots Q (F0 m pc ls st0) := by
  have hF : ∀ x, va_A [(q, e0)] H.size x → A x := by
    intro x h
    rcases h with ⟨k2, e2, h⟩ | h
    · have h2 : k2 < 1 := (List.getElem?_eq_some_iff.mp h).1
      have h3 : k2 = 0 := by omega
      subst h3
      cases h
      exact hD.2 ws.length (q, e0) (by rw [List.getElem?_append_right (Nat.le_refl _)]; simp)
    · exact hA x (Nat.le_trans hS.1 h)
  refine va_callv hr hS (fun x _ h => hF x h) hF (fun u t H1 locs1 ht _ hu hB _ hk hS1 => ?_)
  subst ht
  obtain ⟨h1, h2⟩ := ctorJoin hP hD hk hF hB.1 hB.2
  exact kk u _ locs1 hu h1 h2 hS1
end

theorem dX8_init_0 : decode cX8_init 0 = .ok (.aload_n 0, 1) := by decide +kernel
theorem dX8_init_1 : decode cX8_init 1 = .ok (.invokespecial 1, 3) := by decide +kernel
theorem dX8_init_4 : decode cX8_init 4 = .ok (.aload_n 0, 1) := by decide +kernel
theorem dX8_init_5 : decode cX8_init 5 = .ok (.sipush 400, 3) := by decide +kernel
theorem dX8_init_8 : decode cX8_init 8 = .ok (.newarray .char, 2) := by decide +kernel
theorem dX8_init_10 : decode cX8_init 10 = .ok (.putfield 9, 3) := by decide +kernel
theorem dX8_init_13 : decode cX8_init 13 = .ok (.aload_n 0, 1) := by decide +kernel
theorem dX8_init_14 : decode cX8_init 14 = .ok (.iconst 0, 1) := by decide +kernel
theorem dX8_init_15 : decode cX8_init 15 = .ok (.putfield 13, 3) := by decide +kernel
theorem dX8_init_18 : decode cX8_init 18 = .ok (.return_, 1) := by decide +kernel
def i8 (cy : Nat → ClassId) (u : US) : va_W := [(u 8 99, .inr (8, [.ref (u 8 0), .int 0])), (u 8 0, .inl (cy 3, 400, .inl (fun _ => 0)))]
set_option maxHeartbeats 8000000 in
set_option maxRecDepth 100000 in
theorem k8 (l : Launch) (D : va_G) (cy : Nat → ClassId) (sz h0 : Nat) : Met l yX8_init (wsOf yX8_init cX8_init 1 none) (rmK 1 1 400) (va_Pc [.ref h0] (PreG D cy [(h0, .inr (8, [.null, .int 0]))] sz NM)) (QcK D (i8 cy) 8 h0 (va_A [(h0, .inr (8, [.null, .int 0]))] sz)) 1 400 (va_A [(h0, .inr (8, [.null, .int 0]))] sz) := by
  refine metK (own := RX8) (by decide) rfl (Nat.le_of_ble_eq_true rfl) rfl ?_ sz
  intro p e s m below meth c ls C0 hmn hw hl
  obtain ⟨hx, hb, hml, hown, hts, hr, hlk, hK, hN⟩ := C0
  obtain ⟨hP, hD, hS⟩ := hw
  have hA : ∀ q : Nat, s.heap.size ≤ q → va_A [(h0, .inr (8, [.null, .int 0]))] s.heap.size q := fun q h => Or.inr h
  generalize hQ : MQ below (QcK D (i8 cy) 8 h0 (va_A [(h0, .inr (8, [.null, .int 0]))] s.heap.size)) ([.ref h0] : List Value).toArray s 1 400 (va_A [(h0, .inr (8, [.null, .int 0]))] s.heap.size) = Q
  generalize hAe : va_A [(h0, .inr (8, [.null, .int 0]))] s.heap.size = A at hQ hD hS hA
  have hP : va_P D vwCl [(h0, .inr (8, [.null, .int 0]))] s.heap := hP
  refine lv_aload_n hx hb dX8_init_0 rfl (lv_at hl 0 rfl) ?_
  refine W.objInit hx hb hown (hts _ (wd_1 (w := .methodLink RX8 1 objectInit) (i := 33) (by decide +kernel) rfl)) (hts _ (wd_1 (w := .instanceMethod objectInit) (i := 26) (by decide +kernel) rfl)) (hts _ (wd_1 (w := .code objectInit ⟨#[0xb1]⟩ 1 none) (i := 27) (by decide +kernel) rfl)) rfl (by rw [hml]; exact hl.1) rfl dX8_init_1 (Nat.le_of_ble_eq_true rfl) (Nat.le_of_ble_eq_true rfl) ?_
  refine W.eq (g2 := F0 m 4 ls []) rfl ?_
  refine lv_aload_n hx hb dX8_init_4 rfl (lv_at hl 0 rfl) ?_
  refine lv_sipush (v := 400) hx hb dX8_init_5 (by decide) ?_
  refine nw_char (N' := 400) hx hb hts hK hP hD hS hA (by decide) (by decide) (Nat.le_of_ble_eq_true rfl) (Nat.le_of_ble_eq_true rfl) (Nat.le_of_ble_eq_true rfl) dX8_init_8 (fun q_8 H hP hD hS => ?_)
  have hP : va_P D vwCl ([(h0, .inr (8, [.null, .int 0])), (q_8, .inl (cy 3, 400, .inl (fun _ => 0)))]) H := hP
  have hD : va_D A ([(h0, .inr (8, [.null, .int 0])), (q_8, .inl (cy 3, 400, .inl (fun _ => 0)))]) := hD
  refine W.widen (k := 1) (n := 400) (Nat.le_of_ble_eq_true rfl) (Nat.le_of_ble_eq_true rfl) ?_
  refine va_putF (D := D) (ci := 8) (v := .ref q_8) (ty := (tyX8 0)) (C := RX8) (T := TX8) (N := 2) hx hb hts inX8 tyX8 tyX8_ok nmX8 hown hK hP hD hS 0 rfl rfl 0 (by decide) (hts _ (wd_1 (w := .fieldLink RX8 9 RX8 (TX8 0).2.1 (TX8 0).2.2.1) (i := 34) (by decide +kernel) rfl)) (fun _ h9 => h9) rfl hmn rfl (by decide +kernel) rfl rfl (Nat.le_of_ble_eq_true rfl) dX8_init_10 (fun H locs hP hD hS => ?_)
  have hP : va_P D vwCl ([(h0, .inr (8, [.ref q_8, .int 0])), (q_8, .inl (cy 3, 400, .inl (fun _ => 0)))]) H := hP
  have hD : va_D A ([(h0, .inr (8, [.ref q_8, .int 0])), (q_8, .inl (cy 3, 400, .inl (fun _ => 0)))]) := hD
  refine lv_aload_n hx hb dX8_init_13 rfl (lv_at hl 0 rfl) ?_
  refine lv_iconst (v := 0) hx hb dX8_init_14 (by decide) ?_
  refine va_put (D := D) (ci := 8) (v := .int 0) (ty := (tyX8 1)) (C := RX8) (T := TX8) (N := 2) hx hb hts inX8 tyX8 tyX8_ok nmX8 hown hK hP hD hS 0 rfl rfl 1 (by decide) (hts _ (wd_1 (w := .fieldLink RX8 13 RX8 (TX8 1).2.1 (TX8 1).2.2.1) (i := 35) (by decide +kernel) rfl)) (fun _ h9 => h9) rfl (by decide +kernel) rfl rfl (Nat.le_of_ble_eq_true rfl) dX8_init_15 (fun H locs hP hD hS => ?_)
  have hP : va_P D vwCl ([(h0, .inr (8, [.ref q_8, .int 0])), (q_8, .inl (cy 3, 400, .inl (fun _ => 0)))]) H := hP
  have hD : va_D A ([(h0, .inr (8, [.ref q_8, .int 0])), (q_8, .inl (cy 3, 400, .inl (fun _ => 0)))]) := hD
  rw [← hQ]
  exact W.vret hx hb hr (fun t ht _ => ⟨⟨(fun o j => if o = 8 then (if j = 99 then h0 else ([q_8, 0] : List Nat).getD j 0) else 0), rfl, rfl, by rw [ht]; exact hP, hD⟩, by rw [← hAe] at hS ⊢; exact hS.F ht⟩) hS.2.2 dX8_init_18 hlk
theorem dX1_init_0 : decode cX1_init 0 = .ok (.aload_n 0, 1) := by decide +kernel
theorem dX1_init_1 : decode cX1_init 1 = .ok (.invokespecial 3, 3) := by decide +kernel
theorem dX1_init_4 : decode cX1_init 4 = .ok (.aload_n 0, 1) := by decide +kernel
theorem dX1_init_5 : decode cX1_init 5 = .ok (.sipush 662, 3) := by decide +kernel
theorem dX1_init_8 : decode cX1_init 8 = .ok (.newarray .int, 2) := by decide +kernel
theorem dX1_init_10 : decode cX1_init 10 = .ok (.putfield 11, 3) := by decide +kernel
theorem dX1_init_13 : decode cX1_init 13 = .ok (.aload_n 0, 1) := by decide +kernel
theorem dX1_init_14 : decode cX1_init 14 = .ok (.sipush 662, 3) := by decide +kernel
theorem dX1_init_17 : decode cX1_init 17 = .ok (.newarray .int, 2) := by decide +kernel
theorem dX1_init_19 : decode cX1_init 19 = .ok (.putfield 15, 3) := by decide +kernel
theorem dX1_init_22 : decode cX1_init 22 = .ok (.aload_n 0, 1) := by decide +kernel
theorem dX1_init_23 : decode cX1_init 23 = .ok (.sipush 662, 3) := by decide +kernel
theorem dX1_init_26 : decode cX1_init 26 = .ok (.newarray .int, 2) := by decide +kernel
theorem dX1_init_28 : decode cX1_init 28 = .ok (.putfield 18, 3) := by decide +kernel
theorem dX1_init_31 : decode cX1_init 31 = .ok (.aload_n 0, 1) := by decide +kernel
theorem dX1_init_32 : decode cX1_init 32 = .ok (.sipush 662, 3) := by decide +kernel
theorem dX1_init_35 : decode cX1_init 35 = .ok (.newarray .int, 2) := by decide +kernel
theorem dX1_init_37 : decode cX1_init 37 = .ok (.putfield 21, 3) := by decide +kernel
theorem dX1_init_40 : decode cX1_init 40 = .ok (.aload_n 0, 1) := by decide +kernel
theorem dX1_init_41 : decode cX1_init 41 = .ok (.sipush 662, 3) := by decide +kernel
theorem dX1_init_44 : decode cX1_init 44 = .ok (.newarray .int, 2) := by decide +kernel
theorem dX1_init_46 : decode cX1_init 46 = .ok (.putfield 24, 3) := by decide +kernel
theorem dX1_init_49 : decode cX1_init 49 = .ok (.aload_n 0, 1) := by decide +kernel
theorem dX1_init_50 : decode cX1_init 50 = .ok (.iconst 0, 1) := by decide +kernel
theorem dX1_init_51 : decode cX1_init 51 = .ok (.putfield 27, 3) := by decide +kernel
theorem dX1_init_54 : decode cX1_init 54 = .ok (.return_, 1) := by decide +kernel
def i1 (cy : Nat → ClassId) (u : US) : va_W := [(u 1 99, .inr (1, [.ref (u 1 0), .ref (u 1 1), .ref (u 1 2), .ref (u 1 3), .ref (u 1 4), .int 0])), (u 1 0, .inl (cy 0, 662, .inl (fun _ => 0))), (u 1 1, .inl (cy 0, 662, .inl (fun _ => 0))), (u 1 2, .inl (cy 0, 662, .inl (fun _ => 0))), (u 1 3, .inl (cy 0, 662, .inl (fun _ => 0))), (u 1 4, .inl (cy 0, 662, .inl (fun _ => 0)))]
set_option maxHeartbeats 8000000 in
set_option maxRecDepth 100000 in
theorem k1 (l : Launch) (D : va_G) (cy : Nat → ClassId) (sz h0 : Nat) : Met l yX1_init (wsOf yX1_init cX1_init 1 none) (rmK 1 5 3310) (va_Pc [.ref h0] (PreG D cy [(h0, .inr (1, [.null, .null, .null, .null, .null, .int 0]))] sz NM)) (QcK D (i1 cy) 1 h0 (va_A [(h0, .inr (1, [.null, .null, .null, .null, .null, .int 0]))] sz)) 5 3310 (va_A [(h0, .inr (1, [.null, .null, .null, .null, .null, .int 0]))] sz) := by
  refine metK (own := RX1) (by decide) rfl (Nat.le_of_ble_eq_true rfl) rfl ?_ sz
  intro p e s m below meth c ls C0 hmn hw hl
  obtain ⟨hx, hb, hml, hown, hts, hr, hlk, hK, hN⟩ := C0
  obtain ⟨hP, hD, hS⟩ := hw
  have hA : ∀ q : Nat, s.heap.size ≤ q → va_A [(h0, .inr (1, [.null, .null, .null, .null, .null, .int 0]))] s.heap.size q := fun q h => Or.inr h
  generalize hQ : MQ below (QcK D (i1 cy) 1 h0 (va_A [(h0, .inr (1, [.null, .null, .null, .null, .null, .int 0]))] s.heap.size)) ([.ref h0] : List Value).toArray s 5 3310 (va_A [(h0, .inr (1, [.null, .null, .null, .null, .null, .int 0]))] s.heap.size) = Q
  generalize hAe : va_A [(h0, .inr (1, [.null, .null, .null, .null, .null, .int 0]))] s.heap.size = A at hQ hD hS hA
  have hP : va_P D vwCl [(h0, .inr (1, [.null, .null, .null, .null, .null, .int 0]))] s.heap := hP
  refine lv_aload_n hx hb dX1_init_0 rfl (lv_at hl 0 rfl) ?_
  refine W.objInit hx hb hown (hts _ (wd_1 (w := .methodLink RX1 3 objectInit) (i := 54) (by decide +kernel) rfl)) (hts _ (wd_1 (w := .instanceMethod objectInit) (i := 26) (by decide +kernel) rfl)) (hts _ (wd_1 (w := .code objectInit ⟨#[0xb1]⟩ 1 none) (i := 27) (by decide +kernel) rfl)) rfl (by rw [hml]; exact hl.1) rfl dX1_init_1 (Nat.le_of_ble_eq_true rfl) (Nat.le_of_ble_eq_true rfl) ?_
  refine W.eq (g2 := F0 m 4 ls []) rfl ?_
  refine lv_aload_n hx hb dX1_init_4 rfl (lv_at hl 0 rfl) ?_
  refine lv_sipush (v := 662) hx hb dX1_init_5 (by decide) ?_
  refine nw_int (N' := 662) hx hb hts hK hP hD hS hA (by decide) (by decide) (Nat.le_of_ble_eq_true rfl) (Nat.le_of_ble_eq_true rfl) (Nat.le_of_ble_eq_true rfl) dX1_init_8 (fun q_8 H hP hD hS => ?_)
  have hP : va_P D vwCl ([(h0, .inr (1, [.null, .null, .null, .null, .null, .int 0])), (q_8, .inl (cy 0, 662, .inl (fun _ => 0)))]) H := hP
  have hD : va_D A ([(h0, .inr (1, [.null, .null, .null, .null, .null, .int 0])), (q_8, .inl (cy 0, 662, .inl (fun _ => 0)))]) := hD
  refine W.widen (k := 1) (n := 662) (Nat.le_of_ble_eq_true rfl) (Nat.le_of_ble_eq_true rfl) ?_
  refine va_putF (D := D) (ci := 1) (v := .ref q_8) (ty := (tyX1 0)) (C := RX1) (T := TX1) (N := 6) hx hb hts inX1 tyX1 tyX1_ok nmX1 hown hK hP hD hS 0 rfl rfl 0 (by decide) (hts _ (wd_1 (w := .fieldLink RX1 11 RX1 (TX1 0).2.1 (TX1 0).2.2.1) (i := 55) (by decide +kernel) rfl)) (fun _ h9 => h9) rfl hmn rfl (by decide +kernel) rfl rfl (Nat.le_of_ble_eq_true rfl) dX1_init_10 (fun H locs hP hD hS => ?_)
  have hP : va_P D vwCl ([(h0, .inr (1, [.ref q_8, .null, .null, .null, .null, .int 0])), (q_8, .inl (cy 0, 662, .inl (fun _ => 0)))]) H := hP
  have hD : va_D A ([(h0, .inr (1, [.ref q_8, .null, .null, .null, .null, .int 0])), (q_8, .inl (cy 0, 662, .inl (fun _ => 0)))]) := hD
  refine lv_aload_n hx hb dX1_init_13 rfl (lv_at hl 0 rfl) ?_
  refine lv_sipush (v := 662) hx hb dX1_init_14 (by decide) ?_
  refine nw_int (N' := 662) hx hb hts hK hP hD hS hA (by decide) (by decide) (Nat.le_of_ble_eq_true rfl) (Nat.le_of_ble_eq_true rfl) (Nat.le_of_ble_eq_true rfl) dX1_init_17 (fun q_17 H hP hD hS => ?_)
  have hP : va_P D vwCl ([(h0, .inr (1, [.ref q_8, .null, .null, .null, .null, .int 0])), (q_8, .inl (cy 0, 662, .inl (fun _ => 0))), (q_17, .inl (cy 0, 662, .inl (fun _ => 0)))]) H := hP
  have hD : va_D A ([(h0, .inr (1, [.ref q_8, .null, .null, .null, .null, .int 0])), (q_8, .inl (cy 0, 662, .inl (fun _ => 0))), (q_17, .inl (cy 0, 662, .inl (fun _ => 0)))]) := hD
  refine W.widen (k := 2) (n := 1324) (Nat.le_of_ble_eq_true rfl) (Nat.le_of_ble_eq_true rfl) ?_
  refine va_putF (D := D) (ci := 1) (v := .ref q_17) (ty := (tyX1 1)) (C := RX1) (T := TX1) (N := 6) hx hb hts inX1 tyX1 tyX1_ok nmX1 hown hK hP hD hS 0 rfl rfl 1 (by decide) (hts _ (wd_1 (w := .fieldLink RX1 15 RX1 (TX1 1).2.1 (TX1 1).2.2.1) (i := 56) (by decide +kernel) rfl)) (fun _ h9 => h9) rfl hmn rfl (by decide +kernel) rfl rfl (Nat.le_of_ble_eq_true rfl) dX1_init_19 (fun H locs hP hD hS => ?_)
  have hP : va_P D vwCl ([(h0, .inr (1, [.ref q_8, .ref q_17, .null, .null, .null, .int 0])), (q_8, .inl (cy 0, 662, .inl (fun _ => 0))), (q_17, .inl (cy 0, 662, .inl (fun _ => 0)))]) H := hP
  have hD : va_D A ([(h0, .inr (1, [.ref q_8, .ref q_17, .null, .null, .null, .int 0])), (q_8, .inl (cy 0, 662, .inl (fun _ => 0))), (q_17, .inl (cy 0, 662, .inl (fun _ => 0)))]) := hD
  refine lv_aload_n hx hb dX1_init_22 rfl (lv_at hl 0 rfl) ?_
  refine lv_sipush (v := 662) hx hb dX1_init_23 (by decide) ?_
  refine nw_int (N' := 662) hx hb hts hK hP hD hS hA (by decide) (by decide) (Nat.le_of_ble_eq_true rfl) (Nat.le_of_ble_eq_true rfl) (Nat.le_of_ble_eq_true rfl) dX1_init_26 (fun q_26 H hP hD hS => ?_)
  have hP : va_P D vwCl ([(h0, .inr (1, [.ref q_8, .ref q_17, .null, .null, .null, .int 0])), (q_8, .inl (cy 0, 662, .inl (fun _ => 0))), (q_17, .inl (cy 0, 662, .inl (fun _ => 0))), (q_26, .inl (cy 0, 662, .inl (fun _ => 0)))]) H := hP
  have hD : va_D A ([(h0, .inr (1, [.ref q_8, .ref q_17, .null, .null, .null, .int 0])), (q_8, .inl (cy 0, 662, .inl (fun _ => 0))), (q_17, .inl (cy 0, 662, .inl (fun _ => 0))), (q_26, .inl (cy 0, 662, .inl (fun _ => 0)))]) := hD
  refine W.widen (k := 3) (n := 1986) (Nat.le_of_ble_eq_true rfl) (Nat.le_of_ble_eq_true rfl) ?_
  refine va_putF (D := D) (ci := 1) (v := .ref q_26) (ty := (tyX1 2)) (C := RX1) (T := TX1) (N := 6) hx hb hts inX1 tyX1 tyX1_ok nmX1 hown hK hP hD hS 0 rfl rfl 2 (by decide) (hts _ (wd_1 (w := .fieldLink RX1 18 RX1 (TX1 2).2.1 (TX1 2).2.2.1) (i := 57) (by decide +kernel) rfl)) (fun _ h9 => h9) rfl hmn rfl (by decide +kernel) rfl rfl (Nat.le_of_ble_eq_true rfl) dX1_init_28 (fun H locs hP hD hS => ?_)
  have hP : va_P D vwCl ([(h0, .inr (1, [.ref q_8, .ref q_17, .ref q_26, .null, .null, .int 0])), (q_8, .inl (cy 0, 662, .inl (fun _ => 0))), (q_17, .inl (cy 0, 662, .inl (fun _ => 0))), (q_26, .inl (cy 0, 662, .inl (fun _ => 0)))]) H := hP
  have hD : va_D A ([(h0, .inr (1, [.ref q_8, .ref q_17, .ref q_26, .null, .null, .int 0])), (q_8, .inl (cy 0, 662, .inl (fun _ => 0))), (q_17, .inl (cy 0, 662, .inl (fun _ => 0))), (q_26, .inl (cy 0, 662, .inl (fun _ => 0)))]) := hD
  refine lv_aload_n hx hb dX1_init_31 rfl (lv_at hl 0 rfl) ?_
  refine lv_sipush (v := 662) hx hb dX1_init_32 (by decide) ?_
  refine nw_int (N' := 662) hx hb hts hK hP hD hS hA (by decide) (by decide) (Nat.le_of_ble_eq_true rfl) (Nat.le_of_ble_eq_true rfl) (Nat.le_of_ble_eq_true rfl) dX1_init_35 (fun q_35 H hP hD hS => ?_)
  have hP : va_P D vwCl ([(h0, .inr (1, [.ref q_8, .ref q_17, .ref q_26, .null, .null, .int 0])), (q_8, .inl (cy 0, 662, .inl (fun _ => 0))), (q_17, .inl (cy 0, 662, .inl (fun _ => 0))), (q_26, .inl (cy 0, 662, .inl (fun _ => 0))), (q_35, .inl (cy 0, 662, .inl (fun _ => 0)))]) H := hP
  have hD : va_D A ([(h0, .inr (1, [.ref q_8, .ref q_17, .ref q_26, .null, .null, .int 0])), (q_8, .inl (cy 0, 662, .inl (fun _ => 0))), (q_17, .inl (cy 0, 662, .inl (fun _ => 0))), (q_26, .inl (cy 0, 662, .inl (fun _ => 0))), (q_35, .inl (cy 0, 662, .inl (fun _ => 0)))]) := hD
  refine W.widen (k := 4) (n := 2648) (Nat.le_of_ble_eq_true rfl) (Nat.le_of_ble_eq_true rfl) ?_
  refine va_putF (D := D) (ci := 1) (v := .ref q_35) (ty := (tyX1 3)) (C := RX1) (T := TX1) (N := 6) hx hb hts inX1 tyX1 tyX1_ok nmX1 hown hK hP hD hS 0 rfl rfl 3 (by decide) (hts _ (wd_1 (w := .fieldLink RX1 21 RX1 (TX1 3).2.1 (TX1 3).2.2.1) (i := 58) (by decide +kernel) rfl)) (fun _ h9 => h9) rfl hmn rfl (by decide +kernel) rfl rfl (Nat.le_of_ble_eq_true rfl) dX1_init_37 (fun H locs hP hD hS => ?_)
  have hP : va_P D vwCl ([(h0, .inr (1, [.ref q_8, .ref q_17, .ref q_26, .ref q_35, .null, .int 0])), (q_8, .inl (cy 0, 662, .inl (fun _ => 0))), (q_17, .inl (cy 0, 662, .inl (fun _ => 0))), (q_26, .inl (cy 0, 662, .inl (fun _ => 0))), (q_35, .inl (cy 0, 662, .inl (fun _ => 0)))]) H := hP
  have hD : va_D A ([(h0, .inr (1, [.ref q_8, .ref q_17, .ref q_26, .ref q_35, .null, .int 0])), (q_8, .inl (cy 0, 662, .inl (fun _ => 0))), (q_17, .inl (cy 0, 662, .inl (fun _ => 0))), (q_26, .inl (cy 0, 662, .inl (fun _ => 0))), (q_35, .inl (cy 0, 662, .inl (fun _ => 0)))]) := hD
  refine lv_aload_n hx hb dX1_init_40 rfl (lv_at hl 0 rfl) ?_
  refine lv_sipush (v := 662) hx hb dX1_init_41 (by decide) ?_
  refine nw_int (N' := 662) hx hb hts hK hP hD hS hA (by decide) (by decide) (Nat.le_of_ble_eq_true rfl) (Nat.le_of_ble_eq_true rfl) (Nat.le_of_ble_eq_true rfl) dX1_init_44 (fun q_44 H hP hD hS => ?_)
  have hP : va_P D vwCl ([(h0, .inr (1, [.ref q_8, .ref q_17, .ref q_26, .ref q_35, .null, .int 0])), (q_8, .inl (cy 0, 662, .inl (fun _ => 0))), (q_17, .inl (cy 0, 662, .inl (fun _ => 0))), (q_26, .inl (cy 0, 662, .inl (fun _ => 0))), (q_35, .inl (cy 0, 662, .inl (fun _ => 0))), (q_44, .inl (cy 0, 662, .inl (fun _ => 0)))]) H := hP
  have hD : va_D A ([(h0, .inr (1, [.ref q_8, .ref q_17, .ref q_26, .ref q_35, .null, .int 0])), (q_8, .inl (cy 0, 662, .inl (fun _ => 0))), (q_17, .inl (cy 0, 662, .inl (fun _ => 0))), (q_26, .inl (cy 0, 662, .inl (fun _ => 0))), (q_35, .inl (cy 0, 662, .inl (fun _ => 0))), (q_44, .inl (cy 0, 662, .inl (fun _ => 0)))]) := hD
  refine W.widen (k := 5) (n := 3310) (Nat.le_of_ble_eq_true rfl) (Nat.le_of_ble_eq_true rfl) ?_
  refine va_putF (D := D) (ci := 1) (v := .ref q_44) (ty := (tyX1 4)) (C := RX1) (T := TX1) (N := 6) hx hb hts inX1 tyX1 tyX1_ok nmX1 hown hK hP hD hS 0 rfl rfl 4 (by decide) (hts _ (wd_1 (w := .fieldLink RX1 24 RX1 (TX1 4).2.1 (TX1 4).2.2.1) (i := 59) (by decide +kernel) rfl)) (fun _ h9 => h9) rfl hmn rfl (by decide +kernel) rfl rfl (Nat.le_of_ble_eq_true rfl) dX1_init_46 (fun H locs hP hD hS => ?_)
  have hP : va_P D vwCl ([(h0, .inr (1, [.ref q_8, .ref q_17, .ref q_26, .ref q_35, .ref q_44, .int 0])), (q_8, .inl (cy 0, 662, .inl (fun _ => 0))), (q_17, .inl (cy 0, 662, .inl (fun _ => 0))), (q_26, .inl (cy 0, 662, .inl (fun _ => 0))), (q_35, .inl (cy 0, 662, .inl (fun _ => 0))), (q_44, .inl (cy 0, 662, .inl (fun _ => 0)))]) H := hP
  have hD : va_D A ([(h0, .inr (1, [.ref q_8, .ref q_17, .ref q_26, .ref q_35, .ref q_44, .int 0])), (q_8, .inl (cy 0, 662, .inl (fun _ => 0))), (q_17, .inl (cy 0, 662, .inl (fun _ => 0))), (q_26, .inl (cy 0, 662, .inl (fun _ => 0))), (q_35, .inl (cy 0, 662, .inl (fun _ => 0))), (q_44, .inl (cy 0, 662, .inl (fun _ => 0)))]) := hD
  refine lv_aload_n hx hb dX1_init_49 rfl (lv_at hl 0 rfl) ?_
  refine lv_iconst (v := 0) hx hb dX1_init_50 (by decide) ?_
  refine va_put (D := D) (ci := 1) (v := .int 0) (ty := (tyX1 5)) (C := RX1) (T := TX1) (N := 6) hx hb hts inX1 tyX1 tyX1_ok nmX1 hown hK hP hD hS 0 rfl rfl 5 (by decide) (hts _ (wd_1 (w := .fieldLink RX1 27 RX1 (TX1 5).2.1 (TX1 5).2.2.1) (i := 60) (by decide +kernel) rfl)) (fun _ h9 => h9) rfl (by decide +kernel) rfl rfl (Nat.le_of_ble_eq_true rfl) dX1_init_51 (fun H locs hP hD hS => ?_)
  have hP : va_P D vwCl ([(h0, .inr (1, [.ref q_8, .ref q_17, .ref q_26, .ref q_35, .ref q_44, .int 0])), (q_8, .inl (cy 0, 662, .inl (fun _ => 0))), (q_17, .inl (cy 0, 662, .inl (fun _ => 0))), (q_26, .inl (cy 0, 662, .inl (fun _ => 0))), (q_35, .inl (cy 0, 662, .inl (fun _ => 0))), (q_44, .inl (cy 0, 662, .inl (fun _ => 0)))]) H := hP
  have hD : va_D A ([(h0, .inr (1, [.ref q_8, .ref q_17, .ref q_26, .ref q_35, .ref q_44, .int 0])), (q_8, .inl (cy 0, 662, .inl (fun _ => 0))), (q_17, .inl (cy 0, 662, .inl (fun _ => 0))), (q_26, .inl (cy 0, 662, .inl (fun _ => 0))), (q_35, .inl (cy 0, 662, .inl (fun _ => 0))), (q_44, .inl (cy 0, 662, .inl (fun _ => 0)))]) := hD
  rw [← hQ]
  exact W.vret hx hb hr (fun t ht _ => ⟨⟨(fun o j => if o = 1 then (if j = 99 then h0 else ([q_8, q_17, q_26, q_35, q_44, 0] : List Nat).getD j 0) else 0), rfl, rfl, by rw [ht]; exact hP, hD⟩, by rw [← hAe] at hS ⊢; exact hS.F ht⟩) hS.2.2 dX1_init_54 hlk
theorem dX4_init_0 : decode cX4_init 0 = .ok (.aload_n 0, 1) := by decide +kernel
theorem dX4_init_1 : decode cX4_init 1 = .ok (.invokespecial 3, 3) := by decide +kernel
theorem dX4_init_4 : decode cX4_init 4 = .ok (.aload_n 0, 1) := by decide +kernel
theorem dX4_init_5 : decode cX4_init 5 = .ok (.sipush 150, 3) := by decide +kernel
theorem dX4_init_8 : decode cX4_init 8 = .ok (.newarray .int, 2) := by decide +kernel
theorem dX4_init_10 : decode cX4_init 10 = .ok (.putfield 9, 3) := by decide +kernel
theorem dX4_init_13 : decode cX4_init 13 = .ok (.aload_n 0, 1) := by decide +kernel
theorem dX4_init_14 : decode cX4_init 14 = .ok (.sipush 150, 3) := by decide +kernel
theorem dX4_init_17 : decode cX4_init 17 = .ok (.newarray .int, 2) := by decide +kernel
theorem dX4_init_19 : decode cX4_init 19 = .ok (.putfield 15, 3) := by decide +kernel
theorem dX4_init_22 : decode cX4_init 22 = .ok (.aload_n 0, 1) := by decide +kernel
theorem dX4_init_23 : decode cX4_init 23 = .ok (.sipush 150, 3) := by decide +kernel
theorem dX4_init_26 : decode cX4_init 26 = .ok (.newarray .int, 2) := by decide +kernel
theorem dX4_init_28 : decode cX4_init 28 = .ok (.putfield 18, 3) := by decide +kernel
theorem dX4_init_31 : decode cX4_init 31 = .ok (.aload_n 0, 1) := by decide +kernel
theorem dX4_init_32 : decode cX4_init 32 = .ok (.sipush 150, 3) := by decide +kernel
theorem dX4_init_35 : decode cX4_init 35 = .ok (.newarray .int, 2) := by decide +kernel
theorem dX4_init_37 : decode cX4_init 37 = .ok (.putfield 21, 3) := by decide +kernel
theorem dX4_init_40 : decode cX4_init 40 = .ok (.aload_n 0, 1) := by decide +kernel
theorem dX4_init_41 : decode cX4_init 41 = .ok (.sipush 150, 3) := by decide +kernel
theorem dX4_init_44 : decode cX4_init 44 = .ok (.newarray .int, 2) := by decide +kernel
theorem dX4_init_46 : decode cX4_init 46 = .ok (.putfield 24, 3) := by decide +kernel
theorem dX4_init_49 : decode cX4_init 49 = .ok (.aload_n 0, 1) := by decide +kernel
theorem dX4_init_50 : decode cX4_init 50 = .ok (.sipush 150, 3) := by decide +kernel
theorem dX4_init_53 : decode cX4_init 53 = .ok (.newarray .int, 2) := by decide +kernel
theorem dX4_init_55 : decode cX4_init 55 = .ok (.putfield 27, 3) := by decide +kernel
theorem dX4_init_58 : decode cX4_init 58 = .ok (.aload_n 0, 1) := by decide +kernel
theorem dX4_init_59 : decode cX4_init 59 = .ok (.sipush 150, 3) := by decide +kernel
theorem dX4_init_62 : decode cX4_init 62 = .ok (.newarray .int, 2) := by decide +kernel
theorem dX4_init_64 : decode cX4_init 64 = .ok (.putfield 30, 3) := by decide +kernel
theorem dX4_init_67 : decode cX4_init 67 = .ok (.aload_n 0, 1) := by decide +kernel
theorem dX4_init_68 : decode cX4_init 68 = .ok (.sipush 150, 3) := by decide +kernel
theorem dX4_init_71 : decode cX4_init 71 = .ok (.newarray .boolean, 2) := by decide +kernel
theorem dX4_init_73 : decode cX4_init 73 = .ok (.putfield 33, 3) := by decide +kernel
theorem dX4_init_76 : decode cX4_init 76 = .ok (.aload_n 0, 1) := by decide +kernel
theorem dX4_init_77 : decode cX4_init 77 = .ok (.bipush 32, 2) := by decide +kernel
theorem dX4_init_79 : decode cX4_init 79 = .ok (.newarray .long, 2) := by decide +kernel
theorem dX4_init_81 : decode cX4_init 81 = .ok (.putfield 37, 3) := by decide +kernel
theorem dX4_init_84 : decode cX4_init 84 = .ok (.aload_n 0, 1) := by decide +kernel
theorem dX4_init_85 : decode cX4_init 85 = .ok (.new 41, 3) := by decide +kernel
theorem dX4_init_88 : decode cX4_init 88 = .ok (.dup, 1) := by decide +kernel
theorem dX4_init_89 : decode cX4_init 89 = .ok (.invokespecial 43, 3) := by decide +kernel
theorem dX4_init_92 : decode cX4_init 92 = .ok (.putfield 44, 3) := by decide +kernel
theorem dX4_init_95 : decode cX4_init 95 = .ok (.aload_n 0, 1) := by decide +kernel
theorem dX4_init_96 : decode cX4_init 96 = .ok (.iconst 0, 1) := by decide +kernel
theorem dX4_init_97 : decode cX4_init 97 = .ok (.putfield 48, 3) := by decide +kernel
theorem dX4_init_100 : decode cX4_init 100 = .ok (.return_, 1) := by decide +kernel
def i4 (cy : Nat → ClassId) (u : US) : va_W := [(u 4 99, .inr (4, [.ref (u 4 0), .ref (u 4 1), .ref (u 4 2), .ref (u 4 3), .ref (u 4 4), .ref (u 4 5), .ref (u 4 6), .ref (u 4 7), .ref (u 4 8), .ref (u 1 99), .int 0])), (u 4 0, .inl (cy 0, 150, .inl (fun _ => 0))), (u 4 1, .inl (cy 0, 150, .inl (fun _ => 0))), (u 4 2, .inl (cy 0, 150, .inl (fun _ => 0))), (u 4 3, .inl (cy 0, 150, .inl (fun _ => 0))), (u 4 4, .inl (cy 0, 150, .inl (fun _ => 0))), (u 4 5, .inl (cy 0, 150, .inl (fun _ => 0))), (u 4 6, .inl (cy 0, 150, .inl (fun _ => 0))), (u 4 7, .inl (cy 2, 150, .inl (fun _ => 0))), (u 4 8, .inl (cy 1, 32, .inr (.inl (fun _ => 0))))] ++ i1 cy u
set_option maxHeartbeats 8000000 in
set_option maxRecDepth 100000 in
theorem k4 (l : Launch) (D : va_G) (cy : Nat → ClassId) (sz h0 : Nat) : Met l yX4_init (wsOf yX4_init cX4_init 1 none) (rmK 2 15 4548) (va_Pc [.ref h0] (PreG D cy [(h0, .inr (4, [.null, .null, .null, .null, .null, .null, .null, .null, .null, .null, .int 0]))] sz NM)) (QcK D (i4 cy) 4 h0 (va_A [(h0, .inr (4, [.null, .null, .null, .null, .null, .null, .null, .null, .null, .null, .int 0]))] sz)) 15 4548 (va_A [(h0, .inr (4, [.null, .null, .null, .null, .null, .null, .null, .null, .null, .null, .int 0]))] sz) := by
  refine metK (own := RX4) (by decide) rfl (Nat.le_of_ble_eq_true rfl) rfl ?_ sz
  intro p e s m below meth c ls C0 hmn hw hl
  obtain ⟨hx, hb, hml, hown, hts, hr, hlk, hK, hN⟩ := C0
  obtain ⟨hP, hD, hS⟩ := hw
  have hA : ∀ q : Nat, s.heap.size ≤ q → va_A [(h0, .inr (4, [.null, .null, .null, .null, .null, .null, .null, .null, .null, .null, .int 0]))] s.heap.size q := fun q h => Or.inr h
  generalize hQ : MQ below (QcK D (i4 cy) 4 h0 (va_A [(h0, .inr (4, [.null, .null, .null, .null, .null, .null, .null, .null, .null, .null, .int 0]))] s.heap.size)) ([.ref h0] : List Value).toArray s 15 4548 (va_A [(h0, .inr (4, [.null, .null, .null, .null, .null, .null, .null, .null, .null, .null, .int 0]))] s.heap.size) = Q
  generalize hAe : va_A [(h0, .inr (4, [.null, .null, .null, .null, .null, .null, .null, .null, .null, .null, .int 0]))] s.heap.size = A at hQ hD hS hA
  have hP : va_P D vwCl [(h0, .inr (4, [.null, .null, .null, .null, .null, .null, .null, .null, .null, .null, .int 0]))] s.heap := hP
  refine lv_aload_n hx hb dX4_init_0 rfl (lv_at hl 0 rfl) ?_
  refine W.objInit hx hb hown (hts _ (wd_1 (w := .methodLink RX4 3 objectInit) (i := 48) (by decide +kernel) rfl)) (hts _ (wd_1 (w := .instanceMethod objectInit) (i := 26) (by decide +kernel) rfl)) (hts _ (wd_1 (w := .code objectInit ⟨#[0xb1]⟩ 1 none) (i := 27) (by decide +kernel) rfl)) rfl (by rw [hml]; exact hl.1) rfl dX4_init_1 (Nat.le_of_ble_eq_true rfl) (Nat.le_of_ble_eq_true rfl) ?_
  refine W.eq (g2 := F0 m 4 ls []) rfl ?_
  refine lv_aload_n hx hb dX4_init_4 rfl (lv_at hl 0 rfl) ?_
  refine lv_sipush (v := 150) hx hb dX4_init_5 (by decide) ?_
  refine nw_int (N' := 150) hx hb hts hK hP hD hS hA (by decide) (by decide) (Nat.le_of_ble_eq_true rfl) (Nat.le_of_ble_eq_true rfl) (Nat.le_of_ble_eq_true rfl) dX4_init_8 (fun q_8 H hP hD hS => ?_)
  have hP : va_P D vwCl ([(h0, .inr (4, [.null, .null, .null, .null, .null, .null, .null, .null, .null, .null, .int 0])), (q_8, .inl (cy 0, 150, .inl (fun _ => 0)))]) H := hP
  have hD : va_D A ([(h0, .inr (4, [.null, .null, .null, .null, .null, .null, .null, .null, .null, .null, .int 0])), (q_8, .inl (cy 0, 150, .inl (fun _ => 0)))]) := hD
  refine W.widen (k := 1) (n := 150) (Nat.le_of_ble_eq_true rfl) (Nat.le_of_ble_eq_true rfl) ?_
  refine va_putF (D := D) (ci := 4) (v := .ref q_8) (ty := (tyX4 0)) (C := RX4) (T := TX4) (N := 11) hx hb hts inX4 tyX4 tyX4_ok nmX4 hown hK hP hD hS 0 rfl rfl 0 (by decide) (hts _ (wd_1 (w := .fieldLink RX4 9 RX4 (TX4 0).2.1 (TX4 0).2.2.1) (i := 76) (by decide +kernel) rfl)) (fun _ h9 => h9) rfl hmn rfl (by decide +kernel) rfl rfl (Nat.le_of_ble_eq_true rfl) dX4_init_10 (fun H locs hP hD hS => ?_)
  have hP : va_P D vwCl ([(h0, .inr (4, [.ref q_8, .null, .null, .null, .null, .null, .null, .null, .null, .null, .int 0])), (q_8, .inl (cy 0, 150, .inl (fun _ => 0)))]) H := hP
  have hD : va_D A ([(h0, .inr (4, [.ref q_8, .null, .null, .null, .null, .null, .null, .null, .null, .null, .int 0])), (q_8, .inl (cy 0, 150, .inl (fun _ => 0)))]) := hD
  refine lv_aload_n hx hb dX4_init_13 rfl (lv_at hl 0 rfl) ?_
  refine lv_sipush (v := 150) hx hb dX4_init_14 (by decide) ?_
  refine nw_int (N' := 150) hx hb hts hK hP hD hS hA (by decide) (by decide) (Nat.le_of_ble_eq_true rfl) (Nat.le_of_ble_eq_true rfl) (Nat.le_of_ble_eq_true rfl) dX4_init_17 (fun q_17 H hP hD hS => ?_)
  have hP : va_P D vwCl ([(h0, .inr (4, [.ref q_8, .null, .null, .null, .null, .null, .null, .null, .null, .null, .int 0])), (q_8, .inl (cy 0, 150, .inl (fun _ => 0))), (q_17, .inl (cy 0, 150, .inl (fun _ => 0)))]) H := hP
  have hD : va_D A ([(h0, .inr (4, [.ref q_8, .null, .null, .null, .null, .null, .null, .null, .null, .null, .int 0])), (q_8, .inl (cy 0, 150, .inl (fun _ => 0))), (q_17, .inl (cy 0, 150, .inl (fun _ => 0)))]) := hD
  refine W.widen (k := 2) (n := 300) (Nat.le_of_ble_eq_true rfl) (Nat.le_of_ble_eq_true rfl) ?_
  refine va_putF (D := D) (ci := 4) (v := .ref q_17) (ty := (tyX4 1)) (C := RX4) (T := TX4) (N := 11) hx hb hts inX4 tyX4 tyX4_ok nmX4 hown hK hP hD hS 0 rfl rfl 1 (by decide) (hts _ (wd_1 (w := .fieldLink RX4 15 RX4 (TX4 1).2.1 (TX4 1).2.2.1) (i := 77) (by decide +kernel) rfl)) (fun _ h9 => h9) rfl hmn rfl (by decide +kernel) rfl rfl (Nat.le_of_ble_eq_true rfl) dX4_init_19 (fun H locs hP hD hS => ?_)
  have hP : va_P D vwCl ([(h0, .inr (4, [.ref q_8, .ref q_17, .null, .null, .null, .null, .null, .null, .null, .null, .int 0])), (q_8, .inl (cy 0, 150, .inl (fun _ => 0))), (q_17, .inl (cy 0, 150, .inl (fun _ => 0)))]) H := hP
  have hD : va_D A ([(h0, .inr (4, [.ref q_8, .ref q_17, .null, .null, .null, .null, .null, .null, .null, .null, .int 0])), (q_8, .inl (cy 0, 150, .inl (fun _ => 0))), (q_17, .inl (cy 0, 150, .inl (fun _ => 0)))]) := hD
  refine lv_aload_n hx hb dX4_init_22 rfl (lv_at hl 0 rfl) ?_
  refine lv_sipush (v := 150) hx hb dX4_init_23 (by decide) ?_
  refine nw_int (N' := 150) hx hb hts hK hP hD hS hA (by decide) (by decide) (Nat.le_of_ble_eq_true rfl) (Nat.le_of_ble_eq_true rfl) (Nat.le_of_ble_eq_true rfl) dX4_init_26 (fun q_26 H hP hD hS => ?_)
  have hP : va_P D vwCl ([(h0, .inr (4, [.ref q_8, .ref q_17, .null, .null, .null, .null, .null, .null, .null, .null, .int 0])), (q_8, .inl (cy 0, 150, .inl (fun _ => 0))), (q_17, .inl (cy 0, 150, .inl (fun _ => 0))), (q_26, .inl (cy 0, 150, .inl (fun _ => 0)))]) H := hP
  have hD : va_D A ([(h0, .inr (4, [.ref q_8, .ref q_17, .null, .null, .null, .null, .null, .null, .null, .null, .int 0])), (q_8, .inl (cy 0, 150, .inl (fun _ => 0))), (q_17, .inl (cy 0, 150, .inl (fun _ => 0))), (q_26, .inl (cy 0, 150, .inl (fun _ => 0)))]) := hD
  refine W.widen (k := 3) (n := 450) (Nat.le_of_ble_eq_true rfl) (Nat.le_of_ble_eq_true rfl) ?_
  refine va_putF (D := D) (ci := 4) (v := .ref q_26) (ty := (tyX4 2)) (C := RX4) (T := TX4) (N := 11) hx hb hts inX4 tyX4 tyX4_ok nmX4 hown hK hP hD hS 0 rfl rfl 2 (by decide) (hts _ (wd_1 (w := .fieldLink RX4 18 RX4 (TX4 2).2.1 (TX4 2).2.2.1) (i := 78) (by decide +kernel) rfl)) (fun _ h9 => h9) rfl hmn rfl (by decide +kernel) rfl rfl (Nat.le_of_ble_eq_true rfl) dX4_init_28 (fun H locs hP hD hS => ?_)
  have hP : va_P D vwCl ([(h0, .inr (4, [.ref q_8, .ref q_17, .ref q_26, .null, .null, .null, .null, .null, .null, .null, .int 0])), (q_8, .inl (cy 0, 150, .inl (fun _ => 0))), (q_17, .inl (cy 0, 150, .inl (fun _ => 0))), (q_26, .inl (cy 0, 150, .inl (fun _ => 0)))]) H := hP
  have hD : va_D A ([(h0, .inr (4, [.ref q_8, .ref q_17, .ref q_26, .null, .null, .null, .null, .null, .null, .null, .int 0])), (q_8, .inl (cy 0, 150, .inl (fun _ => 0))), (q_17, .inl (cy 0, 150, .inl (fun _ => 0))), (q_26, .inl (cy 0, 150, .inl (fun _ => 0)))]) := hD
  refine lv_aload_n hx hb dX4_init_31 rfl (lv_at hl 0 rfl) ?_
  refine lv_sipush (v := 150) hx hb dX4_init_32 (by decide) ?_
  refine nw_int (N' := 150) hx hb hts hK hP hD hS hA (by decide) (by decide) (Nat.le_of_ble_eq_true rfl) (Nat.le_of_ble_eq_true rfl) (Nat.le_of_ble_eq_true rfl) dX4_init_35 (fun q_35 H hP hD hS => ?_)
  have hP : va_P D vwCl ([(h0, .inr (4, [.ref q_8, .ref q_17, .ref q_26, .null, .null, .null, .null, .null, .null, .null, .int 0])), (q_8, .inl (cy 0, 150, .inl (fun _ => 0))), (q_17, .inl (cy 0, 150, .inl (fun _ => 0))), (q_26, .inl (cy 0, 150, .inl (fun _ => 0))), (q_35, .inl (cy 0, 150, .inl (fun _ => 0)))]) H := hP
  have hD : va_D A ([(h0, .inr (4, [.ref q_8, .ref q_17, .ref q_26, .null, .null, .null, .null, .null, .null, .null, .int 0])), (q_8, .inl (cy 0, 150, .inl (fun _ => 0))), (q_17, .inl (cy 0, 150, .inl (fun _ => 0))), (q_26, .inl (cy 0, 150, .inl (fun _ => 0))), (q_35, .inl (cy 0, 150, .inl (fun _ => 0)))]) := hD
  refine W.widen (k := 4) (n := 600) (Nat.le_of_ble_eq_true rfl) (Nat.le_of_ble_eq_true rfl) ?_
  refine va_putF (D := D) (ci := 4) (v := .ref q_35) (ty := (tyX4 3)) (C := RX4) (T := TX4) (N := 11) hx hb hts inX4 tyX4 tyX4_ok nmX4 hown hK hP hD hS 0 rfl rfl 3 (by decide) (hts _ (wd_1 (w := .fieldLink RX4 21 RX4 (TX4 3).2.1 (TX4 3).2.2.1) (i := 79) (by decide +kernel) rfl)) (fun _ h9 => h9) rfl hmn rfl (by decide +kernel) rfl rfl (Nat.le_of_ble_eq_true rfl) dX4_init_37 (fun H locs hP hD hS => ?_)
  have hP : va_P D vwCl ([(h0, .inr (4, [.ref q_8, .ref q_17, .ref q_26, .ref q_35, .null, .null, .null, .null, .null, .null, .int 0])), (q_8, .inl (cy 0, 150, .inl (fun _ => 0))), (q_17, .inl (cy 0, 150, .inl (fun _ => 0))), (q_26, .inl (cy 0, 150, .inl (fun _ => 0))), (q_35, .inl (cy 0, 150, .inl (fun _ => 0)))]) H := hP
  have hD : va_D A ([(h0, .inr (4, [.ref q_8, .ref q_17, .ref q_26, .ref q_35, .null, .null, .null, .null, .null, .null, .int 0])), (q_8, .inl (cy 0, 150, .inl (fun _ => 0))), (q_17, .inl (cy 0, 150, .inl (fun _ => 0))), (q_26, .inl (cy 0, 150, .inl (fun _ => 0))), (q_35, .inl (cy 0, 150, .inl (fun _ => 0)))]) := hD
  refine lv_aload_n hx hb dX4_init_40 rfl (lv_at hl 0 rfl) ?_
  refine lv_sipush (v := 150) hx hb dX4_init_41 (by decide) ?_
  refine nw_int (N' := 150) hx hb hts hK hP hD hS hA (by decide) (by decide) (Nat.le_of_ble_eq_true rfl) (Nat.le_of_ble_eq_true rfl) (Nat.le_of_ble_eq_true rfl) dX4_init_44 (fun q_44 H hP hD hS => ?_)
  have hP : va_P D vwCl ([(h0, .inr (4, [.ref q_8, .ref q_17, .ref q_26, .ref q_35, .null, .null, .null, .null, .null, .null, .int 0])), (q_8, .inl (cy 0, 150, .inl (fun _ => 0))), (q_17, .inl (cy 0, 150, .inl (fun _ => 0))), (q_26, .inl (cy 0, 150, .inl (fun _ => 0))), (q_35, .inl (cy 0, 150, .inl (fun _ => 0))), (q_44, .inl (cy 0, 150, .inl (fun _ => 0)))]) H := hP
  have hD : va_D A ([(h0, .inr (4, [.ref q_8, .ref q_17, .ref q_26, .ref q_35, .null, .null, .null, .null, .null, .null, .int 0])), (q_8, .inl (cy 0, 150, .inl (fun _ => 0))), (q_17, .inl (cy 0, 150, .inl (fun _ => 0))), (q_26, .inl (cy 0, 150, .inl (fun _ => 0))), (q_35, .inl (cy 0, 150, .inl (fun _ => 0))), (q_44, .inl (cy 0, 150, .inl (fun _ => 0)))]) := hD
  refine W.widen (k := 5) (n := 750) (Nat.le_of_ble_eq_true rfl) (Nat.le_of_ble_eq_true rfl) ?_
  refine va_putF (D := D) (ci := 4) (v := .ref q_44) (ty := (tyX4 4)) (C := RX4) (T := TX4) (N := 11) hx hb hts inX4 tyX4 tyX4_ok nmX4 hown hK hP hD hS 0 rfl rfl 4 (by decide) (hts _ (wd_1 (w := .fieldLink RX4 24 RX4 (TX4 4).2.1 (TX4 4).2.2.1) (i := 80) (by decide +kernel) rfl)) (fun _ h9 => h9) rfl hmn rfl (by decide +kernel) rfl rfl (Nat.le_of_ble_eq_true rfl) dX4_init_46 (fun H locs hP hD hS => ?_)
  have hP : va_P D vwCl ([(h0, .inr (4, [.ref q_8, .ref q_17, .ref q_26, .ref q_35, .ref q_44, .null, .null, .null, .null, .null, .int 0])), (q_8, .inl (cy 0, 150, .inl (fun _ => 0))), (q_17, .inl (cy 0, 150, .inl (fun _ => 0))), (q_26, .inl (cy 0, 150, .inl (fun _ => 0))), (q_35, .inl (cy 0, 150, .inl (fun _ => 0))), (q_44, .inl (cy 0, 150, .inl (fun _ => 0)))]) H := hP
  have hD : va_D A ([(h0, .inr (4, [.ref q_8, .ref q_17, .ref q_26, .ref q_35, .ref q_44, .null, .null, .null, .null, .null, .int 0])), (q_8, .inl (cy 0, 150, .inl (fun _ => 0))), (q_17, .inl (cy 0, 150, .inl (fun _ => 0))), (q_26, .inl (cy 0, 150, .inl (fun _ => 0))), (q_35, .inl (cy 0, 150, .inl (fun _ => 0))), (q_44, .inl (cy 0, 150, .inl (fun _ => 0)))]) := hD
  refine lv_aload_n hx hb dX4_init_49 rfl (lv_at hl 0 rfl) ?_
  refine lv_sipush (v := 150) hx hb dX4_init_50 (by decide) ?_
  refine nw_int (N' := 150) hx hb hts hK hP hD hS hA (by decide) (by decide) (Nat.le_of_ble_eq_true rfl) (Nat.le_of_ble_eq_true rfl) (Nat.le_of_ble_eq_true rfl) dX4_init_53 (fun q_53 H hP hD hS => ?_)
  have hP : va_P D vwCl ([(h0, .inr (4, [.ref q_8, .ref q_17, .ref q_26, .ref q_35, .ref q_44, .null, .null, .null, .null, .null, .int 0])), (q_8, .inl (cy 0, 150, .inl (fun _ => 0))), (q_17, .inl (cy 0, 150, .inl (fun _ => 0))), (q_26, .inl (cy 0, 150, .inl (fun _ => 0))), (q_35, .inl (cy 0, 150, .inl (fun _ => 0))), (q_44, .inl (cy 0, 150, .inl (fun _ => 0))), (q_53, .inl (cy 0, 150, .inl (fun _ => 0)))]) H := hP
  have hD : va_D A ([(h0, .inr (4, [.ref q_8, .ref q_17, .ref q_26, .ref q_35, .ref q_44, .null, .null, .null, .null, .null, .int 0])), (q_8, .inl (cy 0, 150, .inl (fun _ => 0))), (q_17, .inl (cy 0, 150, .inl (fun _ => 0))), (q_26, .inl (cy 0, 150, .inl (fun _ => 0))), (q_35, .inl (cy 0, 150, .inl (fun _ => 0))), (q_44, .inl (cy 0, 150, .inl (fun _ => 0))), (q_53, .inl (cy 0, 150, .inl (fun _ => 0)))]) := hD
  refine W.widen (k := 6) (n := 900) (Nat.le_of_ble_eq_true rfl) (Nat.le_of_ble_eq_true rfl) ?_
  refine va_putF (D := D) (ci := 4) (v := .ref q_53) (ty := (tyX4 5)) (C := RX4) (T := TX4) (N := 11) hx hb hts inX4 tyX4 tyX4_ok nmX4 hown hK hP hD hS 0 rfl rfl 5 (by decide) (hts _ (wd_1 (w := .fieldLink RX4 27 RX4 (TX4 5).2.1 (TX4 5).2.2.1) (i := 81) (by decide +kernel) rfl)) (fun _ h9 => h9) rfl hmn rfl (by decide +kernel) rfl rfl (Nat.le_of_ble_eq_true rfl) dX4_init_55 (fun H locs hP hD hS => ?_)
  have hP : va_P D vwCl ([(h0, .inr (4, [.ref q_8, .ref q_17, .ref q_26, .ref q_35, .ref q_44, .ref q_53, .null, .null, .null, .null, .int 0])), (q_8, .inl (cy 0, 150, .inl (fun _ => 0))), (q_17, .inl (cy 0, 150, .inl (fun _ => 0))), (q_26, .inl (cy 0, 150, .inl (fun _ => 0))), (q_35, .inl (cy 0, 150, .inl (fun _ => 0))), (q_44, .inl (cy 0, 150, .inl (fun _ => 0))), (q_53, .inl (cy 0, 150, .inl (fun _ => 0)))]) H := hP
  have hD : va_D A ([(h0, .inr (4, [.ref q_8, .ref q_17, .ref q_26, .ref q_35, .ref q_44, .ref q_53, .null, .null, .null, .null, .int 0])), (q_8, .inl (cy 0, 150, .inl (fun _ => 0))), (q_17, .inl (cy 0, 150, .inl (fun _ => 0))), (q_26, .inl (cy 0, 150, .inl (fun _ => 0))), (q_35, .inl (cy 0, 150, .inl (fun _ => 0))), (q_44, .inl (cy 0, 150, .inl (fun _ => 0))), (q_53, .inl (cy 0, 150, .inl (fun _ => 0)))]) := hD
  refine lv_aload_n hx hb dX4_init_58 rfl (lv_at hl 0 rfl) ?_
  refine lv_sipush (v := 150) hx hb dX4_init_59 (by decide) ?_
  refine nw_int (N' := 150) hx hb hts hK hP hD hS hA (by decide) (by decide) (Nat.le_of_ble_eq_true rfl) (Nat.le_of_ble_eq_true rfl) (Nat.le_of_ble_eq_true rfl) dX4_init_62 (fun q_62 H hP hD hS => ?_)
  have hP : va_P D vwCl ([(h0, .inr (4, [.ref q_8, .ref q_17, .ref q_26, .ref q_35, .ref q_44, .ref q_53, .null, .null, .null, .null, .int 0])), (q_8, .inl (cy 0, 150, .inl (fun _ => 0))), (q_17, .inl (cy 0, 150, .inl (fun _ => 0))), (q_26, .inl (cy 0, 150, .inl (fun _ => 0))), (q_35, .inl (cy 0, 150, .inl (fun _ => 0))), (q_44, .inl (cy 0, 150, .inl (fun _ => 0))), (q_53, .inl (cy 0, 150, .inl (fun _ => 0))), (q_62, .inl (cy 0, 150, .inl (fun _ => 0)))]) H := hP
  have hD : va_D A ([(h0, .inr (4, [.ref q_8, .ref q_17, .ref q_26, .ref q_35, .ref q_44, .ref q_53, .null, .null, .null, .null, .int 0])), (q_8, .inl (cy 0, 150, .inl (fun _ => 0))), (q_17, .inl (cy 0, 150, .inl (fun _ => 0))), (q_26, .inl (cy 0, 150, .inl (fun _ => 0))), (q_35, .inl (cy 0, 150, .inl (fun _ => 0))), (q_44, .inl (cy 0, 150, .inl (fun _ => 0))), (q_53, .inl (cy 0, 150, .inl (fun _ => 0))), (q_62, .inl (cy 0, 150, .inl (fun _ => 0)))]) := hD
  refine W.widen (k := 7) (n := 1050) (Nat.le_of_ble_eq_true rfl) (Nat.le_of_ble_eq_true rfl) ?_
  refine va_putF (D := D) (ci := 4) (v := .ref q_62) (ty := (tyX4 6)) (C := RX4) (T := TX4) (N := 11) hx hb hts inX4 tyX4 tyX4_ok nmX4 hown hK hP hD hS 0 rfl rfl 6 (by decide) (hts _ (wd_1 (w := .fieldLink RX4 30 RX4 (TX4 6).2.1 (TX4 6).2.2.1) (i := 82) (by decide +kernel) rfl)) (fun _ h9 => h9) rfl hmn rfl (by decide +kernel) rfl rfl (Nat.le_of_ble_eq_true rfl) dX4_init_64 (fun H locs hP hD hS => ?_)
  have hP : va_P D vwCl ([(h0, .inr (4, [.ref q_8, .ref q_17, .ref q_26, .ref q_35, .ref q_44, .ref q_53, .ref q_62, .null, .null, .null, .int 0])), (q_8, .inl (cy 0, 150, .inl (fun _ => 0))), (q_17, .inl (cy 0, 150, .inl (fun _ => 0))), (q_26, .inl (cy 0, 150, .inl (fun _ => 0))), (q_35, .inl (cy 0, 150, .inl (fun _ => 0))), (q_44, .inl (cy 0, 150, .inl (fun _ => 0))), (q_53, .inl (cy 0, 150, .inl (fun _ => 0))), (q_62, .inl (cy 0, 150, .inl (fun _ => 0)))]) H := hP
  have hD : va_D A ([(h0, .inr (4, [.ref q_8, .ref q_17, .ref q_26, .ref q_35, .ref q_44, .ref q_53, .ref q_62, .null, .null, .null, .int 0])), (q_8, .inl (cy 0, 150, .inl (fun _ => 0))), (q_17, .inl (cy 0, 150, .inl (fun _ => 0))), (q_26, .inl (cy 0, 150, .inl (fun _ => 0))), (q_35, .inl (cy 0, 150, .inl (fun _ => 0))), (q_44, .inl (cy 0, 150, .inl (fun _ => 0))), (q_53, .inl (cy 0, 150, .inl (fun _ => 0))), (q_62, .inl (cy 0, 150, .inl (fun _ => 0)))]) := hD
  refine lv_aload_n hx hb dX4_init_67 rfl (lv_at hl 0 rfl) ?_
  refine lv_sipush (v := 150) hx hb dX4_init_68 (by decide) ?_
  refine nw_boolean (N' := 150) hx hb hts hK hP hD hS hA (by decide) (by decide) (Nat.le_of_ble_eq_true rfl) (Nat.le_of_ble_eq_true rfl) (Nat.le_of_ble_eq_true rfl) dX4_init_71 (fun q_71 H hP hD hS => ?_)
  have hP : va_P D vwCl ([(h0, .inr (4, [.ref q_8, .ref q_17, .ref q_26, .ref q_35, .ref q_44, .ref q_53, .ref q_62, .null, .null, .null, .int 0])), (q_8, .inl (cy 0, 150, .inl (fun _ => 0))), (q_17, .inl (cy 0, 150, .inl (fun _ => 0))), (q_26, .inl (cy 0, 150, .inl (fun _ => 0))), (q_35, .inl (cy 0, 150, .inl (fun _ => 0))), (q_44, .inl (cy 0, 150, .inl (fun _ => 0))), (q_53, .inl (cy 0, 150, .inl (fun _ => 0))), (q_62, .inl (cy 0, 150, .inl (fun _ => 0))), (q_71, .inl (cy 2, 150, .inl (fun _ => 0)))]) H := hP
  have hD : va_D A ([(h0, .inr (4, [.ref q_8, .ref q_17, .ref q_26, .ref q_35, .ref q_44, .ref q_53, .ref q_62, .null, .null, .null, .int 0])), (q_8, .inl (cy 0, 150, .inl (fun _ => 0))), (q_17, .inl (cy 0, 150, .inl (fun _ => 0))), (q_26, .inl (cy 0, 150, .inl (fun _ => 0))), (q_35, .inl (cy 0, 150, .inl (fun _ => 0))), (q_44, .inl (cy 0, 150, .inl (fun _ => 0))), (q_53, .inl (cy 0, 150, .inl (fun _ => 0))), (q_62, .inl (cy 0, 150, .inl (fun _ => 0))), (q_71, .inl (cy 2, 150, .inl (fun _ => 0)))]) := hD
  refine W.widen (k := 8) (n := 1200) (Nat.le_of_ble_eq_true rfl) (Nat.le_of_ble_eq_true rfl) ?_
  refine va_putF (D := D) (ci := 4) (v := .ref q_71) (ty := (tyX4 7)) (C := RX4) (T := TX4) (N := 11) hx hb hts inX4 tyX4 tyX4_ok nmX4 hown hK hP hD hS 0 rfl rfl 7 (by decide) (hts _ (wd_1 (w := .fieldLink RX4 33 RX4 (TX4 7).2.1 (TX4 7).2.2.1) (i := 83) (by decide +kernel) rfl)) (fun _ h9 => h9) rfl hmn rfl (by decide +kernel) rfl rfl (Nat.le_of_ble_eq_true rfl) dX4_init_73 (fun H locs hP hD hS => ?_)
  have hP : va_P D vwCl ([(h0, .inr (4, [.ref q_8, .ref q_17, .ref q_26, .ref q_35, .ref q_44, .ref q_53, .ref q_62, .ref q_71, .null, .null, .int 0])), (q_8, .inl (cy 0, 150, .inl (fun _ => 0))), (q_17, .inl (cy 0, 150, .inl (fun _ => 0))), (q_26, .inl (cy 0, 150, .inl (fun _ => 0))), (q_35, .inl (cy 0, 150, .inl (fun _ => 0))), (q_44, .inl (cy 0, 150, .inl (fun _ => 0))), (q_53, .inl (cy 0, 150, .inl (fun _ => 0))), (q_62, .inl (cy 0, 150, .inl (fun _ => 0))), (q_71, .inl (cy 2, 150, .inl (fun _ => 0)))]) H := hP
  have hD : va_D A ([(h0, .inr (4, [.ref q_8, .ref q_17, .ref q_26, .ref q_35, .ref q_44, .ref q_53, .ref q_62, .ref q_71, .null, .null, .int 0])), (q_8, .inl (cy 0, 150, .inl (fun _ => 0))), (q_17, .inl (cy 0, 150, .inl (fun _ => 0))), (q_26, .inl (cy 0, 150, .inl (fun _ => 0))), (q_35, .inl (cy 0, 150, .inl (fun _ => 0))), (q_44, .inl (cy 0, 150, .inl (fun _ => 0))), (q_53, .inl (cy 0, 150, .inl (fun _ => 0))), (q_62, .inl (cy 0, 150, .inl (fun _ => 0))), (q_71, .inl (cy 2, 150, .inl (fun _ => 0)))]) := hD
  refine lv_aload_n hx hb dX4_init_76 rfl (lv_at hl 0 rfl) ?_
  refine lv_bipush (v := 32) hx hb dX4_init_77 (by decide) ?_
  refine nw_long (N' := 32) hx hb hts hK hP hD hS hA (by decide) (by decide) (Nat.le_of_ble_eq_true rfl) (Nat.le_of_ble_eq_true rfl) (Nat.le_of_ble_eq_true rfl) dX4_init_79 (fun q_79 H hP hD hS => ?_)
  have hP : va_P D vwCl ([(h0, .inr (4, [.ref q_8, .ref q_17, .ref q_26, .ref q_35, .ref q_44, .ref q_53, .ref q_62, .ref q_71, .null, .null, .int 0])), (q_8, .inl (cy 0, 150, .inl (fun _ => 0))), (q_17, .inl (cy 0, 150, .inl (fun _ => 0))), (q_26, .inl (cy 0, 150, .inl (fun _ => 0))), (q_35, .inl (cy 0, 150, .inl (fun _ => 0))), (q_44, .inl (cy 0, 150, .inl (fun _ => 0))), (q_53, .inl (cy 0, 150, .inl (fun _ => 0))), (q_62, .inl (cy 0, 150, .inl (fun _ => 0))), (q_71, .inl (cy 2, 150, .inl (fun _ => 0))), (q_79, .inl (cy 1, 32, .inr (.inl (fun _ => 0))))]) H := hP
  have hD : va_D A ([(h0, .inr (4, [.ref q_8, .ref q_17, .ref q_26, .ref q_35, .ref q_44, .ref q_53, .ref q_62, .ref q_71, .null, .null, .int 0])), (q_8, .inl (cy 0, 150, .inl (fun _ => 0))), (q_17, .inl (cy 0, 150, .inl (fun _ => 0))), (q_26, .inl (cy 0, 150, .inl (fun _ => 0))), (q_35, .inl (cy 0, 150, .inl (fun _ => 0))), (q_44, .inl (cy 0, 150, .inl (fun _ => 0))), (q_53, .inl (cy 0, 150, .inl (fun _ => 0))), (q_62, .inl (cy 0, 150, .inl (fun _ => 0))), (q_71, .inl (cy 2, 150, .inl (fun _ => 0))), (q_79, .inl (cy 1, 32, .inr (.inl (fun _ => 0))))]) := hD
  refine W.widen (k := 9) (n := 1232) (Nat.le_of_ble_eq_true rfl) (Nat.le_of_ble_eq_true rfl) ?_
  refine va_putF (D := D) (ci := 4) (v := .ref q_79) (ty := (tyX4 8)) (C := RX4) (T := TX4) (N := 11) hx hb hts inX4 tyX4 tyX4_ok nmX4 hown hK hP hD hS 0 rfl rfl 8 (by decide) (hts _ (wd_1 (w := .fieldLink RX4 37 RX4 (TX4 8).2.1 (TX4 8).2.2.1) (i := 84) (by decide +kernel) rfl)) (fun _ h9 => h9) rfl hmn rfl (by decide +kernel) rfl rfl (Nat.le_of_ble_eq_true rfl) dX4_init_81 (fun H locs hP hD hS => ?_)
  have hP : va_P D vwCl ([(h0, .inr (4, [.ref q_8, .ref q_17, .ref q_26, .ref q_35, .ref q_44, .ref q_53, .ref q_62, .ref q_71, .ref q_79, .null, .int 0])), (q_8, .inl (cy 0, 150, .inl (fun _ => 0))), (q_17, .inl (cy 0, 150, .inl (fun _ => 0))), (q_26, .inl (cy 0, 150, .inl (fun _ => 0))), (q_35, .inl (cy 0, 150, .inl (fun _ => 0))), (q_44, .inl (cy 0, 150, .inl (fun _ => 0))), (q_53, .inl (cy 0, 150, .inl (fun _ => 0))), (q_62, .inl (cy 0, 150, .inl (fun _ => 0))), (q_71, .inl (cy 2, 150, .inl (fun _ => 0))), (q_79, .inl (cy 1, 32, .inr (.inl (fun _ => 0))))]) H := hP
  have hD : va_D A ([(h0, .inr (4, [.ref q_8, .ref q_17, .ref q_26, .ref q_35, .ref q_44, .ref q_53, .ref q_62, .ref q_71, .ref q_79, .null, .int 0])), (q_8, .inl (cy 0, 150, .inl (fun _ => 0))), (q_17, .inl (cy 0, 150, .inl (fun _ => 0))), (q_26, .inl (cy 0, 150, .inl (fun _ => 0))), (q_35, .inl (cy 0, 150, .inl (fun _ => 0))), (q_44, .inl (cy 0, 150, .inl (fun _ => 0))), (q_53, .inl (cy 0, 150, .inl (fun _ => 0))), (q_62, .inl (cy 0, 150, .inl (fun _ => 0))), (q_71, .inl (cy 2, 150, .inl (fun _ => 0))), (q_79, .inl (cy 1, 32, .inr (.inl (fun _ => 0))))]) := hD
  refine lv_aload_n hx hb dX4_init_84 rfl (lv_at hl 0 rfl) ?_
  refine va_new (ci := 1) (fs := [.null, .null, .null, .null, .null, .int 0]) (C := RX1) (T := TX1) (N := 6) hx hb hts inX1 tyX1 tyX1_ok hown (hts _ (wd_1 (w := .classLink RX4 41 RX1) (i := 49) (by decide +kernel) rfl)) (hts _ (wd_1 (w := .instantiable RX1 6) (i := 50) (by decide +kernel) rfl)) (hts _ (wd_1 (w := .initialized RX1) (i := 4) (by decide +kernel) rfl)) hK hP hD hS hA rfl (by decide) (Nat.le_of_ble_eq_true rfl) (Nat.le_of_ble_eq_true rfl) dX4_init_85 (fun q_85 H hP hD hS => ?_)
  refine W.widen (k := 10) (n := 1238) (Nat.le_of_ble_eq_true rfl) (Nat.le_of_ble_eq_true rfl) ?_
  refine lv_dup hx hb dX4_init_88 rfl ?_
  have pg_89 := preG (av := [.ref q_85]) (N := NM) (ws := [(q_85, .inr (1, [.null, .null, .null, .null, .null, .int 0]))]) hK (fun k x hx => by have h2 : k < 1 := (List.getElem?_eq_some_iff.mp hx).1; have h3 : k = 0 := (by omega); subst h3; cases hx; exact hP _ _ (lastE _ _)) (A := A) ⟨fun i j x y hx hy _ => by have h2 : i < 1 := (List.getElem?_eq_some_iff.mp hx).1; have h3 : j < 1 := (List.getElem?_eq_some_iff.mp hy).1; omega, fun k x hx => by have h2 : k < 1 := (List.getElem?_eq_some_iff.mp hx).1; have h3 : k = 0 := (by omega); subst h3; cases hx; exact hD.2 _ _ (lastE _ _)⟩ NM_keep NM_blind
  refine ctorCall (mc := 5) (ms := 3310) (va_runI (As := []) (rest := [.ref q_85, .ref h0]) ⟨hx, hb, hml, hown, hts⟩ (k1 l D cy H.size q_85) (cwI 0 hts (wd_ws (wd_1 (w := .code yX1_init cX1_init 1 none) (i := 53) (by decide +kernel) rfl)) rfl rfl rfl (hts _ (wd_1 (w := .initialized RX1) (i := 4) (by decide +kernel) rfl)) (hts _ (wd_1 (w := .methodLink RX4 43 yX1_init) (i := 51) (by decide +kernel) rfl)) (hts _ (wd_1 (w := .instanceMethod yX1_init) (i := 52) (by decide +kernel) rfl)) rfl (by decide +kernel) ⟨Nat.le_of_ble_eq_true rfl, Nat.le_of_ble_eq_true rfl⟩) pg_89 rfl rfl hl.1 rfl (lv_room (Nat.le_of_ble_eq_true rfl)) dX4_init_89 ⟨Nat.le_of_ble_eq_true rfl, Nat.le_of_ble_eq_true rfl⟩) hP hD hS hA (fun u_1 H locs hu_1 hPn hDn hS => ?_)
  clear pg_89
  subst hu_1
  have hP := hPn
  have hD := hDn
  refine W.widen (k := 15) (n := 4548) (Nat.le_of_ble_eq_true rfl) (Nat.le_of_ble_eq_true rfl) ?_
  refine va_putF (D := D) (ci := 4) (v := .ref (u_1 1 99)) (ty := (tyX4 9)) (C := RX4) (T := TX4) (N := 11) hx hb hts inX4 tyX4 tyX4_ok nmX4 hown hK hP hD hS 0 rfl rfl 9 (by decide) (hts _ (wd_1 (w := .fieldLink RX4 44 RX4 (TX4 9).2.1 (TX4 9).2.2.1) (i := 85) (by decide +kernel) rfl)) (fun _ h9 => h9) rfl hmn rfl (by decide +kernel) rfl rfl (Nat.le_of_ble_eq_true rfl) dX4_init_92 (fun H locs hP hD hS => ?_)
  have hP : va_P D vwCl ([(h0, .inr (4, [.ref q_8, .ref q_17, .ref q_26, .ref q_35, .ref q_44, .ref q_53, .ref q_62, .ref q_71, .ref q_79, .ref (u_1 1 99), .int 0])), (q_8, .inl (cy 0, 150, .inl (fun _ => 0))), (q_17, .inl (cy 0, 150, .inl (fun _ => 0))), (q_26, .inl (cy 0, 150, .inl (fun _ => 0))), (q_35, .inl (cy 0, 150, .inl (fun _ => 0))), (q_44, .inl (cy 0, 150, .inl (fun _ => 0))), (q_53, .inl (cy 0, 150, .inl (fun _ => 0))), (q_62, .inl (cy 0, 150, .inl (fun _ => 0))), (q_71, .inl (cy 2, 150, .inl (fun _ => 0))), (q_79, .inl (cy 1, 32, .inr (.inl (fun _ => 0))))] ++ i1 cy u_1) H := hP
  have hD : va_D A ([(h0, .inr (4, [.ref q_8, .ref q_17, .ref q_26, .ref q_35, .ref q_44, .ref q_53, .ref q_62, .ref q_71, .ref q_79, .ref (u_1 1 99), .int 0])), (q_8, .inl (cy 0, 150, .inl (fun _ => 0))), (q_17, .inl (cy 0, 150, .inl (fun _ => 0))), (q_26, .inl (cy 0, 150, .inl (fun _ => 0))), (q_35, .inl (cy 0, 150, .inl (fun _ => 0))), (q_44, .inl (cy 0, 150, .inl (fun _ => 0))), (q_53, .inl (cy 0, 150, .inl (fun _ => 0))), (q_62, .inl (cy 0, 150, .inl (fun _ => 0))), (q_71, .inl (cy 2, 150, .inl (fun _ => 0))), (q_79, .inl (cy 1, 32, .inr (.inl (fun _ => 0))))] ++ i1 cy u_1) := hD
  refine lv_aload_n hx hb dX4_init_95 rfl (lv_at hl 0 rfl) ?_
  refine lv_iconst (v := 0) hx hb dX4_init_96 (by decide) ?_
  refine va_put (D := D) (ci := 4) (v := .int 0) (ty := (tyX4 10)) (C := RX4) (T := TX4) (N := 11) hx hb hts inX4 tyX4 tyX4_ok nmX4 hown hK hP hD hS 0 rfl rfl 10 (by decide) (hts _ (wd_1 (w := .fieldLink RX4 48 RX4 (TX4 10).2.1 (TX4 10).2.2.1) (i := 86) (by decide +kernel) rfl)) (fun _ h9 => h9) rfl (by decide +kernel) rfl rfl (Nat.le_of_ble_eq_true rfl) dX4_init_97 (fun H locs hP hD hS => ?_)
  have hP : va_P D vwCl ([(h0, .inr (4, [.ref q_8, .ref q_17, .ref q_26, .ref q_35, .ref q_44, .ref q_53, .ref q_62, .ref q_71, .ref q_79, .ref (u_1 1 99), .int 0])), (q_8, .inl (cy 0, 150, .inl (fun _ => 0))), (q_17, .inl (cy 0, 150, .inl (fun _ => 0))), (q_26, .inl (cy 0, 150, .inl (fun _ => 0))), (q_35, .inl (cy 0, 150, .inl (fun _ => 0))), (q_44, .inl (cy 0, 150, .inl (fun _ => 0))), (q_53, .inl (cy 0, 150, .inl (fun _ => 0))), (q_62, .inl (cy 0, 150, .inl (fun _ => 0))), (q_71, .inl (cy 2, 150, .inl (fun _ => 0))), (q_79, .inl (cy 1, 32, .inr (.inl (fun _ => 0))))] ++ i1 cy u_1) H := hP
  have hD : va_D A ([(h0, .inr (4, [.ref q_8, .ref q_17, .ref q_26, .ref q_35, .ref q_44, .ref q_53, .ref q_62, .ref q_71, .ref q_79, .ref (u_1 1 99), .int 0])), (q_8, .inl (cy 0, 150, .inl (fun _ => 0))), (q_17, .inl (cy 0, 150, .inl (fun _ => 0))), (q_26, .inl (cy 0, 150, .inl (fun _ => 0))), (q_35, .inl (cy 0, 150, .inl (fun _ => 0))), (q_44, .inl (cy 0, 150, .inl (fun _ => 0))), (q_53, .inl (cy 0, 150, .inl (fun _ => 0))), (q_62, .inl (cy 0, 150, .inl (fun _ => 0))), (q_71, .inl (cy 2, 150, .inl (fun _ => 0))), (q_79, .inl (cy 1, 32, .inr (.inl (fun _ => 0))))] ++ i1 cy u_1) := hD
  rw [← hQ]
  exact W.vret hx hb hr (fun t ht _ => ⟨⟨(fun o j => if o = 4 then (if j = 99 then h0 else ([q_8, q_17, q_26, q_35, q_44, q_53, q_62, q_71, q_79, 0, 0] : List Nat).getD j 0) else if o = 1 then u_1 o j else 0), rfl, rfl, by rw [ht]; exact hP, hD⟩, by rw [← hAe] at hS ⊢; exact hS.F ht⟩) hS.2.2 dX4_init_100 hlk
theorem dX2_init_0 : decode cX2_init 0 = .ok (.aload_n 0, 1) := by decide +kernel
theorem dX2_init_1 : decode cX2_init 1 = .ok (.invokespecial 3, 3) := by decide +kernel
theorem dX2_init_4 : decode cX2_init 4 = .ok (.aload_n 0, 1) := by decide +kernel
theorem dX2_init_5 : decode cX2_init 5 = .ok (.bipush 20, 2) := by decide +kernel
theorem dX2_init_7 : decode cX2_init 7 = .ok (.newarray .int, 2) := by decide +kernel
theorem dX2_init_9 : decode cX2_init 9 = .ok (.putfield 11, 3) := by decide +kernel
theorem dX2_init_12 : decode cX2_init 12 = .ok (.aload_n 0, 1) := by decide +kernel
theorem dX2_init_13 : decode cX2_init 13 = .ok (.bipush 20, 2) := by decide +kernel
theorem dX2_init_15 : decode cX2_init 15 = .ok (.newarray .int, 2) := by decide +kernel
theorem dX2_init_17 : decode cX2_init 17 = .ok (.putfield 15, 3) := by decide +kernel
theorem dX2_init_20 : decode cX2_init 20 = .ok (.aload_n 0, 1) := by decide +kernel
theorem dX2_init_21 : decode cX2_init 21 = .ok (.iconst 0, 1) := by decide +kernel
theorem dX2_init_22 : decode cX2_init 22 = .ok (.putfield 18, 3) := by decide +kernel
theorem dX2_init_25 : decode cX2_init 25 = .ok (.aload_n 0, 1) := by decide +kernel
theorem dX2_init_26 : decode cX2_init 26 = .ok (.bipush 100, 2) := by decide +kernel
theorem dX2_init_28 : decode cX2_init 28 = .ok (.newarray .int, 2) := by decide +kernel
theorem dX2_init_30 : decode cX2_init 30 = .ok (.putfield 22, 3) := by decide +kernel
theorem dX2_init_33 : decode cX2_init 33 = .ok (.aload_n 0, 1) := by decide +kernel
theorem dX2_init_34 : decode cX2_init 34 = .ok (.bipush 100, 2) := by decide +kernel
theorem dX2_init_36 : decode cX2_init 36 = .ok (.newarray .int, 2) := by decide +kernel
theorem dX2_init_38 : decode cX2_init 38 = .ok (.putfield 25, 3) := by decide +kernel
theorem dX2_init_41 : decode cX2_init 41 = .ok (.aload_n 0, 1) := by decide +kernel
theorem dX2_init_42 : decode cX2_init 42 = .ok (.bipush 100, 2) := by decide +kernel
theorem dX2_init_44 : decode cX2_init 44 = .ok (.newarray .int, 2) := by decide +kernel
theorem dX2_init_46 : decode cX2_init 46 = .ok (.putfield 28, 3) := by decide +kernel
theorem dX2_init_49 : decode cX2_init 49 = .ok (.aload_n 0, 1) := by decide +kernel
theorem dX2_init_50 : decode cX2_init 50 = .ok (.bipush 100, 2) := by decide +kernel
theorem dX2_init_52 : decode cX2_init 52 = .ok (.newarray .int, 2) := by decide +kernel
theorem dX2_init_54 : decode cX2_init 54 = .ok (.putfield 31, 3) := by decide +kernel
theorem dX2_init_57 : decode cX2_init 57 = .ok (.aload_n 0, 1) := by decide +kernel
theorem dX2_init_58 : decode cX2_init 58 = .ok (.bipush 100, 2) := by decide +kernel
theorem dX2_init_60 : decode cX2_init 60 = .ok (.newarray .int, 2) := by decide +kernel
theorem dX2_init_62 : decode cX2_init 62 = .ok (.putfield 34, 3) := by decide +kernel
theorem dX2_init_65 : decode cX2_init 65 = .ok (.aload_n 0, 1) := by decide +kernel
theorem dX2_init_66 : decode cX2_init 66 = .ok (.bipush 100, 2) := by decide +kernel
theorem dX2_init_68 : decode cX2_init 68 = .ok (.newarray .int, 2) := by decide +kernel
theorem dX2_init_70 : decode cX2_init 70 = .ok (.putfield 37, 3) := by decide +kernel
theorem dX2_init_73 : decode cX2_init 73 = .ok (.aload_n 0, 1) := by decide +kernel
theorem dX2_init_74 : decode cX2_init 74 = .ok (.iconst 0, 1) := by decide +kernel
theorem dX2_init_75 : decode cX2_init 75 = .ok (.putfield 40, 3) := by decide +kernel
theorem dX2_init_78 : decode cX2_init 78 = .ok (.return_, 1) := by decide +kernel
def i2 (cy : Nat → ClassId) (u : US) : va_W := [(u 2 99, .inr (2, [.ref (u 2 0), .ref (u 2 1), .int 0, .ref (u 2 3), .ref (u 2 4), .ref (u 2 5), .ref (u 2 6), .ref (u 2 7), .ref (u 2 8), .int 0])), (u 2 0, .inl (cy 0, 20, .inl (fun _ => 0))), (u 2 1, .inl (cy 0, 20, .inl (fun _ => 0))), (u 2 3, .inl (cy 0, 100, .inl (fun _ => 0))), (u 2 4, .inl (cy 0, 100, .inl (fun _ => 0))), (u 2 5, .inl (cy 0, 100, .inl (fun _ => 0))), (u 2 6, .inl (cy 0, 100, .inl (fun _ => 0))), (u 2 7, .inl (cy 0, 100, .inl (fun _ => 0))), (u 2 8, .inl (cy 0, 100, .inl (fun _ => 0)))]
set_option maxHeartbeats 8000000 in
set_option maxRecDepth 100000 in
theorem k2 (l : Launch) (D : va_G) (cy : Nat → ClassId) (sz h0 : Nat) : Met l yX2_init (wsOf yX2_init cX2_init 1 none) (rmK 1 8 640) (va_Pc [.ref h0] (PreG D cy [(h0, .inr (2, [.null, .null, .int 0, .null, .null, .null, .null, .null, .null, .int 0]))] sz NM)) (QcK D (i2 cy) 2 h0 (va_A [(h0, .inr (2, [.null, .null, .int 0, .null, .null, .null, .null, .null, .null, .int 0]))] sz)) 8 640 (va_A [(h0, .inr (2, [.null, .null, .int 0, .null, .null, .null, .null, .null, .null, .int 0]))] sz) := by
  refine metK (own := RX2) (by decide) rfl (Nat.le_of_ble_eq_true rfl) rfl ?_ sz
  intro p e s m below meth c ls C0 hmn hw hl
  obtain ⟨hx, hb, hml, hown, hts, hr, hlk, hK, hN⟩ := C0
  obtain ⟨hP, hD, hS⟩ := hw
  have hA : ∀ q : Nat, s.heap.size ≤ q → va_A [(h0, .inr (2, [.null, .null, .int 0, .null, .null, .null, .null, .null, .null, .int 0]))] s.heap.size q := fun q h => Or.inr h
  generalize hQ : MQ below (QcK D (i2 cy) 2 h0 (va_A [(h0, .inr (2, [.null, .null, .int 0, .null, .null, .null, .null, .null, .null, .int 0]))] s.heap.size)) ([.ref h0] : List Value).toArray s 8 640 (va_A [(h0, .inr (2, [.null, .null, .int 0, .null, .null, .null, .null, .null, .null, .int 0]))] s.heap.size) = Q
  generalize hAe : va_A [(h0, .inr (2, [.null, .null, .int 0, .null, .null, .null, .null, .null, .null, .int 0]))] s.heap.size = A at hQ hD hS hA
  have hP : va_P D vwCl [(h0, .inr (2, [.null, .null, .int 0, .null, .null, .null, .null, .null, .null, .int 0]))] s.heap := hP
  refine lv_aload_n hx hb dX2_init_0 rfl (lv_at hl 0 rfl) ?_
  refine W.objInit hx hb hown (hts _ (wd_1 (w := .methodLink RX2 3 objectInit) (i := 115) (by decide +kernel) rfl)) (hts _ (wd_1 (w := .instanceMethod objectInit) (i := 26) (by decide +kernel) rfl)) (hts _ (wd_1 (w := .code objectInit ⟨#[0xb1]⟩ 1 none) (i := 27) (by decide +kernel) rfl)) rfl (by rw [hml]; exact hl.1) rfl dX2_init_1 (Nat.le_of_ble_eq_true rfl) (Nat.le_of_ble_eq_true rfl) ?_
  refine W.eq (g2 := F0 m 4 ls []) rfl ?_
  refine lv_aload_n hx hb dX2_init_4 rfl (lv_at hl 0 rfl) ?_
  refine lv_bipush (v := 20) hx hb dX2_init_5 (by decide) ?_
  refine nw_int (N' := 20) hx hb hts hK hP hD hS hA (by decide) (by decide) (Nat.le_of_ble_eq_true rfl) (Nat.le_of_ble_eq_true rfl) (Nat.le_of_ble_eq_true rfl) dX2_init_7 (fun q_7 H hP hD hS => ?_)
  have hP : va_P D vwCl ([(h0, .inr (2, [.null, .null, .int 0, .null, .null, .null, .null, .null, .null, .int 0])), (q_7, .inl (cy 0, 20, .inl (fun _ => 0)))]) H := hP
  have hD : va_D A ([(h0, .inr (2, [.null, .null, .int 0, .null, .null, .null, .null, .null, .null, .int 0])), (q_7, .inl (cy 0, 20, .inl (fun _ => 0)))]) := hD
  refine W.widen (k := 1) (n := 20) (Nat.le_of_ble_eq_true rfl) (Nat.le_of_ble_eq_true rfl) ?_
  refine va_putF (D := D) (ci := 2) (v := .ref q_7) (ty := (tyX2 0)) (C := RX2) (T := TX2) (N := 10) hx hb hts inX2 tyX2 tyX2_ok nmX2 hown hK hP hD hS 0 rfl rfl 0 (by decide) (hts _ (wd_1 (w := .fieldLink RX2 11 RX2 (TX2 0).2.1 (TX2 0).2.2.1) (i := 116) (by decide +kernel) rfl)) (fun _ h9 => h9) rfl hmn rfl (by decide +kernel) rfl rfl (Nat.le_of_ble_eq_true rfl) dX2_init_9 (fun H locs hP hD hS => ?_)
  have hP : va_P D vwCl ([(h0, .inr (2, [.ref q_7, .null, .int 0, .null, .null, .null, .null, .null, .null, .int 0])), (q_7, .inl (cy 0, 20, .inl (fun _ => 0)))]) H := hP
  have hD : va_D A ([(h0, .inr (2, [.ref q_7, .null, .int 0, .null, .null, .null, .null, .null, .null, .int 0])), (q_7, .inl (cy 0, 20, .inl (fun _ => 0)))]) := hD
  refine lv_aload_n hx hb dX2_init_12 rfl (lv_at hl 0 rfl) ?_
  refine lv_bipush (v := 20) hx hb dX2_init_13 (by decide) ?_
  refine nw_int (N' := 20) hx hb hts hK hP hD hS hA (by decide) (by decide) (Nat.le_of_ble_eq_true rfl) (Nat.le_of_ble_eq_true rfl) (Nat.le_of_ble_eq_true rfl) dX2_init_15 (fun q_15 H hP hD hS => ?_)
  have hP : va_P D vwCl ([(h0, .inr (2, [.ref q_7, .null, .int 0, .null, .null, .null, .null, .null, .null, .int 0])), (q_7, .inl (cy 0, 20, .inl (fun _ => 0))), (q_15, .inl (cy 0, 20, .inl (fun _ => 0)))]) H := hP
  have hD : va_D A ([(h0, .inr (2, [.ref q_7, .null, .int 0, .null, .null, .null, .null, .null, .null, .int 0])), (q_7, .inl (cy 0, 20, .inl (fun _ => 0))), (q_15, .inl (cy 0, 20, .inl (fun _ => 0)))]) := hD
  refine W.widen (k := 2) (n := 40) (Nat.le_of_ble_eq_true rfl) (Nat.le_of_ble_eq_true rfl) ?_
  refine va_putF (D := D) (ci := 2) (v := .ref q_15) (ty := (tyX2 1)) (C := RX2) (T := TX2) (N := 10) hx hb hts inX2 tyX2 tyX2_ok nmX2 hown hK hP hD hS 0 rfl rfl 1 (by decide) (hts _ (wd_1 (w := .fieldLink RX2 15 RX2 (TX2 1).2.1 (TX2 1).2.2.1) (i := 117) (by decide +kernel) rfl)) (fun _ h9 => h9) rfl hmn rfl (by decide +kernel) rfl rfl (Nat.le_of_ble_eq_true rfl) dX2_init_17 (fun H locs hP hD hS => ?_)
  have hP : va_P D vwCl ([(h0, .inr (2, [.ref q_7, .ref q_15, .int 0, .null, .null, .null, .null, .null, .null, .int 0])), (q_7, .inl (cy 0, 20, .inl (fun _ => 0))), (q_15, .inl (cy 0, 20, .inl (fun _ => 0)))]) H := hP
  have hD : va_D A ([(h0, .inr (2, [.ref q_7, .ref q_15, .int 0, .null, .null, .null, .null, .null, .null, .int 0])), (q_7, .inl (cy 0, 20, .inl (fun _ => 0))), (q_15, .inl (cy 0, 20, .inl (fun _ => 0)))]) := hD
  refine lv_aload_n hx hb dX2_init_20 rfl (lv_at hl 0 rfl) ?_
  refine lv_iconst (v := 0) hx hb dX2_init_21 (by decide) ?_
  refine va_put (D := D) (ci := 2) (v := .int 0) (ty := (tyX2 2)) (C := RX2) (T := TX2) (N := 10) hx hb hts inX2 tyX2 tyX2_ok nmX2 hown hK hP hD hS 0 rfl rfl 2 (by decide) (hts _ (wd_1 (w := .fieldLink RX2 18 RX2 (TX2 2).2.1 (TX2 2).2.2.1) (i := 118) (by decide +kernel) rfl)) (fun _ h9 => h9) rfl (by decide +kernel) rfl rfl (Nat.le_of_ble_eq_true rfl) dX2_init_22 (fun H locs hP hD hS => ?_)
  have hP : va_P D vwCl ([(h0, .inr (2, [.ref q_7, .ref q_15, .int 0, .null, .null, .null, .null, .null, .null, .int 0])), (q_7, .inl (cy 0, 20, .inl (fun _ => 0))), (q_15, .inl (cy 0, 20, .inl (fun _ => 0)))]) H := hP
  have hD : va_D A ([(h0, .inr (2, [.ref q_7, .ref q_15, .int 0, .null, .null, .null, .null, .null, .null, .int 0])), (q_7, .inl (cy 0, 20, .inl (fun _ => 0))), (q_15, .inl (cy 0, 20, .inl (fun _ => 0)))]) := hD
  refine lv_aload_n hx hb dX2_init_25 rfl (lv_at hl 0 rfl) ?_
  refine lv_bipush (v := 100) hx hb dX2_init_26 (by decide) ?_
  refine nw_int (N' := 100) hx hb hts hK hP hD hS hA (by decide) (by decide) (Nat.le_of_ble_eq_true rfl) (Nat.le_of_ble_eq_true rfl) (Nat.le_of_ble_eq_true rfl) dX2_init_28 (fun q_28 H hP hD hS => ?_)
  have hP : va_P D vwCl ([(h0, .inr (2, [.ref q_7, .ref q_15, .int 0, .null, .null, .null, .null, .null, .null, .int 0])), (q_7, .inl (cy 0, 20, .inl (fun _ => 0))), (q_15, .inl (cy 0, 20, .inl (fun _ => 0))), (q_28, .inl (cy 0, 100, .inl (fun _ => 0)))]) H := hP
  have hD : va_D A ([(h0, .inr (2, [.ref q_7, .ref q_15, .int 0, .null, .null, .null, .null, .null, .null, .int 0])), (q_7, .inl (cy 0, 20, .inl (fun _ => 0))), (q_15, .inl (cy 0, 20, .inl (fun _ => 0))), (q_28, .inl (cy 0, 100, .inl (fun _ => 0)))]) := hD
  refine W.widen (k := 3) (n := 140) (Nat.le_of_ble_eq_true rfl) (Nat.le_of_ble_eq_true rfl) ?_
  refine va_putF (D := D) (ci := 2) (v := .ref q_28) (ty := (tyX2 3)) (C := RX2) (T := TX2) (N := 10) hx hb hts inX2 tyX2 tyX2_ok nmX2 hown hK hP hD hS 0 rfl rfl 3 (by decide) (hts _ (wd_1 (w := .fieldLink RX2 22 RX2 (TX2 3).2.1 (TX2 3).2.2.1) (i := 119) (by decide +kernel) rfl)) (fun _ h9 => h9) rfl hmn rfl (by decide +kernel) rfl rfl (Nat.le_of_ble_eq_true rfl) dX2_init_30 (fun H locs hP hD hS => ?_)
  have hP : va_P D vwCl ([(h0, .inr (2, [.ref q_7, .ref q_15, .int 0, .ref q_28, .null, .null, .null, .null, .null, .int 0])), (q_7, .inl (cy 0, 20, .inl (fun _ => 0))), (q_15, .inl (cy 0, 20, .inl (fun _ => 0))), (q_28, .inl (cy 0, 100, .inl (fun _ => 0)))]) H := hP
  have hD : va_D A ([(h0, .inr (2, [.ref q_7, .ref q_15, .int 0, .ref q_28, .null, .null, .null, .null, .null, .int 0])), (q_7, .inl (cy 0, 20, .inl (fun _ => 0))), (q_15, .inl (cy 0, 20, .inl (fun _ => 0))), (q_28, .inl (cy 0, 100, .inl (fun _ => 0)))]) := hD
  refine lv_aload_n hx hb dX2_init_33 rfl (lv_at hl 0 rfl) ?_
  refine lv_bipush (v := 100) hx hb dX2_init_34 (by decide) ?_
  refine nw_int (N' := 100) hx hb hts hK hP hD hS hA (by decide) (by decide) (Nat.le_of_ble_eq_true rfl) (Nat.le_of_ble_eq_true rfl) (Nat.le_of_ble_eq_true rfl) dX2_init_36 (fun q_36 H hP hD hS => ?_)
  have hP : va_P D vwCl ([(h0, .inr (2, [.ref q_7, .ref q_15, .int 0, .ref q_28, .null, .null, .null, .null, .null, .int 0])), (q_7, .inl (cy 0, 20, .inl (fun _ => 0))), (q_15, .inl (cy 0, 20, .inl (fun _ => 0))), (q_28, .inl (cy 0, 100, .inl (fun _ => 0))), (q_36, .inl (cy 0, 100, .inl (fun _ => 0)))]) H := hP
  have hD : va_D A ([(h0, .inr (2, [.ref q_7, .ref q_15, .int 0, .ref q_28, .null, .null, .null, .null, .null, .int 0])), (q_7, .inl (cy 0, 20, .inl (fun _ => 0))), (q_15, .inl (cy 0, 20, .inl (fun _ => 0))), (q_28, .inl (cy 0, 100, .inl (fun _ => 0))), (q_36, .inl (cy 0, 100, .inl (fun _ => 0)))]) := hD
  refine W.widen (k := 4) (n := 240) (Nat.le_of_ble_eq_true rfl) (Nat.le_of_ble_eq_true rfl) ?_
  refine va_putF (D := D) (ci := 2) (v := .ref q_36) (ty := (tyX2 4)) (C := RX2) (T := TX2) (N := 10) hx hb hts inX2 tyX2 tyX2_ok nmX2 hown hK hP hD hS 0 rfl rfl 4 (by decide) (hts _ (wd_1 (w := .fieldLink RX2 25 RX2 (TX2 4).2.1 (TX2 4).2.2.1) (i := 120) (by decide +kernel) rfl)) (fun _ h9 => h9) rfl hmn rfl (by decide +kernel) rfl rfl (Nat.le_of_ble_eq_true rfl) dX2_init_38 (fun H locs hP hD hS => ?_)
  have hP : va_P D vwCl ([(h0, .inr (2, [.ref q_7, .ref q_15, .int 0, .ref q_28, .ref q_36, .null, .null, .null, .null, .int 0])), (q_7, .inl (cy 0, 20, .inl (fun _ => 0))), (q_15, .inl (cy 0, 20, .inl (fun _ => 0))), (q_28, .inl (cy 0, 100, .inl (fun _ => 0))), (q_36, .inl (cy 0, 100, .inl (fun _ => 0)))]) H := hP
  have hD : va_D A ([(h0, .inr (2, [.ref q_7, .ref q_15, .int 0, .ref q_28, .ref q_36, .null, .null, .null, .null, .int 0])), (q_7, .inl (cy 0, 20, .inl (fun _ => 0))), (q_15, .inl (cy 0, 20, .inl (fun _ => 0))), (q_28, .inl (cy 0, 100, .inl (fun _ => 0))), (q_36, .inl (cy 0, 100, .inl (fun _ => 0)))]) := hD
  refine lv_aload_n hx hb dX2_init_41 rfl (lv_at hl 0 rfl) ?_
  refine lv_bipush (v := 100) hx hb dX2_init_42 (by decide) ?_
  refine nw_int (N' := 100) hx hb hts hK hP hD hS hA (by decide) (by decide) (Nat.le_of_ble_eq_true rfl) (Nat.le_of_ble_eq_true rfl) (Nat.le_of_ble_eq_true rfl) dX2_init_44 (fun q_44 H hP hD hS => ?_)
  have hP : va_P D vwCl ([(h0, .inr (2, [.ref q_7, .ref q_15, .int 0, .ref q_28, .ref q_36, .null, .null, .null, .null, .int 0])), (q_7, .inl (cy 0, 20, .inl (fun _ => 0))), (q_15, .inl (cy 0, 20, .inl (fun _ => 0))), (q_28, .inl (cy 0, 100, .inl (fun _ => 0))), (q_36, .inl (cy 0, 100, .inl (fun _ => 0))), (q_44, .inl (cy 0, 100, .inl (fun _ => 0)))]) H := hP
  have hD : va_D A ([(h0, .inr (2, [.ref q_7, .ref q_15, .int 0, .ref q_28, .ref q_36, .null, .null, .null, .null, .int 0])), (q_7, .inl (cy 0, 20, .inl (fun _ => 0))), (q_15, .inl (cy 0, 20, .inl (fun _ => 0))), (q_28, .inl (cy 0, 100, .inl (fun _ => 0))), (q_36, .inl (cy 0, 100, .inl (fun _ => 0))), (q_44, .inl (cy 0, 100, .inl (fun _ => 0)))]) := hD
  refine W.widen (k := 5) (n := 340) (Nat.le_of_ble_eq_true rfl) (Nat.le_of_ble_eq_true rfl) ?_
  refine va_putF (D := D) (ci := 2) (v := .ref q_44) (ty := (tyX2 5)) (C := RX2) (T := TX2) (N := 10) hx hb hts inX2 tyX2 tyX2_ok nmX2 hown hK hP hD hS 0 rfl rfl 5 (by decide) (hts _ (wd_1 (w := .fieldLink RX2 28 RX2 (TX2 5).2.1 (TX2 5).2.2.1) (i := 121) (by decide +kernel) rfl)) (fun _ h9 => h9) rfl hmn rfl (by decide +kernel) rfl rfl (Nat.le_of_ble_eq_true rfl) dX2_init_46 (fun H locs hP hD hS => ?_)
  have hP : va_P D vwCl ([(h0, .inr (2, [.ref q_7, .ref q_15, .int 0, .ref q_28, .ref q_36, .ref q_44, .null, .null, .null, .int 0])), (q_7, .inl (cy 0, 20, .inl (fun _ => 0))), (q_15, .inl (cy 0, 20, .inl (fun _ => 0))), (q_28, .inl (cy 0, 100, .inl (fun _ => 0))), (q_36, .inl (cy 0, 100, .inl (fun _ => 0))), (q_44, .inl (cy 0, 100, .inl (fun _ => 0)))]) H := hP
  have hD : va_D A ([(h0, .inr (2, [.ref q_7, .ref q_15, .int 0, .ref q_28, .ref q_36, .ref q_44, .null, .null, .null, .int 0])), (q_7, .inl (cy 0, 20, .inl (fun _ => 0))), (q_15, .inl (cy 0, 20, .inl (fun _ => 0))), (q_28, .inl (cy 0, 100, .inl (fun _ => 0))), (q_36, .inl (cy 0, 100, .inl (fun _ => 0))), (q_44, .inl (cy 0, 100, .inl (fun _ => 0)))]) := hD
  refine lv_aload_n hx hb dX2_init_49 rfl (lv_at hl 0 rfl) ?_
  refine lv_bipush (v := 100) hx hb dX2_init_50 (by decide) ?_
  refine nw_int (N' := 100) hx hb hts hK hP hD hS hA (by decide) (by decide) (Nat.le_of_ble_eq_true rfl) (Nat.le_of_ble_eq_true rfl) (Nat.le_of_ble_eq_true rfl) dX2_init_52 (fun q_52 H hP hD hS => ?_)
  have hP : va_P D vwCl ([(h0, .inr (2, [.ref q_7, .ref q_15, .int 0, .ref q_28, .ref q_36, .ref q_44, .null, .null, .null, .int 0])), (q_7, .inl (cy 0, 20, .inl (fun _ => 0))), (q_15, .inl (cy 0, 20, .inl (fun _ => 0))), (q_28, .inl (cy 0, 100, .inl (fun _ => 0))), (q_36, .inl (cy 0, 100, .inl (fun _ => 0))), (q_44, .inl (cy 0, 100, .inl (fun _ => 0))), (q_52, .inl (cy 0, 100, .inl (fun _ => 0)))]) H := hP
  have hD : va_D A ([(h0, .inr (2, [.ref q_7, .ref q_15, .int 0, .ref q_28, .ref q_36, .ref q_44, .null, .null, .null, .int 0])), (q_7, .inl (cy 0, 20, .inl (fun _ => 0))), (q_15, .inl (cy 0, 20, .inl (fun _ => 0))), (q_28, .inl (cy 0, 100, .inl (fun _ => 0))), (q_36, .inl (cy 0, 100, .inl (fun _ => 0))), (q_44, .inl (cy 0, 100, .inl (fun _ => 0))), (q_52, .inl (cy 0, 100, .inl (fun _ => 0)))]) := hD
  refine W.widen (k := 6) (n := 440) (Nat.le_of_ble_eq_true rfl) (Nat.le_of_ble_eq_true rfl) ?_
  refine va_putF (D := D) (ci := 2) (v := .ref q_52) (ty := (tyX2 6)) (C := RX2) (T := TX2) (N := 10) hx hb hts inX2 tyX2 tyX2_ok nmX2 hown hK hP hD hS 0 rfl rfl 6 (by decide) (hts _ (wd_1 (w := .fieldLink RX2 31 RX2 (TX2 6).2.1 (TX2 6).2.2.1) (i := 122) (by decide +kernel) rfl)) (fun _ h9 => h9) rfl hmn rfl (by decide +kernel) rfl rfl (Nat.le_of_ble_eq_true rfl) dX2_init_54 (fun H locs hP hD hS => ?_)
  have hP : va_P D vwCl ([(h0, .inr (2, [.ref q_7, .ref q_15, .int 0, .ref q_28, .ref q_36, .ref q_44, .ref q_52, .null, .null, .int 0])), (q_7, .inl (cy 0, 20, .inl (fun _ => 0))), (q_15, .inl (cy 0, 20, .inl (fun _ => 0))), (q_28, .inl (cy 0, 100, .inl (fun _ => 0))), (q_36, .inl (cy 0, 100, .inl (fun _ => 0))), (q_44, .inl (cy 0, 100, .inl (fun _ => 0))), (q_52, .inl (cy 0, 100, .inl (fun _ => 0)))]) H := hP
  have hD : va_D A ([(h0, .inr (2, [.ref q_7, .ref q_15, .int 0, .ref q_28, .ref q_36, .ref q_44, .ref q_52, .null, .null, .int 0])), (q_7, .inl (cy 0, 20, .inl (fun _ => 0))), (q_15, .inl (cy 0, 20, .inl (fun _ => 0))), (q_28, .inl (cy 0, 100, .inl (fun _ => 0))), (q_36, .inl (cy 0, 100, .inl (fun _ => 0))), (q_44, .inl (cy 0, 100, .inl (fun _ => 0))), (q_52, .inl (cy 0, 100, .inl (fun _ => 0)))]) := hD
  refine lv_aload_n hx hb dX2_init_57 rfl (lv_at hl 0 rfl) ?_
  refine lv_bipush (v := 100) hx hb dX2_init_58 (by decide) ?_
  refine nw_int (N' := 100) hx hb hts hK hP hD hS hA (by decide) (by decide) (Nat.le_of_ble_eq_true rfl) (Nat.le_of_ble_eq_true rfl) (Nat.le_of_ble_eq_true rfl) dX2_init_60 (fun q_60 H hP hD hS => ?_)
  have hP : va_P D vwCl ([(h0, .inr (2, [.ref q_7, .ref q_15, .int 0, .ref q_28, .ref q_36, .ref q_44, .ref q_52, .null, .null, .int 0])), (q_7, .inl (cy 0, 20, .inl (fun _ => 0))), (q_15, .inl (cy 0, 20, .inl (fun _ => 0))), (q_28, .inl (cy 0, 100, .inl (fun _ => 0))), (q_36, .inl (cy 0, 100, .inl (fun _ => 0))), (q_44, .inl (cy 0, 100, .inl (fun _ => 0))), (q_52, .inl (cy 0, 100, .inl (fun _ => 0))), (q_60, .inl (cy 0, 100, .inl (fun _ => 0)))]) H := hP
  have hD : va_D A ([(h0, .inr (2, [.ref q_7, .ref q_15, .int 0, .ref q_28, .ref q_36, .ref q_44, .ref q_52, .null, .null, .int 0])), (q_7, .inl (cy 0, 20, .inl (fun _ => 0))), (q_15, .inl (cy 0, 20, .inl (fun _ => 0))), (q_28, .inl (cy 0, 100, .inl (fun _ => 0))), (q_36, .inl (cy 0, 100, .inl (fun _ => 0))), (q_44, .inl (cy 0, 100, .inl (fun _ => 0))), (q_52, .inl (cy 0, 100, .inl (fun _ => 0))), (q_60, .inl (cy 0, 100, .inl (fun _ => 0)))]) := hD
  refine W.widen (k := 7) (n := 540) (Nat.le_of_ble_eq_true rfl) (Nat.le_of_ble_eq_true rfl) ?_
  refine va_putF (D := D) (ci := 2) (v := .ref q_60) (ty := (tyX2 7)) (C := RX2) (T := TX2) (N := 10) hx hb hts inX2 tyX2 tyX2_ok nmX2 hown hK hP hD hS 0 rfl rfl 7 (by decide) (hts _ (wd_1 (w := .fieldLink RX2 34 RX2 (TX2 7).2.1 (TX2 7).2.2.1) (i := 123) (by decide +kernel) rfl)) (fun _ h9 => h9) rfl hmn rfl (by decide +kernel) rfl rfl (Nat.le_of_ble_eq_true rfl) dX2_init_62 (fun H locs hP hD hS => ?_)
  have hP : va_P D vwCl ([(h0, .inr (2, [.ref q_7, .ref q_15, .int 0, .ref q_28, .ref q_36, .ref q_44, .ref q_52, .ref q_60, .null, .int 0])), (q_7, .inl (cy 0, 20, .inl (fun _ => 0))), (q_15, .inl (cy 0, 20, .inl (fun _ => 0))), (q_28, .inl (cy 0, 100, .inl (fun _ => 0))), (q_36, .inl (cy 0, 100, .inl (fun _ => 0))), (q_44, .inl (cy 0, 100, .inl (fun _ => 0))), (q_52, .inl (cy 0, 100, .inl (fun _ => 0))), (q_60, .inl (cy 0, 100, .inl (fun _ => 0)))]) H := hP
  have hD : va_D A ([(h0, .inr (2, [.ref q_7, .ref q_15, .int 0, .ref q_28, .ref q_36, .ref q_44, .ref q_52, .ref q_60, .null, .int 0])), (q_7, .inl (cy 0, 20, .inl (fun _ => 0))), (q_15, .inl (cy 0, 20, .inl (fun _ => 0))), (q_28, .inl (cy 0, 100, .inl (fun _ => 0))), (q_36, .inl (cy 0, 100, .inl (fun _ => 0))), (q_44, .inl (cy 0, 100, .inl (fun _ => 0))), (q_52, .inl (cy 0, 100, .inl (fun _ => 0))), (q_60, .inl (cy 0, 100, .inl (fun _ => 0)))]) := hD
  refine lv_aload_n hx hb dX2_init_65 rfl (lv_at hl 0 rfl) ?_
  refine lv_bipush (v := 100) hx hb dX2_init_66 (by decide) ?_
  refine nw_int (N' := 100) hx hb hts hK hP hD hS hA (by decide) (by decide) (Nat.le_of_ble_eq_true rfl) (Nat.le_of_ble_eq_true rfl) (Nat.le_of_ble_eq_true rfl) dX2_init_68 (fun q_68 H hP hD hS => ?_)
  have hP : va_P D vwCl ([(h0, .inr (2, [.ref q_7, .ref q_15, .int 0, .ref q_28, .ref q_36, .ref q_44, .ref q_52, .ref q_60, .null, .int 0])), (q_7, .inl (cy 0, 20, .inl (fun _ => 0))), (q_15, .inl (cy 0, 20, .inl (fun _ => 0))), (q_28, .inl (cy 0, 100, .inl (fun _ => 0))), (q_36, .inl (cy 0, 100, .inl (fun _ => 0))), (q_44, .inl (cy 0, 100, .inl (fun _ => 0))), (q_52, .inl (cy 0, 100, .inl (fun _ => 0))), (q_60, .inl (cy 0, 100, .inl (fun _ => 0))), (q_68, .inl (cy 0, 100, .inl (fun _ => 0)))]) H := hP
  have hD : va_D A ([(h0, .inr (2, [.ref q_7, .ref q_15, .int 0, .ref q_28, .ref q_36, .ref q_44, .ref q_52, .ref q_60, .null, .int 0])), (q_7, .inl (cy 0, 20, .inl (fun _ => 0))), (q_15, .inl (cy 0, 20, .inl (fun _ => 0))), (q_28, .inl (cy 0, 100, .inl (fun _ => 0))), (q_36, .inl (cy 0, 100, .inl (fun _ => 0))), (q_44, .inl (cy 0, 100, .inl (fun _ => 0))), (q_52, .inl (cy 0, 100, .inl (fun _ => 0))), (q_60, .inl (cy 0, 100, .inl (fun _ => 0))), (q_68, .inl (cy 0, 100, .inl (fun _ => 0)))]) := hD
  refine W.widen (k := 8) (n := 640) (Nat.le_of_ble_eq_true rfl) (Nat.le_of_ble_eq_true rfl) ?_
  refine va_putF (D := D) (ci := 2) (v := .ref q_68) (ty := (tyX2 8)) (C := RX2) (T := TX2) (N := 10) hx hb hts inX2 tyX2 tyX2_ok nmX2 hown hK hP hD hS 0 rfl rfl 8 (by decide) (hts _ (wd_1 (w := .fieldLink RX2 37 RX2 (TX2 8).2.1 (TX2 8).2.2.1) (i := 124) (by decide +kernel) rfl)) (fun _ h9 => h9) rfl hmn rfl (by decide +kernel) rfl rfl (Nat.le_of_ble_eq_true rfl) dX2_init_70 (fun H locs hP hD hS => ?_)
  have hP : va_P D vwCl ([(h0, .inr (2, [.ref q_7, .ref q_15, .int 0, .ref q_28, .ref q_36, .ref q_44, .ref q_52, .ref q_60, .ref q_68, .int 0])), (q_7, .inl (cy 0, 20, .inl (fun _ => 0))), (q_15, .inl (cy 0, 20, .inl (fun _ => 0))), (q_28, .inl (cy 0, 100, .inl (fun _ => 0))), (q_36, .inl (cy 0, 100, .inl (fun _ => 0))), (q_44, .inl (cy 0, 100, .inl (fun _ => 0))), (q_52, .inl (cy 0, 100, .inl (fun _ => 0))), (q_60, .inl (cy 0, 100, .inl (fun _ => 0))), (q_68, .inl (cy 0, 100, .inl (fun _ => 0)))]) H := hP
  have hD : va_D A ([(h0, .inr (2, [.ref q_7, .ref q_15, .int 0, .ref q_28, .ref q_36, .ref q_44, .ref q_52, .ref q_60, .ref q_68, .int 0])), (q_7, .inl (cy 0, 20, .inl (fun _ => 0))), (q_15, .inl (cy 0, 20, .inl (fun _ => 0))), (q_28, .inl (cy 0, 100, .inl (fun _ => 0))), (q_36, .inl (cy 0, 100, .inl (fun _ => 0))), (q_44, .inl (cy 0, 100, .inl (fun _ => 0))), (q_52, .inl (cy 0, 100, .inl (fun _ => 0))), (q_60, .inl (cy 0, 100, .inl (fun _ => 0))), (q_68, .inl (cy 0, 100, .inl (fun _ => 0)))]) := hD
  refine lv_aload_n hx hb dX2_init_73 rfl (lv_at hl 0 rfl) ?_
  refine lv_iconst (v := 0) hx hb dX2_init_74 (by decide) ?_
  refine va_put (D := D) (ci := 2) (v := .int 0) (ty := (tyX2 9)) (C := RX2) (T := TX2) (N := 10) hx hb hts inX2 tyX2 tyX2_ok nmX2 hown hK hP hD hS 0 rfl rfl 9 (by decide) (hts _ (wd_1 (w := .fieldLink RX2 40 RX2 (TX2 9).2.1 (TX2 9).2.2.1) (i := 125) (by decide +kernel) rfl)) (fun _ h9 => h9) rfl (by decide +kernel) rfl rfl (Nat.le_of_ble_eq_true rfl) dX2_init_75 (fun H locs hP hD hS => ?_)
  have hP : va_P D vwCl ([(h0, .inr (2, [.ref q_7, .ref q_15, .int 0, .ref q_28, .ref q_36, .ref q_44, .ref q_52, .ref q_60, .ref q_68, .int 0])), (q_7, .inl (cy 0, 20, .inl (fun _ => 0))), (q_15, .inl (cy 0, 20, .inl (fun _ => 0))), (q_28, .inl (cy 0, 100, .inl (fun _ => 0))), (q_36, .inl (cy 0, 100, .inl (fun _ => 0))), (q_44, .inl (cy 0, 100, .inl (fun _ => 0))), (q_52, .inl (cy 0, 100, .inl (fun _ => 0))), (q_60, .inl (cy 0, 100, .inl (fun _ => 0))), (q_68, .inl (cy 0, 100, .inl (fun _ => 0)))]) H := hP
  have hD : va_D A ([(h0, .inr (2, [.ref q_7, .ref q_15, .int 0, .ref q_28, .ref q_36, .ref q_44, .ref q_52, .ref q_60, .ref q_68, .int 0])), (q_7, .inl (cy 0, 20, .inl (fun _ => 0))), (q_15, .inl (cy 0, 20, .inl (fun _ => 0))), (q_28, .inl (cy 0, 100, .inl (fun _ => 0))), (q_36, .inl (cy 0, 100, .inl (fun _ => 0))), (q_44, .inl (cy 0, 100, .inl (fun _ => 0))), (q_52, .inl (cy 0, 100, .inl (fun _ => 0))), (q_60, .inl (cy 0, 100, .inl (fun _ => 0))), (q_68, .inl (cy 0, 100, .inl (fun _ => 0)))]) := hD
  rw [← hQ]
  exact W.vret hx hb hr (fun t ht _ => ⟨⟨(fun o j => if o = 2 then (if j = 99 then h0 else ([q_7, q_15, 0, q_28, q_36, q_44, q_52, q_60, q_68, 0] : List Nat).getD j 0) else 0), rfl, rfl, by rw [ht]; exact hP, hD⟩, by rw [← hAe] at hS ⊢; exact hS.F ht⟩) hS.2.2 dX2_init_78 hlk
theorem dX6_init_0 : decode cX6_init 0 = .ok (.aload_n 0, 1) := by decide +kernel
theorem dX6_init_1 : decode cX6_init 1 = .ok (.invokespecial 3, 3) := by decide +kernel
theorem dX6_init_4 : decode cX6_init 4 = .ok (.aload_n 0, 1) := by decide +kernel
theorem dX6_init_5 : decode cX6_init 5 = .ok (.sipush 160, 3) := by decide +kernel
theorem dX6_init_8 : decode cX6_init 8 = .ok (.newarray .char, 2) := by decide +kernel
theorem dX6_init_10 : decode cX6_init 10 = .ok (.putfield 11, 3) := by decide +kernel
theorem dX6_init_13 : decode cX6_init 13 = .ok (.aload_n 0, 1) := by decide +kernel
theorem dX6_init_14 : decode cX6_init 14 = .ok (.bipush 12, 2) := by decide +kernel
theorem dX6_init_16 : decode cX6_init 16 = .ok (.newarray .int, 2) := by decide +kernel
theorem dX6_init_18 : decode cX6_init 18 = .ok (.putfield 15, 3) := by decide +kernel
theorem dX6_init_21 : decode cX6_init 21 = .ok (.aload_n 0, 1) := by decide +kernel
theorem dX6_init_22 : decode cX6_init 22 = .ok (.bipush 9, 2) := by decide +kernel
theorem dX6_init_24 : decode cX6_init 24 = .ok (.newarray .long, 2) := by decide +kernel
theorem dX6_init_26 : decode cX6_init 26 = .ok (.putfield 19, 3) := by decide +kernel
theorem dX6_init_29 : decode cX6_init 29 = .ok (.aload_n 0, 1) := by decide +kernel
theorem dX6_init_30 : decode cX6_init 30 = .ok (.iconst 0, 1) := by decide +kernel
theorem dX6_init_31 : decode cX6_init 31 = .ok (.putfield 23, 3) := by decide +kernel
theorem dX6_init_34 : decode cX6_init 34 = .ok (.aload_n 0, 1) := by decide +kernel
theorem dX6_init_35 : decode cX6_init 35 = .ok (.iconst 0, 1) := by decide +kernel
theorem dX6_init_36 : decode cX6_init 36 = .ok (.putfield 27, 3) := by decide +kernel
theorem dX6_init_39 : decode cX6_init 39 = .ok (.aload_n 0, 1) := by decide +kernel
theorem dX6_init_40 : decode cX6_init 40 = .ok (.iconst 0, 1) := by decide +kernel
theorem dX6_init_41 : decode cX6_init 41 = .ok (.putfield 30, 3) := by decide +kernel
theorem dX6_init_44 : decode cX6_init 44 = .ok (.aload_n 0, 1) := by decide +kernel
theorem dX6_init_45 : decode cX6_init 45 = .ok (.iconst 0, 1) := by decide +kernel
theorem dX6_init_46 : decode cX6_init 46 = .ok (.putfield 33, 3) := by decide +kernel
theorem dX6_init_49 : decode cX6_init 49 = .ok (.aload_n 0, 1) := by decide +kernel
theorem dX6_init_50 : decode cX6_init 50 = .ok (.iconst 0, 1) := by decide +kernel
theorem dX6_init_51 : decode cX6_init 51 = .ok (.putfield 36, 3) := by decide +kernel
theorem dX6_init_54 : decode cX6_init 54 = .ok (.aload_n 0, 1) := by decide +kernel
theorem dX6_init_55 : decode cX6_init 55 = .ok (.iconst (-1), 1) := by decide +kernel
theorem dX6_init_56 : decode cX6_init 56 = .ok (.putfield 39, 3) := by decide +kernel
theorem dX6_init_59 : decode cX6_init 59 = .ok (.aload_n 0, 1) := by decide +kernel
theorem dX6_init_60 : decode cX6_init 60 = .ok (.iconst 0, 1) := by decide +kernel
theorem dX6_init_61 : decode cX6_init 61 = .ok (.putfield 42, 3) := by decide +kernel
theorem dX6_init_64 : decode cX6_init 64 = .ok (.aload_n 0, 1) := by decide +kernel
theorem dX6_init_65 : decode cX6_init 65 = .ok (.iconst 0, 1) := by decide +kernel
theorem dX6_init_66 : decode cX6_init 66 = .ok (.putfield 45, 3) := by decide +kernel
theorem dX6_init_69 : decode cX6_init 69 = .ok (.aload_n 0, 1) := by decide +kernel
theorem dX6_init_70 : decode cX6_init 70 = .ok (.iconst 0, 1) := by decide +kernel
theorem dX6_init_71 : decode cX6_init 71 = .ok (.putfield 48, 3) := by decide +kernel
theorem dX6_init_74 : decode cX6_init 74 = .ok (.return_, 1) := by decide +kernel
def i6 (cy : Nat → ClassId) (u : US) : va_W := [(u 6 99, .inr (6, [.ref (u 6 0), .ref (u 6 1), .ref (u 6 2), .int 0, .int 0, .int 0, .int 0, .int 0, .int (-1), .int 0, .int 0, .int 0])), (u 6 0, .inl (cy 3, 160, .inl (fun _ => 0))), (u 6 1, .inl (cy 0, 12, .inl (fun _ => 0))), (u 6 2, .inl (cy 1, 9, .inr (.inl (fun _ => 0))))]
set_option maxHeartbeats 8000000 in
set_option maxRecDepth 100000 in
theorem k6 (l : Launch) (D : va_G) (cy : Nat → ClassId) (sz h0 : Nat) : Met l yX6_init (wsOf yX6_init cX6_init 1 none) (rmK 1 3 181) (va_Pc [.ref h0] (PreG D cy [(h0, .inr (6, [.null, .null, .null, .int 0, .int 0, .int 0, .int 0, .int 0, .int 0, .int 0, .int 0, .int 0]))] sz NM)) (QcK D (i6 cy) 6 h0 (va_A [(h0, .inr (6, [.null, .null, .null, .int 0, .int 0, .int 0, .int 0, .int 0, .int 0, .int 0, .int 0, .int 0]))] sz)) 3 181 (va_A [(h0, .inr (6, [.null, .null, .null, .int 0, .int 0, .int 0, .int 0, .int 0, .int 0, .int 0, .int 0, .int 0]))] sz) := by
  refine metK (own := RX6) (by decide) rfl (Nat.le_of_ble_eq_true rfl) rfl ?_ sz
  intro p e s m below meth c ls C0 hmn hw hl
  obtain ⟨hx, hb, hml, hown, hts, hr, hlk, hK, hN⟩ := C0
  obtain ⟨hP, hD, hS⟩ := hw
  have hA : ∀ q : Nat, s.heap.size ≤ q → va_A [(h0, .inr (6, [.null, .null, .null, .int 0, .int 0, .int 0, .int 0, .int 0, .int 0, .int 0, .int 0, .int 0]))] s.heap.size q := fun q h => Or.inr h
  generalize hQ : MQ below (QcK D (i6 cy) 6 h0 (va_A [(h0, .inr (6, [.null, .null, .null, .int 0, .int 0, .int 0, .int 0, .int 0, .int 0, .int 0, .int 0, .int 0]))] s.heap.size)) ([.ref h0] : List Value).toArray s 3 181 (va_A [(h0, .inr (6, [.null, .null, .null, .int 0, .int 0, .int 0, .int 0, .int 0, .int 0, .int 0, .int 0, .int 0]))] s.heap.size) = Q
  generalize hAe : va_A [(h0, .inr (6, [.null, .null, .null, .int 0, .int 0, .int 0, .int 0, .int 0, .int 0, .int 0, .int 0, .int 0]))] s.heap.size = A at hQ hD hS hA
  have hP : va_P D vwCl [(h0, .inr (6, [.null, .null, .null, .int 0, .int 0, .int 0, .int 0, .int 0, .int 0, .int 0, .int 0, .int 0]))] s.heap := hP
  refine lv_aload_n hx hb dX6_init_0 rfl (lv_at hl 0 rfl) ?_
  refine W.objInit hx hb hown (hts _ (wd_1 (w := .methodLink RX6 3 objectInit) (i := 158) (by decide +kernel) rfl)) (hts _ (wd_1 (w := .instanceMethod objectInit) (i := 26) (by decide +kernel) rfl)) (hts _ (wd_1 (w := .code objectInit ⟨#[0xb1]⟩ 1 none) (i := 27) (by decide +kernel) rfl)) rfl (by rw [hml]; exact hl.1) rfl dX6_init_1 (Nat.le_of_ble_eq_true rfl) (Nat.le_of_ble_eq_true rfl) ?_
  refine W.eq (g2 := F0 m 4 ls []) rfl ?_
  refine lv_aload_n hx hb dX6_init_4 rfl (lv_at hl 0 rfl) ?_
  refine lv_sipush (v := 160) hx hb dX6_init_5 (by decide) ?_
  refine nw_char (N' := 160) hx hb hts hK hP hD hS hA (by decide) (by decide) (Nat.le_of_ble_eq_true rfl) (Nat.le_of_ble_eq_true rfl) (Nat.le_of_ble_eq_true rfl) dX6_init_8 (fun q_8 H hP hD hS => ?_)
  have hP : va_P D vwCl ([(h0, .inr (6, [.null, .null, .null, .int 0, .int 0, .int 0, .int 0, .int 0, .int 0, .int 0, .int 0, .int 0])), (q_8, .inl (cy 3, 160, .inl (fun _ => 0)))]) H := hP
  have hD : va_D A ([(h0, .inr (6, [.null, .null, .null, .int 0, .int 0, .int 0, .int 0, .int 0, .int 0, .int 0, .int 0, .int 0])), (q_8, .inl (cy 3, 160, .inl (fun _ => 0)))]) := hD
  refine W.widen (k := 1) (n := 160) (Nat.le_of_ble_eq_true rfl) (Nat.le_of_ble_eq_true rfl) ?_
  refine va_putF (D := D) (ci := 6) (v := .ref q_8) (ty := (tyX6 0)) (C := RX6) (T := TX6) (N := 12) hx hb hts inX6 tyX6 tyX6_ok nmX6 hown hK hP hD hS 0 rfl rfl 0 (by decide) (hts _ (wd_1 (w := .fieldLink RX6 11 RX6 (TX6 0).2.1 (TX6 0).2.2.1) (i := 159) (by decide +kernel) rfl)) (fun _ h9 => h9) rfl hmn rfl (by decide +kernel) rfl rfl (Nat.le_of_ble_eq_true rfl) dX6_init_10 (fun H locs hP hD hS => ?_)
  have hP : va_P D vwCl ([(h0, .inr (6, [.ref q_8, .null, .null, .int 0, .int 0, .int 0, .int 0, .int 0, .int 0, .int 0, .int 0, .int 0])), (q_8, .inl (cy 3, 160, .inl (fun _ => 0)))]) H := hP
  have hD : va_D A ([(h0, .inr (6, [.ref q_8, .null, .null, .int 0, .int 0, .int 0, .int 0, .int 0, .int 0, .int 0, .int 0, .int 0])), (q_8, .inl (cy 3, 160, .inl (fun _ => 0)))]) := hD
  refine lv_aload_n hx hb dX6_init_13 rfl (lv_at hl 0 rfl) ?_
  refine lv_bipush (v := 12) hx hb dX6_init_14 (by decide) ?_
  refine nw_int (N' := 12) hx hb hts hK hP hD hS hA (by decide) (by decide) (Nat.le_of_ble_eq_true rfl) (Nat.le_of_ble_eq_true rfl) (Nat.le_of_ble_eq_true rfl) dX6_init_16 (fun q_16 H hP hD hS => ?_)
  have hP : va_P D vwCl ([(h0, .inr (6, [.ref q_8, .null, .null, .int 0, .int 0, .int 0, .int 0, .int 0, .int 0, .int 0, .int 0, .int 0])), (q_8, .inl (cy 3, 160, .inl (fun _ => 0))), (q_16, .inl (cy 0, 12, .inl (fun _ => 0)))]) H := hP
  have hD : va_D A ([(h0, .inr (6, [.ref q_8, .null, .null, .int 0, .int 0, .int 0, .int 0, .int 0, .int 0, .int 0, .int 0, .int 0])), (q_8, .inl (cy 3, 160, .inl (fun _ => 0))), (q_16, .inl (cy 0, 12, .inl (fun _ => 0)))]) := hD
  refine W.widen (k := 2) (n := 172) (Nat.le_of_ble_eq_true rfl) (Nat.le_of_ble_eq_true rfl) ?_
  refine va_putF (D := D) (ci := 6) (v := .ref q_16) (ty := (tyX6 1)) (C := RX6) (T := TX6) (N := 12) hx hb hts inX6 tyX6 tyX6_ok nmX6 hown hK hP hD hS 0 rfl rfl 1 (by decide) (hts _ (wd_1 (w := .fieldLink RX6 15 RX6 (TX6 1).2.1 (TX6 1).2.2.1) (i := 160) (by decide +kernel) rfl)) (fun _ h9 => h9) rfl hmn rfl (by decide +kernel) rfl rfl (Nat.le_of_ble_eq_true rfl) dX6_init_18 (fun H locs hP hD hS => ?_)
  have hP : va_P D vwCl ([(h0, .inr (6, [.ref q_8, .ref q_16, .null, .int 0, .int 0, .int 0, .int 0, .int 0, .int 0, .int 0, .int 0, .int 0])), (q_8, .inl (cy 3, 160, .inl (fun _ => 0))), (q_16, .inl (cy 0, 12, .inl (fun _ => 0)))]) H := hP
  have hD : va_D A ([(h0, .inr (6, [.ref q_8, .ref q_16, .null, .int 0, .int 0, .int 0, .int 0, .int 0, .int 0, .int 0, .int 0, .int 0])), (q_8, .inl (cy 3, 160, .inl (fun _ => 0))), (q_16, .inl (cy 0, 12, .inl (fun _ => 0)))]) := hD
  refine lv_aload_n hx hb dX6_init_21 rfl (lv_at hl 0 rfl) ?_
  refine lv_bipush (v := 9) hx hb dX6_init_22 (by decide) ?_
  refine nw_long (N' := 9) hx hb hts hK hP hD hS hA (by decide) (by decide) (Nat.le_of_ble_eq_true rfl) (Nat.le_of_ble_eq_true rfl) (Nat.le_of_ble_eq_true rfl) dX6_init_24 (fun q_24 H hP hD hS => ?_)
  have hP : va_P D vwCl ([(h0, .inr (6, [.ref q_8, .ref q_16, .null, .int 0, .int 0, .int 0, .int 0, .int 0, .int 0, .int 0, .int 0, .int 0])), (q_8, .inl (cy 3, 160, .inl (fun _ => 0))), (q_16, .inl (cy 0, 12, .inl (fun _ => 0))), (q_24, .inl (cy 1, 9, .inr (.inl (fun _ => 0))))]) H := hP
  have hD : va_D A ([(h0, .inr (6, [.ref q_8, .ref q_16, .null, .int 0, .int 0, .int 0, .int 0, .int 0, .int 0, .int 0, .int 0, .int 0])), (q_8, .inl (cy 3, 160, .inl (fun _ => 0))), (q_16, .inl (cy 0, 12, .inl (fun _ => 0))), (q_24, .inl (cy 1, 9, .inr (.inl (fun _ => 0))))]) := hD
  refine W.widen (k := 3) (n := 181) (Nat.le_of_ble_eq_true rfl) (Nat.le_of_ble_eq_true rfl) ?_
  refine va_putF (D := D) (ci := 6) (v := .ref q_24) (ty := (tyX6 2)) (C := RX6) (T := TX6) (N := 12) hx hb hts inX6 tyX6 tyX6_ok nmX6 hown hK hP hD hS 0 rfl rfl 2 (by decide) (hts _ (wd_1 (w := .fieldLink RX6 19 RX6 (TX6 2).2.1 (TX6 2).2.2.1) (i := 161) (by decide +kernel) rfl)) (fun _ h9 => h9) rfl hmn rfl (by decide +kernel) rfl rfl (Nat.le_of_ble_eq_true rfl) dX6_init_26 (fun H locs hP hD hS => ?_)
  have hP : va_P D vwCl ([(h0, .inr (6, [.ref q_8, .ref q_16, .ref q_24, .int 0, .int 0, .int 0, .int 0, .int 0, .int 0, .int 0, .int 0, .int 0])), (q_8, .inl (cy 3, 160, .inl (fun _ => 0))), (q_16, .inl (cy 0, 12, .inl (fun _ => 0))), (q_24, .inl (cy 1, 9, .inr (.inl (fun _ => 0))))]) H := hP
  have hD : va_D A ([(h0, .inr (6, [.ref q_8, .ref q_16, .ref q_24, .int 0, .int 0, .int 0, .int 0, .int 0, .int 0, .int 0, .int 0, .int 0])), (q_8, .inl (cy 3, 160, .inl (fun _ => 0))), (q_16, .inl (cy 0, 12, .inl (fun _ => 0))), (q_24, .inl (cy 1, 9, .inr (.inl (fun _ => 0))))]) := hD
  refine lv_aload_n hx hb dX6_init_29 rfl (lv_at hl 0 rfl) ?_
  refine lv_iconst (v := 0) hx hb dX6_init_30 (by decide) ?_
  refine va_put (D := D) (ci := 6) (v := .int 0) (ty := (tyX6 3)) (C := RX6) (T := TX6) (N := 12) hx hb hts inX6 tyX6 tyX6_ok nmX6 hown hK hP hD hS 0 rfl rfl 3 (by decide) (hts _ (wd_1 (w := .fieldLink RX6 23 RX6 (TX6 3).2.1 (TX6 3).2.2.1) (i := 162) (by decide +kernel) rfl)) (fun _ h9 => h9) rfl (by decide +kernel) rfl rfl (Nat.le_of_ble_eq_true rfl) dX6_init_31 (fun H locs hP hD hS => ?_)
  have hP : va_P D vwCl ([(h0, .inr (6, [.ref q_8, .ref q_16, .ref q_24, .int 0, .int 0, .int 0, .int 0, .int 0, .int 0, .int 0, .int 0, .int 0])), (q_8, .inl (cy 3, 160, .inl (fun _ => 0))), (q_16, .inl (cy 0, 12, .inl (fun _ => 0))), (q_24, .inl (cy 1, 9, .inr (.inl (fun _ => 0))))]) H := hP
  have hD : va_D A ([(h0, .inr (6, [.ref q_8, .ref q_16, .ref q_24, .int 0, .int 0, .int 0, .int 0, .int 0, .int 0, .int 0, .int 0, .int 0])), (q_8, .inl (cy 3, 160, .inl (fun _ => 0))), (q_16, .inl (cy 0, 12, .inl (fun _ => 0))), (q_24, .inl (cy 1, 9, .inr (.inl (fun _ => 0))))]) := hD
  refine lv_aload_n hx hb dX6_init_34 rfl (lv_at hl 0 rfl) ?_
  refine lv_iconst (v := 0) hx hb dX6_init_35 (by decide) ?_
  refine va_put (D := D) (ci := 6) (v := .int 0) (ty := (tyX6 4)) (C := RX6) (T := TX6) (N := 12) hx hb hts inX6 tyX6 tyX6_ok nmX6 hown hK hP hD hS 0 rfl rfl 4 (by decide) (hts _ (wd_1 (w := .fieldLink RX6 27 RX6 (TX6 4).2.1 (TX6 4).2.2.1) (i := 163) (by decide +kernel) rfl)) (fun _ h9 => h9) rfl (by decide +kernel) rfl rfl (Nat.le_of_ble_eq_true rfl) dX6_init_36 (fun H locs hP hD hS => ?_)
  have hP : va_P D vwCl ([(h0, .inr (6, [.ref q_8, .ref q_16, .ref q_24, .int 0, .int 0, .int 0, .int 0, .int 0, .int 0, .int 0, .int 0, .int 0])), (q_8, .inl (cy 3, 160, .inl (fun _ => 0))), (q_16, .inl (cy 0, 12, .inl (fun _ => 0))), (q_24, .inl (cy 1, 9, .inr (.inl (fun _ => 0))))]) H := hP
  have hD : va_D A ([(h0, .inr (6, [.ref q_8, .ref q_16, .ref q_24, .int 0, .int 0, .int 0, .int 0, .int 0, .int 0, .int 0, .int 0, .int 0])), (q_8, .inl (cy 3, 160, .inl (fun _ => 0))), (q_16, .inl (cy 0, 12, .inl (fun _ => 0))), (q_24, .inl (cy 1, 9, .inr (.inl (fun _ => 0))))]) := hD
  refine lv_aload_n hx hb dX6_init_39 rfl (lv_at hl 0 rfl) ?_
  refine lv_iconst (v := 0) hx hb dX6_init_40 (by decide) ?_
  refine va_put (D := D) (ci := 6) (v := .int 0) (ty := (tyX6 5)) (C := RX6) (T := TX6) (N := 12) hx hb hts inX6 tyX6 tyX6_ok nmX6 hown hK hP hD hS 0 rfl rfl 5 (by decide) (hts _ (wd_1 (w := .fieldLink RX6 30 RX6 (TX6 5).2.1 (TX6 5).2.2.1) (i := 164) (by decide +kernel) rfl)) (fun _ h9 => h9) rfl (by decide +kernel) rfl rfl (Nat.le_of_ble_eq_true rfl) dX6_init_41 (fun H locs hP hD hS => ?_)
  have hP : va_P D vwCl ([(h0, .inr (6, [.ref q_8, .ref q_16, .ref q_24, .int 0, .int 0, .int 0, .int 0, .int 0, .int 0, .int 0, .int 0, .int 0])), (q_8, .inl (cy 3, 160, .inl (fun _ => 0))), (q_16, .inl (cy 0, 12, .inl (fun _ => 0))), (q_24, .inl (cy 1, 9, .inr (.inl (fun _ => 0))))]) H := hP
  have hD : va_D A ([(h0, .inr (6, [.ref q_8, .ref q_16, .ref q_24, .int 0, .int 0, .int 0, .int 0, .int 0, .int 0, .int 0, .int 0, .int 0])), (q_8, .inl (cy 3, 160, .inl (fun _ => 0))), (q_16, .inl (cy 0, 12, .inl (fun _ => 0))), (q_24, .inl (cy 1, 9, .inr (.inl (fun _ => 0))))]) := hD
  refine lv_aload_n hx hb dX6_init_44 rfl (lv_at hl 0 rfl) ?_
  refine lv_iconst (v := 0) hx hb dX6_init_45 (by decide) ?_
  refine va_put (D := D) (ci := 6) (v := .int 0) (ty := (tyX6 6)) (C := RX6) (T := TX6) (N := 12) hx hb hts inX6 tyX6 tyX6_ok nmX6 hown hK hP hD hS 0 rfl rfl 6 (by decide) (hts _ (wd_1 (w := .fieldLink RX6 33 RX6 (TX6 6).2.1 (TX6 6).2.2.1) (i := 165) (by decide +kernel) rfl)) (fun _ h9 => h9) rfl (by decide +kernel) rfl rfl (Nat.le_of_ble_eq_true rfl) dX6_init_46 (fun H locs hP hD hS => ?_)
  have hP : va_P D vwCl ([(h0, .inr (6, [.ref q_8, .ref q_16, .ref q_24, .int 0, .int 0, .int 0, .int 0, .int 0, .int 0, .int 0, .int 0, .int 0])), (q_8, .inl (cy 3, 160, .inl (fun _ => 0))), (q_16, .inl (cy 0, 12, .inl (fun _ => 0))), (q_24, .inl (cy 1, 9, .inr (.inl (fun _ => 0))))]) H := hP
  have hD : va_D A ([(h0, .inr (6, [.ref q_8, .ref q_16, .ref q_24, .int 0, .int 0, .int 0, .int 0, .int 0, .int 0, .int 0, .int 0, .int 0])), (q_8, .inl (cy 3, 160, .inl (fun _ => 0))), (q_16, .inl (cy 0, 12, .inl (fun _ => 0))), (q_24, .inl (cy 1, 9, .inr (.inl (fun _ => 0))))]) := hD
  refine lv_aload_n hx hb dX6_init_49 rfl (lv_at hl 0 rfl) ?_
  refine lv_iconst (v := 0) hx hb dX6_init_50 (by decide) ?_
  refine va_put (D := D) (ci := 6) (v := .int 0) (ty := (tyX6 7)) (C := RX6) (T := TX6) (N := 12) hx hb hts inX6 tyX6 tyX6_ok nmX6 hown hK hP hD hS 0 rfl rfl 7 (by decide) (hts _ (wd_1 (w := .fieldLink RX6 36 RX6 (TX6 7).2.1 (TX6 7).2.2.1) (i := 166) (by decide +kernel) rfl)) (fun _ h9 => h9) rfl (by decide +kernel) rfl rfl (Nat.le_of_ble_eq_true rfl) dX6_init_51 (fun H locs hP hD hS => ?_)
  have hP : va_P D vwCl ([(h0, .inr (6, [.ref q_8, .ref q_16, .ref q_24, .int 0, .int 0, .int 0, .int 0, .int 0, .int 0, .int 0, .int 0, .int 0])), (q_8, .inl (cy 3, 160, .inl (fun _ => 0))), (q_16, .inl (cy 0, 12, .inl (fun _ => 0))), (q_24, .inl (cy 1, 9, .inr (.inl (fun _ => 0))))]) H := hP
  have hD : va_D A ([(h0, .inr (6, [.ref q_8, .ref q_16, .ref q_24, .int 0, .int 0, .int 0, .int 0, .int 0, .int 0, .int 0, .int 0, .int 0])), (q_8, .inl (cy 3, 160, .inl (fun _ => 0))), (q_16, .inl (cy 0, 12, .inl (fun _ => 0))), (q_24, .inl (cy 1, 9, .inr (.inl (fun _ => 0))))]) := hD
  refine lv_aload_n hx hb dX6_init_54 rfl (lv_at hl 0 rfl) ?_
  refine lv_iconst (v := (-1)) hx hb dX6_init_55 (by decide) ?_
  refine va_put (D := D) (ci := 6) (v := .int (-1)) (ty := (tyX6 8)) (C := RX6) (T := TX6) (N := 12) hx hb hts inX6 tyX6 tyX6_ok nmX6 hown hK hP hD hS 0 rfl rfl 8 (by decide) (hts _ (wd_1 (w := .fieldLink RX6 39 RX6 (TX6 8).2.1 (TX6 8).2.2.1) (i := 167) (by decide +kernel) rfl)) (fun _ h9 => h9) rfl (by decide +kernel) rfl rfl (Nat.le_of_ble_eq_true rfl) dX6_init_56 (fun H locs hP hD hS => ?_)
  have hP : va_P D vwCl ([(h0, .inr (6, [.ref q_8, .ref q_16, .ref q_24, .int 0, .int 0, .int 0, .int 0, .int 0, .int (-1), .int 0, .int 0, .int 0])), (q_8, .inl (cy 3, 160, .inl (fun _ => 0))), (q_16, .inl (cy 0, 12, .inl (fun _ => 0))), (q_24, .inl (cy 1, 9, .inr (.inl (fun _ => 0))))]) H := hP
  have hD : va_D A ([(h0, .inr (6, [.ref q_8, .ref q_16, .ref q_24, .int 0, .int 0, .int 0, .int 0, .int 0, .int (-1), .int 0, .int 0, .int 0])), (q_8, .inl (cy 3, 160, .inl (fun _ => 0))), (q_16, .inl (cy 0, 12, .inl (fun _ => 0))), (q_24, .inl (cy 1, 9, .inr (.inl (fun _ => 0))))]) := hD
  refine lv_aload_n hx hb dX6_init_59 rfl (lv_at hl 0 rfl) ?_
  refine lv_iconst (v := 0) hx hb dX6_init_60 (by decide) ?_
  refine va_put (D := D) (ci := 6) (v := .int 0) (ty := (tyX6 9)) (C := RX6) (T := TX6) (N := 12) hx hb hts inX6 tyX6 tyX6_ok nmX6 hown hK hP hD hS 0 rfl rfl 9 (by decide) (hts _ (wd_1 (w := .fieldLink RX6 42 RX6 (TX6 9).2.1 (TX6 9).2.2.1) (i := 168) (by decide +kernel) rfl)) (fun _ h9 => h9) rfl (by decide +kernel) rfl rfl (Nat.le_of_ble_eq_true rfl) dX6_init_61 (fun H locs hP hD hS => ?_)
  have hP : va_P D vwCl ([(h0, .inr (6, [.ref q_8, .ref q_16, .ref q_24, .int 0, .int 0, .int 0, .int 0, .int 0, .int (-1), .int 0, .int 0, .int 0])), (q_8, .inl (cy 3, 160, .inl (fun _ => 0))), (q_16, .inl (cy 0, 12, .inl (fun _ => 0))), (q_24, .inl (cy 1, 9, .inr (.inl (fun _ => 0))))]) H := hP
  have hD : va_D A ([(h0, .inr (6, [.ref q_8, .ref q_16, .ref q_24, .int 0, .int 0, .int 0, .int 0, .int 0, .int (-1), .int 0, .int 0, .int 0])), (q_8, .inl (cy 3, 160, .inl (fun _ => 0))), (q_16, .inl (cy 0, 12, .inl (fun _ => 0))), (q_24, .inl (cy 1, 9, .inr (.inl (fun _ => 0))))]) := hD
  refine lv_aload_n hx hb dX6_init_64 rfl (lv_at hl 0 rfl) ?_
  refine lv_iconst (v := 0) hx hb dX6_init_65 (by decide) ?_
  refine va_put (D := D) (ci := 6) (v := .int 0) (ty := (tyX6 10)) (C := RX6) (T := TX6) (N := 12) hx hb hts inX6 tyX6 tyX6_ok nmX6 hown hK hP hD hS 0 rfl rfl 10 (by decide) (hts _ (wd_1 (w := .fieldLink RX6 45 RX6 (TX6 10).2.1 (TX6 10).2.2.1) (i := 169) (by decide +kernel) rfl)) (fun _ h9 => h9) rfl (by decide +kernel) rfl rfl (Nat.le_of_ble_eq_true rfl) dX6_init_66 (fun H locs hP hD hS => ?_)
  have hP : va_P D vwCl ([(h0, .inr (6, [.ref q_8, .ref q_16, .ref q_24, .int 0, .int 0, .int 0, .int 0, .int 0, .int (-1), .int 0, .int 0, .int 0])), (q_8, .inl (cy 3, 160, .inl (fun _ => 0))), (q_16, .inl (cy 0, 12, .inl (fun _ => 0))), (q_24, .inl (cy 1, 9, .inr (.inl (fun _ => 0))))]) H := hP
  have hD : va_D A ([(h0, .inr (6, [.ref q_8, .ref q_16, .ref q_24, .int 0, .int 0, .int 0, .int 0, .int 0, .int (-1), .int 0, .int 0, .int 0])), (q_8, .inl (cy 3, 160, .inl (fun _ => 0))), (q_16, .inl (cy 0, 12, .inl (fun _ => 0))), (q_24, .inl (cy 1, 9, .inr (.inl (fun _ => 0))))]) := hD
  refine lv_aload_n hx hb dX6_init_69 rfl (lv_at hl 0 rfl) ?_
  refine lv_iconst (v := 0) hx hb dX6_init_70 (by decide) ?_
  refine va_put (D := D) (ci := 6) (v := .int 0) (ty := (tyX6 11)) (C := RX6) (T := TX6) (N := 12) hx hb hts inX6 tyX6 tyX6_ok nmX6 hown hK hP hD hS 0 rfl rfl 11 (by decide) (hts _ (wd_1 (w := .fieldLink RX6 48 RX6 (TX6 11).2.1 (TX6 11).2.2.1) (i := 170) (by decide +kernel) rfl)) (fun _ h9 => h9) rfl (by decide +kernel) rfl rfl (Nat.le_of_ble_eq_true rfl) dX6_init_71 (fun H locs hP hD hS => ?_)
  have hP : va_P D vwCl ([(h0, .inr (6, [.ref q_8, .ref q_16, .ref q_24, .int 0, .int 0, .int 0, .int 0, .int 0, .int (-1), .int 0, .int 0, .int 0])), (q_8, .inl (cy 3, 160, .inl (fun _ => 0))), (q_16, .inl (cy 0, 12, .inl (fun _ => 0))), (q_24, .inl (cy 1, 9, .inr (.inl (fun _ => 0))))]) H := hP
  have hD : va_D A ([(h0, .inr (6, [.ref q_8, .ref q_16, .ref q_24, .int 0, .int 0, .int 0, .int 0, .int 0, .int (-1), .int 0, .int 0, .int 0])), (q_8, .inl (cy 3, 160, .inl (fun _ => 0))), (q_16, .inl (cy 0, 12, .inl (fun _ => 0))), (q_24, .inl (cy 1, 9, .inr (.inl (fun _ => 0))))]) := hD
  rw [← hQ]
  exact W.vret hx hb hr (fun t ht _ => ⟨⟨(fun o j => if o = 6 then (if j = 99 then h0 else ([q_8, q_16, q_24, 0, 0, 0, 0, 0, 0, 0, 0, 0] : List Nat).getD j 0) else 0), rfl, rfl, by rw [ht]; exact hP, hD⟩, by rw [← hAe] at hS ⊢; exact hS.F ht⟩) hS.2.2 dX6_init_74 hlk
theorem dX5_init_0 : decode cX5_init 0 = .ok (.aload_n 0, 1) := by decide +kernel
theorem dX5_init_1 : decode cX5_init 1 = .ok (.invokespecial 5, 3) := by decide +kernel
theorem dX5_init_4 : decode cX5_init 4 = .ok (.aload_n 0, 1) := by decide +kernel
theorem dX5_init_5 : decode cX5_init 5 = .ok (.sipush 3200, 3) := by decide +kernel
theorem dX5_init_8 : decode cX5_init 8 = .ok (.newarray .char, 2) := by decide +kernel
theorem dX5_init_10 : decode cX5_init 10 = .ok (.putfield 13, 3) := by decide +kernel
theorem dX5_init_13 : decode cX5_init 13 = .ok (.aload_n 0, 1) := by decide +kernel
theorem dX5_init_14 : decode cX5_init 14 = .ok (.bipush 20, 2) := by decide +kernel
theorem dX5_init_16 : decode cX5_init 16 = .ok (.newarray .int, 2) := by decide +kernel
theorem dX5_init_18 : decode cX5_init 18 = .ok (.putfield 17, 3) := by decide +kernel
theorem dX5_init_21 : decode cX5_init 21 = .ok (.aload_n 0, 1) := by decide +kernel
theorem dX5_init_22 : decode cX5_init 22 = .ok (.bipush 20, 2) := by decide +kernel
theorem dX5_init_24 : decode cX5_init 24 = .ok (.newarray .int, 2) := by decide +kernel
theorem dX5_init_26 : decode cX5_init 26 = .ok (.putfield 21, 3) := by decide +kernel
theorem dX5_init_29 : decode cX5_init 29 = .ok (.aload_n 0, 1) := by decide +kernel
theorem dX5_init_30 : decode cX5_init 30 = .ok (.bipush 20, 2) := by decide +kernel
theorem dX5_init_32 : decode cX5_init 32 = .ok (.newarray .int, 2) := by decide +kernel
theorem dX5_init_34 : decode cX5_init 34 = .ok (.putfield 24, 3) := by decide +kernel
theorem dX5_init_37 : decode cX5_init 37 = .ok (.aload_n 0, 1) := by decide +kernel
theorem dX5_init_38 : decode cX5_init 38 = .ok (.bipush 20, 2) := by decide +kernel
theorem dX5_init_40 : decode cX5_init 40 = .ok (.newarray .int, 2) := by decide +kernel
theorem dX5_init_42 : decode cX5_init 42 = .ok (.putfield 27, 3) := by decide +kernel
theorem dX5_init_45 : decode cX5_init 45 = .ok (.aload_n 0, 1) := by decide +kernel
theorem dX5_init_46 : decode cX5_init 46 = .ok (.sipush 240, 3) := by decide +kernel
theorem dX5_init_49 : decode cX5_init 49 = .ok (.newarray .int, 2) := by decide +kernel
theorem dX5_init_51 : decode cX5_init 51 = .ok (.putfield 30, 3) := by decide +kernel
theorem dX5_init_54 : decode cX5_init 54 = .ok (.aload_n 0, 1) := by decide +kernel
theorem dX5_init_55 : decode cX5_init 55 = .ok (.bipush 20, 2) := by decide +kernel
theorem dX5_init_57 : decode cX5_init 57 = .ok (.newarray .int, 2) := by decide +kernel
theorem dX5_init_59 : decode cX5_init 59 = .ok (.putfield 33, 3) := by decide +kernel
theorem dX5_init_62 : decode cX5_init 62 = .ok (.aload_n 0, 1) := by decide +kernel
theorem dX5_init_63 : decode cX5_init 63 = .ok (.new 1, 3) := by decide +kernel
theorem dX5_init_66 : decode cX5_init 66 = .ok (.dup, 1) := by decide +kernel
theorem dX5_init_67 : decode cX5_init 67 = .ok (.invokespecial 36, 3) := by decide +kernel
theorem dX5_init_70 : decode cX5_init 70 = .ok (.putfield 37, 3) := by decide +kernel
theorem dX5_init_73 : decode cX5_init 73 = .ok (.aload_n 0, 1) := by decide +kernel
theorem dX5_init_74 : decode cX5_init 74 = .ok (.iconst 0, 1) := by decide +kernel
theorem dX5_init_75 : decode cX5_init 75 = .ok (.putfield 41, 3) := by decide +kernel
theorem dX5_init_78 : decode cX5_init 78 = .ok (.aload_n 0, 1) := by decide +kernel
theorem dX5_init_79 : decode cX5_init 79 = .ok (.iconst 0, 1) := by decide +kernel
theorem dX5_init_80 : decode cX5_init 80 = .ok (.putfield 45, 3) := by decide +kernel
theorem dX5_init_83 : decode cX5_init 83 = .ok (.aload_n 0, 1) := by decide +kernel
theorem dX5_init_84 : decode cX5_init 84 = .ok (.iconst (-1), 1) := by decide +kernel
theorem dX5_init_85 : decode cX5_init 85 = .ok (.putfield 49, 3) := by decide +kernel
theorem dX5_init_88 : decode cX5_init 88 = .ok (.aload_n 0, 1) := by decide +kernel
theorem dX5_init_89 : decode cX5_init 89 = .ok (.iconst (-1), 1) := by decide +kernel
theorem dX5_init_90 : decode cX5_init 90 = .ok (.putfield 52, 3) := by decide +kernel
theorem dX5_init_93 : decode cX5_init 93 = .ok (.return_, 1) := by decide +kernel
def i5 (cy : Nat → ClassId) (u : US) : va_W := [(u 5 99, .inr (5, [.ref (u 5 0), .ref (u 5 1), .ref (u 5 2), .ref (u 5 3), .ref (u 5 4), .ref (u 5 5), .ref (u 5 6), .ref (u 6 99), .int 0, .int 0, .int (-1), .int (-1)])), (u 5 0, .inl (cy 3, 3200, .inl (fun _ => 0))), (u 5 1, .inl (cy 0, 20, .inl (fun _ => 0))), (u 5 2, .inl (cy 0, 20, .inl (fun _ => 0))), (u 5 3, .inl (cy 0, 20, .inl (fun _ => 0))), (u 5 4, .inl (cy 0, 20, .inl (fun _ => 0))), (u 5 5, .inl (cy 0, 240, .inl (fun _ => 0))), (u 5 6, .inl (cy 0, 20, .inl (fun _ => 0)))] ++ i6 cy u
set_option maxHeartbeats 8000000 in
set_option maxRecDepth 100000 in
theorem k5 (l : Launch) (D : va_G) (cy : Nat → ClassId) (sz h0 : Nat) : Met l yX5_init (wsOf yX5_init cX5_init 1 none) (rmK 2 11 3733) (va_Pc [.ref h0] (PreG D cy [(h0, .inr (5, [.null, .null, .null, .null, .null, .null, .null, .null, .int 0, .int 0, .int 0, .int 0]))] sz NM)) (QcK D (i5 cy) 5 h0 (va_A [(h0, .inr (5, [.null, .null, .null, .null, .null, .null, .null, .null, .int 0, .int 0, .int 0, .int 0]))] sz)) 11 3733 (va_A [(h0, .inr (5, [.null, .null, .null, .null, .null, .null, .null, .null, .int 0, .int 0, .int 0, .int 0]))] sz) := by
  refine metK (own := RX5) (by decide) rfl (Nat.le_of_ble_eq_true rfl) rfl ?_ sz
  intro p e s m below meth c ls C0 hmn hw hl
  obtain ⟨hx, hb, hml, hown, hts, hr, hlk, hK, hN⟩ := C0
  obtain ⟨hP, hD, hS⟩ := hw
  have hA : ∀ q : Nat, s.heap.size ≤ q → va_A [(h0, .inr (5, [.null, .null, .null, .null, .null, .null, .null, .null, .int 0, .int 0, .int 0, .int 0]))] s.heap.size q := fun q h => Or.inr h
  generalize hQ : MQ below (QcK D (i5 cy) 5 h0 (va_A [(h0, .inr (5, [.null, .null, .null, .null, .null, .null, .null, .null, .int 0, .int 0, .int 0, .int 0]))] s.heap.size)) ([.ref h0] : List Value).toArray s 11 3733 (va_A [(h0, .inr (5, [.null, .null, .null, .null, .null, .null, .null, .null, .int 0, .int 0, .int 0, .int 0]))] s.heap.size) = Q
  generalize hAe : va_A [(h0, .inr (5, [.null, .null, .null, .null, .null, .null, .null, .null, .int 0, .int 0, .int 0, .int 0]))] s.heap.size = A at hQ hD hS hA
  have hP : va_P D vwCl [(h0, .inr (5, [.null, .null, .null, .null, .null, .null, .null, .null, .int 0, .int 0, .int 0, .int 0]))] s.heap := hP
  refine lv_aload_n hx hb dX5_init_0 rfl (lv_at hl 0 rfl) ?_
  refine W.objInit hx hb hown (hts _ (wd_1 (w := .methodLink RX5 5 objectInit) (i := 152) (by decide +kernel) rfl)) (hts _ (wd_1 (w := .instanceMethod objectInit) (i := 26) (by decide +kernel) rfl)) (hts _ (wd_1 (w := .code objectInit ⟨#[0xb1]⟩ 1 none) (i := 27) (by decide +kernel) rfl)) rfl (by rw [hml]; exact hl.1) rfl dX5_init_1 (Nat.le_of_ble_eq_true rfl) (Nat.le_of_ble_eq_true rfl) ?_
  refine W.eq (g2 := F0 m 4 ls []) rfl ?_
  refine lv_aload_n hx hb dX5_init_4 rfl (lv_at hl 0 rfl) ?_
  refine lv_sipush (v := 3200) hx hb dX5_init_5 (by decide) ?_
  refine nw_char (N' := 3200) hx hb hts hK hP hD hS hA (by decide) (by decide) (Nat.le_of_ble_eq_true rfl) (Nat.le_of_ble_eq_true rfl) (Nat.le_of_ble_eq_true rfl) dX5_init_8 (fun q_8 H hP hD hS => ?_)
  have hP : va_P D vwCl ([(h0, .inr (5, [.null, .null, .null, .null, .null, .null, .null, .null, .int 0, .int 0, .int 0, .int 0])), (q_8, .inl (cy 3, 3200, .inl (fun _ => 0)))]) H := hP
  have hD : va_D A ([(h0, .inr (5, [.null, .null, .null, .null, .null, .null, .null, .null, .int 0, .int 0, .int 0, .int 0])), (q_8, .inl (cy 3, 3200, .inl (fun _ => 0)))]) := hD
  refine W.widen (k := 1) (n := 3200) (Nat.le_of_ble_eq_true rfl) (Nat.le_of_ble_eq_true rfl) ?_
  refine va_putF (D := D) (ci := 5) (v := .ref q_8) (ty := (tyX5 0)) (C := RX5) (T := TX5) (N := 12) hx hb hts inX5 tyX5 tyX5_ok nmX5 hown hK hP hD hS 0 rfl rfl 0 (by decide) (hts _ (wd_1 (w := .fieldLink RX5 13 RX5 (TX5 0).2.1 (TX5 0).2.2.1) (i := 196) (by decide +kernel) rfl)) (fun _ h9 => h9) rfl hmn rfl (by decide +kernel) rfl rfl (Nat.le_of_ble_eq_true rfl) dX5_init_10 (fun H locs hP hD hS => ?_)
  have hP : va_P D vwCl ([(h0, .inr (5, [.ref q_8, .null, .null, .null, .null, .null, .null, .null, .int 0, .int 0, .int 0, .int 0])), (q_8, .inl (cy 3, 3200, .inl (fun _ => 0)))]) H := hP
  have hD : va_D A ([(h0, .inr (5, [.ref q_8, .null, .null, .null, .null, .null, .null, .null, .int 0, .int 0, .int 0, .int 0])), (q_8, .inl (cy 3, 3200, .inl (fun _ => 0)))]) := hD
  refine lv_aload_n hx hb dX5_init_13 rfl (lv_at hl 0 rfl) ?_
  refine lv_bipush (v := 20) hx hb dX5_init_14 (by decide) ?_
  refine nw_int (N' := 20) hx hb hts hK hP hD hS hA (by decide) (by decide) (Nat.le_of_ble_eq_true rfl) (Nat.le_of_ble_eq_true rfl) (Nat.le_of_ble_eq_true rfl) dX5_init_16 (fun q_16 H hP hD hS => ?_)
  have hP : va_P D vwCl ([(h0, .inr (5, [.ref q_8, .null, .null, .null, .null, .null, .null, .null, .int 0, .int 0, .int 0, .int 0])), (q_8, .inl (cy 3, 3200, .inl (fun _ => 0))), (q_16, .inl (cy 0, 20, .inl (fun _ => 0)))]) H := hP
  have hD : va_D A ([(h0, .inr (5, [.ref q_8, .null, .null, .null, .null, .null, .null, .null, .int 0, .int 0, .int 0, .int 0])), (q_8, .inl (cy 3, 3200, .inl (fun _ => 0))), (q_16, .inl (cy 0, 20, .inl (fun _ => 0)))]) := hD
  refine W.widen (k := 2) (n := 3220) (Nat.le_of_ble_eq_true rfl) (Nat.le_of_ble_eq_true rfl) ?_
  refine va_putF (D := D) (ci := 5) (v := .ref q_16) (ty := (tyX5 1)) (C := RX5) (T := TX5) (N := 12) hx hb hts inX5 tyX5 tyX5_ok nmX5 hown hK hP hD hS 0 rfl rfl 1 (by decide) (hts _ (wd_1 (w := .fieldLink RX5 17 RX5 (TX5 1).2.1 (TX5 1).2.2.1) (i := 197) (by decide +kernel) rfl)) (fun _ h9 => h9) rfl hmn rfl (by decide +kernel) rfl rfl (Nat.le_of_ble_eq_true rfl) dX5_init_18 (fun H locs hP hD hS => ?_)
  have hP : va_P D vwCl ([(h0, .inr (5, [.ref q_8, .ref q_16, .null, .null, .null, .null, .null, .null, .int 0, .int 0, .int 0, .int 0])), (q_8, .inl (cy 3, 3200, .inl (fun _ => 0))), (q_16, .inl (cy 0, 20, .inl (fun _ => 0)))]) H := hP
  have hD : va_D A ([(h0, .inr (5, [.ref q_8, .ref q_16, .null, .null, .null, .null, .null, .null, .int 0, .int 0, .int 0, .int 0])), (q_8, .inl (cy 3, 3200, .inl (fun _ => 0))), (q_16, .inl (cy 0, 20, .inl (fun _ => 0)))]) := hD
  refine lv_aload_n hx hb dX5_init_21 rfl (lv_at hl 0 rfl) ?_
  refine lv_bipush (v := 20) hx hb dX5_init_22 (by decide) ?_
  refine nw_int (N' := 20) hx hb hts hK hP hD hS hA (by decide) (by decide) (Nat.le_of_ble_eq_true rfl) (Nat.le_of_ble_eq_true rfl) (Nat.le_of_ble_eq_true rfl) dX5_init_24 (fun q_24 H hP hD hS => ?_)
  have hP : va_P D vwCl ([(h0, .inr (5, [.ref q_8, .ref q_16, .null, .null, .null, .null, .null, .null, .int 0, .int 0, .int 0, .int 0])), (q_8, .inl (cy 3, 3200, .inl (fun _ => 0))), (q_16, .inl (cy 0, 20, .inl (fun _ => 0))), (q_24, .inl (cy 0, 20, .inl (fun _ => 0)))]) H := hP
  have hD : va_D A ([(h0, .inr (5, [.ref q_8, .ref q_16, .null, .null, .null, .null, .null, .null, .int 0, .int 0, .int 0, .int 0])), (q_8, .inl (cy 3, 3200, .inl (fun _ => 0))), (q_16, .inl (cy 0, 20, .inl (fun _ => 0))), (q_24, .inl (cy 0, 20, .inl (fun _ => 0)))]) := hD
  refine W.widen (k := 3) (n := 3240) (Nat.le_of_ble_eq_true rfl) (Nat.le_of_ble_eq_true rfl) ?_
  refine va_putF (D := D) (ci := 5) (v := .ref q_24) (ty := (tyX5 2)) (C := RX5) (T := TX5) (N := 12) hx hb hts inX5 tyX5 tyX5_ok nmX5 hown hK hP hD hS 0 rfl rfl 2 (by decide) (hts _ (wd_1 (w := .fieldLink RX5 21 RX5 (TX5 2).2.1 (TX5 2).2.2.1) (i := 198) (by decide +kernel) rfl)) (fun _ h9 => h9) rfl hmn rfl (by decide +kernel) rfl rfl (Nat.le_of_ble_eq_true rfl) dX5_init_26 (fun H locs hP hD hS => ?_)
  have hP : va_P D vwCl ([(h0, .inr (5, [.ref q_8, .ref q_16, .ref q_24, .null, .null, .null, .null, .null, .int 0, .int 0, .int 0, .int 0])), (q_8, .inl (cy 3, 3200, .inl (fun _ => 0))), (q_16, .inl (cy 0, 20, .inl (fun _ => 0))), (q_24, .inl (cy 0, 20, .inl (fun _ => 0)))]) H := hP
  have hD : va_D A ([(h0, .inr (5, [.ref q_8, .ref q_16, .ref q_24, .null, .null, .null, .null, .null, .int 0, .int 0, .int 0, .int 0])), (q_8, .inl (cy 3, 3200, .inl (fun _ => 0))), (q_16, .inl (cy 0, 20, .inl (fun _ => 0))), (q_24, .inl (cy 0, 20, .inl (fun _ => 0)))]) := hD
  refine lv_aload_n hx hb dX5_init_29 rfl (lv_at hl 0 rfl) ?_
  refine lv_bipush (v := 20) hx hb dX5_init_30 (by decide) ?_
  refine nw_int (N' := 20) hx hb hts hK hP hD hS hA (by decide) (by decide) (Nat.le_of_ble_eq_true rfl) (Nat.le_of_ble_eq_true rfl) (Nat.le_of_ble_eq_true rfl) dX5_init_32 (fun q_32 H hP hD hS => ?_)
  have hP : va_P D vwCl ([(h0, .inr (5, [.ref q_8, .ref q_16, .ref q_24, .null, .null, .null, .null, .null, .int 0, .int 0, .int 0, .int 0])), (q_8, .inl (cy 3, 3200, .inl (fun _ => 0))), (q_16, .inl (cy 0, 20, .inl (fun _ => 0))), (q_24, .inl (cy 0, 20, .inl (fun _ => 0))), (q_32, .inl (cy 0, 20, .inl (fun _ => 0)))]) H := hP
  have hD : va_D A ([(h0, .inr (5, [.ref q_8, .ref q_16, .ref q_24, .null, .null, .null, .null, .null, .int 0, .int 0, .int 0, .int 0])), (q_8, .inl (cy 3, 3200, .inl (fun _ => 0))), (q_16, .inl (cy 0, 20, .inl (fun _ => 0))), (q_24, .inl (cy 0, 20, .inl (fun _ => 0))), (q_32, .inl (cy 0, 20, .inl (fun _ => 0)))]) := hD
  refine W.widen (k := 4) (n := 3260) (Nat.le_of_ble_eq_true rfl) (Nat.le_of_ble_eq_true rfl) ?_
  refine va_putF (D := D) (ci := 5) (v := .ref q_32) (ty := (tyX5 3)) (C := RX5) (T := TX5) (N := 12) hx hb hts inX5 tyX5 tyX5_ok nmX5 hown hK hP hD hS 0 rfl rfl 3 (by decide) (hts _ (wd_1 (w := .fieldLink RX5 24 RX5 (TX5 3).2.1 (TX5 3).2.2.1) (i := 199) (by decide +kernel) rfl)) (fun _ h9 => h9) rfl hmn rfl (by decide +kernel) rfl rfl (Nat.le_of_ble_eq_true rfl) dX5_init_34 (fun H locs hP hD hS => ?_)
  have hP : va_P D vwCl ([(h0, .inr (5, [.ref q_8, .ref q_16, .ref q_24, .ref q_32, .null, .null, .null, .null, .int 0, .int 0, .int 0, .int 0])), (q_8, .inl (cy 3, 3200, .inl (fun _ => 0))), (q_16, .inl (cy 0, 20, .inl (fun _ => 0))), (q_24, .inl (cy 0, 20, .inl (fun _ => 0))), (q_32, .inl (cy 0, 20, .inl (fun _ => 0)))]) H := hP
  have hD : va_D A ([(h0, .inr (5, [.ref q_8, .ref q_16, .ref q_24, .ref q_32, .null, .null, .null, .null, .int 0, .int 0, .int 0, .int 0])), (q_8, .inl (cy 3, 3200, .inl (fun _ => 0))), (q_16, .inl (cy 0, 20, .inl (fun _ => 0))), (q_24, .inl (cy 0, 20, .inl (fun _ => 0))), (q_32, .inl (cy 0, 20, .inl (fun _ => 0)))]) := hD
  refine lv_aload_n hx hb dX5_init_37 rfl (lv_at hl 0 rfl) ?_
  refine lv_bipush (v := 20) hx hb dX5_init_38 (by decide) ?_
  refine nw_int (N' := 20) hx hb hts hK hP hD hS hA (by decide) (by decide) (Nat.le_of_ble_eq_true rfl) (Nat.le_of_ble_eq_true rfl) (Nat.le_of_ble_eq_true rfl) dX5_init_40 (fun q_40 H hP hD hS => ?_)
  have hP : va_P D vwCl ([(h0, .inr (5, [.ref q_8, .ref q_16, .ref q_24, .ref q_32, .null, .null, .null, .null, .int 0, .int 0, .int 0, .int 0])), (q_8, .inl (cy 3, 3200, .inl (fun _ => 0))), (q_16, .inl (cy 0, 20, .inl (fun _ => 0))), (q_24, .inl (cy 0, 20, .inl (fun _ => 0))), (q_32, .inl (cy 0, 20, .inl (fun _ => 0))), (q_40, .inl (cy 0, 20, .inl (fun _ => 0)))]) H := hP
  have hD : va_D A ([(h0, .inr (5, [.ref q_8, .ref q_16, .ref q_24, .ref q_32, .null, .null, .null, .null, .int 0, .int 0, .int 0, .int 0])), (q_8, .inl (cy 3, 3200, .inl (fun _ => 0))), (q_16, .inl (cy 0, 20, .inl (fun _ => 0))), (q_24, .inl (cy 0, 20, .inl (fun _ => 0))), (q_32, .inl (cy 0, 20, .inl (fun _ => 0))), (q_40, .inl (cy 0, 20, .inl (fun _ => 0)))]) := hD
  refine W.widen (k := 5) (n := 3280) (Nat.le_of_ble_eq_true rfl) (Nat.le_of_ble_eq_true rfl) ?_
  refine va_putF (D := D) (ci := 5) (v := .ref q_40) (ty := (tyX5 4)) (C := RX5) (T := TX5) (N := 12) hx hb hts inX5 tyX5 tyX5_ok nmX5 hown hK hP hD hS 0 rfl rfl 4 (by decide) (hts _ (wd_1 (w := .fieldLink RX5 27 RX5 (TX5 4).2.1 (TX5 4).2.2.1) (i := 200) (by decide +kernel) rfl)) (fun _ h9 => h9) rfl hmn rfl (by decide +kernel) rfl rfl (Nat.le_of_ble_eq_true rfl) dX5_init_42 (fun H locs hP hD hS => ?_)
  have hP : va_P D vwCl ([(h0, .inr (5, [.ref q_8, .ref q_16, .ref q_24, .ref q_32, .ref q_40, .null, .null, .null, .int 0, .int 0, .int 0, .int 0])), (q_8, .inl (cy 3, 3200, .inl (fun _ => 0))), (q_16, .inl (cy 0, 20, .inl (fun _ => 0))), (q_24, .inl (cy 0, 20, .inl (fun _ => 0))), (q_32, .inl (cy 0, 20, .inl (fun _ => 0))), (q_40, .inl (cy 0, 20, .inl (fun _ => 0)))]) H := hP
  have hD : va_D A ([(h0, .inr (5, [.ref q_8, .ref q_16, .ref q_24, .ref q_32, .ref q_40, .null, .null, .null, .int 0, .int 0, .int 0, .int 0])), (q_8, .inl (cy 3, 3200, .inl (fun _ => 0))), (q_16, .inl (cy 0, 20, .inl (fun _ => 0))), (q_24, .inl (cy 0, 20, .inl (fun _ => 0))), (q_32, .inl (cy 0, 20, .inl (fun _ => 0))), (q_40, .inl (cy 0, 20, .inl (fun _ => 0)))]) := hD
  refine lv_aload_n hx hb dX5_init_45 rfl (lv_at hl 0 rfl) ?_
  refine lv_sipush (v := 240) hx hb dX5_init_46 (by decide) ?_
  refine nw_int (N' := 240) hx hb hts hK hP hD hS hA (by decide) (by decide) (Nat.le_of_ble_eq_true rfl) (Nat.le_of_ble_eq_true rfl) (Nat.le_of_ble_eq_true rfl) dX5_init_49 (fun q_49 H hP hD hS => ?_)
  have hP : va_P D vwCl ([(h0, .inr (5, [.ref q_8, .ref q_16, .ref q_24, .ref q_32, .ref q_40, .null, .null, .null, .int 0, .int 0, .int 0, .int 0])), (q_8, .inl (cy 3, 3200, .inl (fun _ => 0))), (q_16, .inl (cy 0, 20, .inl (fun _ => 0))), (q_24, .inl (cy 0, 20, .inl (fun _ => 0))), (q_32, .inl (cy 0, 20, .inl (fun _ => 0))), (q_40, .inl (cy 0, 20, .inl (fun _ => 0))), (q_49, .inl (cy 0, 240, .inl (fun _ => 0)))]) H := hP
  have hD : va_D A ([(h0, .inr (5, [.ref q_8, .ref q_16, .ref q_24, .ref q_32, .ref q_40, .null, .null, .null, .int 0, .int 0, .int 0, .int 0])), (q_8, .inl (cy 3, 3200, .inl (fun _ => 0))), (q_16, .inl (cy 0, 20, .inl (fun _ => 0))), (q_24, .inl (cy 0, 20, .inl (fun _ => 0))), (q_32, .inl (cy 0, 20, .inl (fun _ => 0))), (q_40, .inl (cy 0, 20, .inl (fun _ => 0))), (q_49, .inl (cy 0, 240, .inl (fun _ => 0)))]) := hD
  refine W.widen (k := 6) (n := 3520) (Nat.le_of_ble_eq_true rfl) (Nat.le_of_ble_eq_true rfl) ?_
  refine va_putF (D := D) (ci := 5) (v := .ref q_49) (ty := (tyX5 5)) (C := RX5) (T := TX5) (N := 12) hx hb hts inX5 tyX5 tyX5_ok nmX5 hown hK hP hD hS 0 rfl rfl 5 (by decide) (hts _ (wd_1 (w := .fieldLink RX5 30 RX5 (TX5 5).2.1 (TX5 5).2.2.1) (i := 201) (by decide +kernel) rfl)) (fun _ h9 => h9) rfl hmn rfl (by decide +kernel) rfl rfl (Nat.le_of_ble_eq_true rfl) dX5_init_51 (fun H locs hP hD hS => ?_)
  have hP : va_P D vwCl ([(h0, .inr (5, [.ref q_8, .ref q_16, .ref q_24, .ref q_32, .ref q_40, .ref q_49, .null, .null, .int 0, .int 0, .int 0, .int 0])), (q_8, .inl (cy 3, 3200, .inl (fun _ => 0))), (q_16, .inl (cy 0, 20, .inl (fun _ => 0))), (q_24, .inl (cy 0, 20, .inl (fun _ => 0))), (q_32, .inl (cy 0, 20, .inl (fun _ => 0))), (q_40, .inl (cy 0, 20, .inl (fun _ => 0))), (q_49, .inl (cy 0, 240, .inl (fun _ => 0)))]) H := hP
  have hD : va_D A ([(h0, .inr (5, [.ref q_8, .ref q_16, .ref q_24, .ref q_32, .ref q_40, .ref q_49, .null, .null, .int 0, .int 0, .int 0, .int 0])), (q_8, .inl (cy 3, 3200, .inl (fun _ => 0))), (q_16, .inl (cy 0, 20, .inl (fun _ => 0))), (q_24, .inl (cy 0, 20, .inl (fun _ => 0))), (q_32, .inl (cy 0, 20, .inl (fun _ => 0))), (q_40, .inl (cy 0, 20, .inl (fun _ => 0))), (q_49, .inl (cy 0, 240, .inl (fun _ => 0)))]) := hD
  refine lv_aload_n hx hb dX5_init_54 rfl (lv_at hl 0 rfl) ?_
  refine lv_bipush (v := 20) hx hb dX5_init_55 (by decide) ?_
  refine nw_int (N' := 20) hx hb hts hK hP hD hS hA (by decide) (by decide) (Nat.le_of_ble_eq_true rfl) (Nat.le_of_ble_eq_true rfl) (Nat.le_of_ble_eq_true rfl) dX5_init_57 (fun q_57 H hP hD hS => ?_)
  have hP : va_P D vwCl ([(h0, .inr (5, [.ref q_8, .ref q_16, .ref q_24, .ref q_32, .ref q_40, .ref q_49, .null, .null, .int 0, .int 0, .int 0, .int 0])), (q_8, .inl (cy 3, 3200, .inl (fun _ => 0))), (q_16, .inl (cy 0, 20, .inl (fun _ => 0))), (q_24, .inl (cy 0, 20, .inl (fun _ => 0))), (q_32, .inl (cy 0, 20, .inl (fun _ => 0))), (q_40, .inl (cy 0, 20, .inl (fun _ => 0))), (q_49, .inl (cy 0, 240, .inl (fun _ => 0))), (q_57, .inl (cy 0, 20, .inl (fun _ => 0)))]) H := hP
  have hD : va_D A ([(h0, .inr (5, [.ref q_8, .ref q_16, .ref q_24, .ref q_32, .ref q_40, .ref q_49, .null, .null, .int 0, .int 0, .int 0, .int 0])), (q_8, .inl (cy 3, 3200, .inl (fun _ => 0))), (q_16, .inl (cy 0, 20, .inl (fun _ => 0))), (q_24, .inl (cy 0, 20, .inl (fun _ => 0))), (q_32, .inl (cy 0, 20, .inl (fun _ => 0))), (q_40, .inl (cy 0, 20, .inl (fun _ => 0))), (q_49, .inl (cy 0, 240, .inl (fun _ => 0))), (q_57, .inl (cy 0, 20, .inl (fun _ => 0)))]) := hD
  refine W.widen (k := 7) (n := 3540) (Nat.le_of_ble_eq_true rfl) (Nat.le_of_ble_eq_true rfl) ?_
  refine va_putF (D := D) (ci := 5) (v := .ref q_57) (ty := (tyX5 6)) (C := RX5) (T := TX5) (N := 12) hx hb hts inX5 tyX5 tyX5_ok nmX5 hown hK hP hD hS 0 rfl rfl 6 (by decide) (hts _ (wd_1 (w := .fieldLink RX5 33 RX5 (TX5 6).2.1 (TX5 6).2.2.1) (i := 202) (by decide +kernel) rfl)) (fun _ h9 => h9) rfl hmn rfl (by decide +kernel) rfl rfl (Nat.le_of_ble_eq_true rfl) dX5_init_59 (fun H locs hP hD hS => ?_)
  have hP : va_P D vwCl ([(h0, .inr (5, [.ref q_8, .ref q_16, .ref q_24, .ref q_32, .ref q_40, .ref q_49, .ref q_57, .null, .int 0, .int 0, .int 0, .int 0])), (q_8, .inl (cy 3, 3200, .inl (fun _ => 0))), (q_16, .inl (cy 0, 20, .inl (fun _ => 0))), (q_24, .inl (cy 0, 20, .inl (fun _ => 0))), (q_32, .inl (cy 0, 20, .inl (fun _ => 0))), (q_40, .inl (cy 0, 20, .inl (fun _ => 0))), (q_49, .inl (cy 0, 240, .inl (fun _ => 0))), (q_57, .inl (cy 0, 20, .inl (fun _ => 0)))]) H := hP
  have hD : va_D A ([(h0, .inr (5, [.ref q_8, .ref q_16, .ref q_24, .ref q_32, .ref q_40, .ref q_49, .ref q_57, .null, .int 0, .int 0, .int 0, .int 0])), (q_8, .inl (cy 3, 3200, .inl (fun _ => 0))), (q_16, .inl (cy 0, 20, .inl (fun _ => 0))), (q_24, .inl (cy 0, 20, .inl (fun _ => 0))), (q_32, .inl (cy 0, 20, .inl (fun _ => 0))), (q_40, .inl (cy 0, 20, .inl (fun _ => 0))), (q_49, .inl (cy 0, 240, .inl (fun _ => 0))), (q_57, .inl (cy 0, 20, .inl (fun _ => 0)))]) := hD
  refine lv_aload_n hx hb dX5_init_62 rfl (lv_at hl 0 rfl) ?_
  refine va_new (ci := 6) (fs := [.null, .null, .null, .int 0, .int 0, .int 0, .int 0, .int 0, .int 0, .int 0, .int 0, .int 0]) (C := RX6) (T := TX6) (N := 12) hx hb hts inX6 tyX6 tyX6_ok hown (hts _ (wd_1 (w := .classLink RX5 1 RX6) (i := 153) (by decide +kernel) rfl)) (hts _ (wd_1 (w := .instantiable RX6 12) (i := 154) (by decide +kernel) rfl)) (hts _ (wd_1 (w := .initialized RX6) (i := 7) (by decide +kernel) rfl)) hK hP hD hS hA rfl (by decide) (Nat.le_of_ble_eq_true rfl) (Nat.le_of_ble_eq_true rfl) dX5_init_63 (fun q_63 H hP hD hS => ?_)
  refine W.widen (k := 8) (n := 3552) (Nat.le_of_ble_eq_true rfl) (Nat.le_of_ble_eq_true rfl) ?_
  refine lv_dup hx hb dX5_init_66 rfl ?_
  have pg_67 := preG (av := [.ref q_63]) (N := NM) (ws := [(q_63, .inr (6, [.null, .null, .null, .int 0, .int 0, .int 0, .int 0, .int 0, .int 0, .int 0, .int 0, .int 0]))]) hK (fun k x hx => by have h2 : k < 1 := (List.getElem?_eq_some_iff.mp hx).1; have h3 : k = 0 := (by omega); subst h3; cases hx; exact hP _ _ (lastE _ _)) (A := A) ⟨fun i j x y hx hy _ => by have h2 : i < 1 := (List.getElem?_eq_some_iff.mp hx).1; have h3 : j < 1 := (List.getElem?_eq_some_iff.mp hy).1; omega, fun k x hx => by have h2 : k < 1 := (List.getElem?_eq_some_iff.mp hx).1; have h3 : k = 0 := (by omega); subst h3; cases hx; exact hD.2 _ _ (lastE _ _)⟩ NM_keep NM_blind
  refine ctorCall (mc := 3) (ms := 181) (va_runI (As := []) (rest := [.ref q_63, .ref h0]) ⟨hx, hb, hml, hown, hts⟩ (k6 l D cy H.size q_63) (cwI 0 hts (wd_ws (wd_1 (w := .code yX6_init cX6_init 1 none) (i := 157) (by decide +kernel) rfl)) rfl rfl rfl (hts _ (wd_1 (w := .initialized RX6) (i := 7) (by decide +kernel) rfl)) (hts _ (wd_1 (w := .methodLink RX5 36 yX6_init) (i := 155) (by decide +kernel) rfl)) (hts _ (wd_1 (w := .instanceMethod yX6_init) (i := 156) (by decide +kernel) rfl)) rfl (by decide +kernel) ⟨Nat.le_of_ble_eq_true rfl, Nat.le_of_ble_eq_true rfl⟩) pg_67 rfl rfl hl.1 rfl (lv_room (Nat.le_of_ble_eq_true rfl)) dX5_init_67 ⟨Nat.le_of_ble_eq_true rfl, Nat.le_of_ble_eq_true rfl⟩) hP hD hS hA (fun u_6 H locs hu_6 hPn hDn hS => ?_)
  clear pg_67
  subst hu_6
  have hP := hPn
  have hD := hDn
  refine W.widen (k := 11) (n := 3733) (Nat.le_of_ble_eq_true rfl) (Nat.le_of_ble_eq_true rfl) ?_
  refine va_putF (D := D) (ci := 5) (v := .ref (u_6 6 99)) (ty := (tyX5 7)) (C := RX5) (T := TX5) (N := 12) hx hb hts inX5 tyX5 tyX5_ok nmX5 hown hK hP hD hS 0 rfl rfl 7 (by decide) (hts _ (wd_1 (w := .fieldLink RX5 37 RX5 (TX5 7).2.1 (TX5 7).2.2.1) (i := 203) (by decide +kernel) rfl)) (fun _ h9 => h9) rfl hmn rfl (by decide +kernel) rfl rfl (Nat.le_of_ble_eq_true rfl) dX5_init_70 (fun H locs hP hD hS => ?_)
  have hP : va_P D vwCl ([(h0, .inr (5, [.ref q_8, .ref q_16, .ref q_24, .ref q_32, .ref q_40, .ref q_49, .ref q_57, .ref (u_6 6 99), .int 0, .int 0, .int 0, .int 0])), (q_8, .inl (cy 3, 3200, .inl (fun _ => 0))), (q_16, .inl (cy 0, 20, .inl (fun _ => 0))), (q_24, .inl (cy 0, 20, .inl (fun _ => 0))), (q_32, .inl (cy 0, 20, .inl (fun _ => 0))), (q_40, .inl (cy 0, 20, .inl (fun _ => 0))), (q_49, .inl (cy 0, 240, .inl (fun _ => 0))), (q_57, .inl (cy 0, 20, .inl (fun _ => 0)))] ++ i6 cy u_6) H := hP
  have hD : va_D A ([(h0, .inr (5, [.ref q_8, .ref q_16, .ref q_24, .ref q_32, .ref q_40, .ref q_49, .ref q_57, .ref (u_6 6 99), .int 0, .int 0, .int 0, .int 0])), (q_8, .inl (cy 3, 3200, .inl (fun _ => 0))), (q_16, .inl (cy 0, 20, .inl (fun _ => 0))), (q_24, .inl (cy 0, 20, .inl (fun _ => 0))), (q_32, .inl (cy 0, 20, .inl (fun _ => 0))), (q_40, .inl (cy 0, 20, .inl (fun _ => 0))), (q_49, .inl (cy 0, 240, .inl (fun _ => 0))), (q_57, .inl (cy 0, 20, .inl (fun _ => 0)))] ++ i6 cy u_6) := hD
  refine lv_aload_n hx hb dX5_init_73 rfl (lv_at hl 0 rfl) ?_
  refine lv_iconst (v := 0) hx hb dX5_init_74 (by decide) ?_
  refine va_put (D := D) (ci := 5) (v := .int 0) (ty := (tyX5 8)) (C := RX5) (T := TX5) (N := 12) hx hb hts inX5 tyX5 tyX5_ok nmX5 hown hK hP hD hS 0 rfl rfl 8 (by decide) (hts _ (wd_1 (w := .fieldLink RX5 41 RX5 (TX5 8).2.1 (TX5 8).2.2.1) (i := 204) (by decide +kernel) rfl)) (fun _ h9 => h9) rfl (by decide +kernel) rfl rfl (Nat.le_of_ble_eq_true rfl) dX5_init_75 (fun H locs hP hD hS => ?_)
  have hP : va_P D vwCl ([(h0, .inr (5, [.ref q_8, .ref q_16, .ref q_24, .ref q_32, .ref q_40, .ref q_49, .ref q_57, .ref (u_6 6 99), .int 0, .int 0, .int 0, .int 0])), (q_8, .inl (cy 3, 3200, .inl (fun _ => 0))), (q_16, .inl (cy 0, 20, .inl (fun _ => 0))), (q_24, .inl (cy 0, 20, .inl (fun _ => 0))), (q_32, .inl (cy 0, 20, .inl (fun _ => 0))), (q_40, .inl (cy 0, 20, .inl (fun _ => 0))), (q_49, .inl (cy 0, 240, .inl (fun _ => 0))), (q_57, .inl (cy 0, 20, .inl (fun _ => 0)))] ++ i6 cy u_6) H := hP
  have hD : va_D A ([(h0, .inr (5, [.ref q_8, .ref q_16, .ref q_24, .ref q_32, .ref q_40, .ref q_49, .ref q_57, .ref (u_6 6 99), .int 0, .int 0, .int 0, .int 0])), (q_8, .inl (cy 3, 3200, .inl (fun _ => 0))), (q_16, .inl (cy 0, 20, .inl (fun _ => 0))), (q_24, .inl (cy 0, 20, .inl (fun _ => 0))), (q_32, .inl (cy 0, 20, .inl (fun _ => 0))), (q_40, .inl (cy 0, 20, .inl (fun _ => 0))), (q_49, .inl (cy 0, 240, .inl (fun _ => 0))), (q_57, .inl (cy 0, 20, .inl (fun _ => 0)))] ++ i6 cy u_6) := hD
  refine lv_aload_n hx hb dX5_init_78 rfl (lv_at hl 0 rfl) ?_
  refine lv_iconst (v := 0) hx hb dX5_init_79 (by decide) ?_
  refine va_put (D := D) (ci := 5) (v := .int 0) (ty := (tyX5 9)) (C := RX5) (T := TX5) (N := 12) hx hb hts inX5 tyX5 tyX5_ok nmX5 hown hK hP hD hS 0 rfl rfl 9 (by decide) (hts _ (wd_1 (w := .fieldLink RX5 45 RX5 (TX5 9).2.1 (TX5 9).2.2.1) (i := 205) (by decide +kernel) rfl)) (fun _ h9 => h9) rfl (by decide +kernel) rfl rfl (Nat.le_of_ble_eq_true rfl) dX5_init_80 (fun H locs hP hD hS => ?_)
  have hP : va_P D vwCl ([(h0, .inr (5, [.ref q_8, .ref q_16, .ref q_24, .ref q_32, .ref q_40, .ref q_49, .ref q_57, .ref (u_6 6 99), .int 0, .int 0, .int 0, .int 0])), (q_8, .inl (cy 3, 3200, .inl (fun _ => 0))), (q_16, .inl (cy 0, 20, .inl (fun _ => 0))), (q_24, .inl (cy 0, 20, .inl (fun _ => 0))), (q_32, .inl (cy 0, 20, .inl (fun _ => 0))), (q_40, .inl (cy 0, 20, .inl (fun _ => 0))), (q_49, .inl (cy 0, 240, .inl (fun _ => 0))), (q_57, .inl (cy 0, 20, .inl (fun _ => 0)))] ++ i6 cy u_6) H := hP
  have hD : va_D A ([(h0, .inr (5, [.ref q_8, .ref q_16, .ref q_24, .ref q_32, .ref q_40, .ref q_49, .ref q_57, .ref (u_6 6 99), .int 0, .int 0, .int 0, .int 0])), (q_8, .inl (cy 3, 3200, .inl (fun _ => 0))), (q_16, .inl (cy 0, 20, .inl (fun _ => 0))), (q_24, .inl (cy 0, 20, .inl (fun _ => 0))), (q_32, .inl (cy 0, 20, .inl (fun _ => 0))), (q_40, .inl (cy 0, 20, .inl (fun _ => 0))), (q_49, .inl (cy 0, 240, .inl (fun _ => 0))), (q_57, .inl (cy 0, 20, .inl (fun _ => 0)))] ++ i6 cy u_6) := hD
  refine lv_aload_n hx hb dX5_init_83 rfl (lv_at hl 0 rfl) ?_
  refine lv_iconst (v := (-1)) hx hb dX5_init_84 (by decide) ?_
  refine va_put (D := D) (ci := 5) (v := .int (-1)) (ty := (tyX5 10)) (C := RX5) (T := TX5) (N := 12) hx hb hts inX5 tyX5 tyX5_ok nmX5 hown hK hP hD hS 0 rfl rfl 10 (by decide) (hts _ (wd_1 (w := .fieldLink RX5 49 RX5 (TX5 10).2.1 (TX5 10).2.2.1) (i := 206) (by decide +kernel) rfl)) (fun _ h9 => h9) rfl (by decide +kernel) rfl rfl (Nat.le_of_ble_eq_true rfl) dX5_init_85 (fun H locs hP hD hS => ?_)
  have hP : va_P D vwCl ([(h0, .inr (5, [.ref q_8, .ref q_16, .ref q_24, .ref q_32, .ref q_40, .ref q_49, .ref q_57, .ref (u_6 6 99), .int 0, .int 0, .int (-1), .int 0])), (q_8, .inl (cy 3, 3200, .inl (fun _ => 0))), (q_16, .inl (cy 0, 20, .inl (fun _ => 0))), (q_24, .inl (cy 0, 20, .inl (fun _ => 0))), (q_32, .inl (cy 0, 20, .inl (fun _ => 0))), (q_40, .inl (cy 0, 20, .inl (fun _ => 0))), (q_49, .inl (cy 0, 240, .inl (fun _ => 0))), (q_57, .inl (cy 0, 20, .inl (fun _ => 0)))] ++ i6 cy u_6) H := hP
  have hD : va_D A ([(h0, .inr (5, [.ref q_8, .ref q_16, .ref q_24, .ref q_32, .ref q_40, .ref q_49, .ref q_57, .ref (u_6 6 99), .int 0, .int 0, .int (-1), .int 0])), (q_8, .inl (cy 3, 3200, .inl (fun _ => 0))), (q_16, .inl (cy 0, 20, .inl (fun _ => 0))), (q_24, .inl (cy 0, 20, .inl (fun _ => 0))), (q_32, .inl (cy 0, 20, .inl (fun _ => 0))), (q_40, .inl (cy 0, 20, .inl (fun _ => 0))), (q_49, .inl (cy 0, 240, .inl (fun _ => 0))), (q_57, .inl (cy 0, 20, .inl (fun _ => 0)))] ++ i6 cy u_6) := hD
  refine lv_aload_n hx hb dX5_init_88 rfl (lv_at hl 0 rfl) ?_
  refine lv_iconst (v := (-1)) hx hb dX5_init_89 (by decide) ?_
  refine va_put (D := D) (ci := 5) (v := .int (-1)) (ty := (tyX5 11)) (C := RX5) (T := TX5) (N := 12) hx hb hts inX5 tyX5 tyX5_ok nmX5 hown hK hP hD hS 0 rfl rfl 11 (by decide) (hts _ (wd_1 (w := .fieldLink RX5 52 RX5 (TX5 11).2.1 (TX5 11).2.2.1) (i := 207) (by decide +kernel) rfl)) (fun _ h9 => h9) rfl (by decide +kernel) rfl rfl (Nat.le_of_ble_eq_true rfl) dX5_init_90 (fun H locs hP hD hS => ?_)
  have hP : va_P D vwCl ([(h0, .inr (5, [.ref q_8, .ref q_16, .ref q_24, .ref q_32, .ref q_40, .ref q_49, .ref q_57, .ref (u_6 6 99), .int 0, .int 0, .int (-1), .int (-1)])), (q_8, .inl (cy 3, 3200, .inl (fun _ => 0))), (q_16, .inl (cy 0, 20, .inl (fun _ => 0))), (q_24, .inl (cy 0, 20, .inl (fun _ => 0))), (q_32, .inl (cy 0, 20, .inl (fun _ => 0))), (q_40, .inl (cy 0, 20, .inl (fun _ => 0))), (q_49, .inl (cy 0, 240, .inl (fun _ => 0))), (q_57, .inl (cy 0, 20, .inl (fun _ => 0)))] ++ i6 cy u_6) H := hP
  have hD : va_D A ([(h0, .inr (5, [.ref q_8, .ref q_16, .ref q_24, .ref q_32, .ref q_40, .ref q_49, .ref q_57, .ref (u_6 6 99), .int 0, .int 0, .int (-1), .int (-1)])), (q_8, .inl (cy 3, 3200, .inl (fun _ => 0))), (q_16, .inl (cy 0, 20, .inl (fun _ => 0))), (q_24, .inl (cy 0, 20, .inl (fun _ => 0))), (q_32, .inl (cy 0, 20, .inl (fun _ => 0))), (q_40, .inl (cy 0, 20, .inl (fun _ => 0))), (q_49, .inl (cy 0, 240, .inl (fun _ => 0))), (q_57, .inl (cy 0, 20, .inl (fun _ => 0)))] ++ i6 cy u_6) := hD
  rw [← hQ]
  exact W.vret hx hb hr (fun t ht _ => ⟨⟨(fun o j => if o = 5 then (if j = 99 then h0 else ([q_8, q_16, q_24, q_32, q_40, q_49, q_57, 0, 0, 0, 0, 0] : List Nat).getD j 0) else if o = 6 then u_6 o j else 0), rfl, rfl, by rw [ht]; exact hP, hD⟩, by rw [← hAe] at hS ⊢; exact hS.F ht⟩) hS.2.2 dX5_init_93 hlk
theorem dX7_init_0 : decode cX7_init 0 = .ok (.aload_n 0, 1) := by decide +kernel
theorem dX7_init_1 : decode cX7_init 1 = .ok (.invokespecial 3, 3) := by decide +kernel
theorem dX7_init_4 : decode cX7_init 4 = .ok (.aload_n 0, 1) := by decide +kernel
theorem dX7_init_5 : decode cX7_init 5 = .ok (.sipush 200, 3) := by decide +kernel
theorem dX7_init_8 : decode cX7_init 8 = .ok (.newarray .int, 2) := by decide +kernel
theorem dX7_init_10 : decode cX7_init 10 = .ok (.putfield 11, 3) := by decide +kernel
theorem dX7_init_13 : decode cX7_init 13 = .ok (.aload_n 0, 1) := by decide +kernel
theorem dX7_init_14 : decode cX7_init 14 = .ok (.sipush 200, 3) := by decide +kernel
theorem dX7_init_17 : decode cX7_init 17 = .ok (.newarray .int, 2) := by decide +kernel
theorem dX7_init_19 : decode cX7_init 19 = .ok (.putfield 15, 3) := by decide +kernel
theorem dX7_init_22 : decode cX7_init 22 = .ok (.aload_n 0, 1) := by decide +kernel
theorem dX7_init_23 : decode cX7_init 23 = .ok (.sipush 200, 3) := by decide +kernel
theorem dX7_init_26 : decode cX7_init 26 = .ok (.newarray .int, 2) := by decide +kernel
theorem dX7_init_28 : decode cX7_init 28 = .ok (.putfield 18, 3) := by decide +kernel
theorem dX7_init_31 : decode cX7_init 31 = .ok (.aload_n 0, 1) := by decide +kernel
theorem dX7_init_32 : decode cX7_init 32 = .ok (.sipush 200, 3) := by decide +kernel
theorem dX7_init_35 : decode cX7_init 35 = .ok (.newarray .int, 2) := by decide +kernel
theorem dX7_init_37 : decode cX7_init 37 = .ok (.putfield 21, 3) := by decide +kernel
theorem dX7_init_40 : decode cX7_init 40 = .ok (.aload_n 0, 1) := by decide +kernel
theorem dX7_init_41 : decode cX7_init 41 = .ok (.iconst 0, 1) := by decide +kernel
theorem dX7_init_42 : decode cX7_init 42 = .ok (.putfield 24, 3) := by decide +kernel
theorem dX7_init_45 : decode cX7_init 45 = .ok (.return_, 1) := by decide +kernel
def i7 (cy : Nat → ClassId) (u : US) : va_W := [(u 7 99, .inr (7, [.ref (u 7 0), .ref (u 7 1), .ref (u 7 2), .ref (u 7 3), .int 0])), (u 7 0, .inl (cy 0, 200, .inl (fun _ => 0))), (u 7 1, .inl (cy 0, 200, .inl (fun _ => 0))), (u 7 2, .inl (cy 0, 200, .inl (fun _ => 0))), (u 7 3, .inl (cy 0, 200, .inl (fun _ => 0)))]
set_option maxHeartbeats 8000000 in
set_option maxRecDepth 100000 in
theorem k7 (l : Launch) (D : va_G) (cy : Nat → ClassId) (sz h0 : Nat) : Met l yX7_init (wsOf yX7_init cX7_init 1 none) (rmK 1 4 800) (va_Pc [.ref h0] (PreG D cy [(h0, .inr (7, [.null, .null, .null, .null, .int 0]))] sz NM)) (QcK D (i7 cy) 7 h0 (va_A [(h0, .inr (7, [.null, .null, .null, .null, .int 0]))] sz)) 4 800 (va_A [(h0, .inr (7, [.null, .null, .null, .null, .int 0]))] sz) := by
  refine metK (own := RX7) (by decide) rfl (Nat.le_of_ble_eq_true rfl) rfl ?_ sz
  intro p e s m below meth c ls C0 hmn hw hl
  obtain ⟨hx, hb, hml, hown, hts, hr, hlk, hK, hN⟩ := C0
  obtain ⟨hP, hD, hS⟩ := hw
  have hA : ∀ q : Nat, s.heap.size ≤ q → va_A [(h0, .inr (7, [.null, .null, .null, .null, .int 0]))] s.heap.size q := fun q h => Or.inr h
  generalize hQ : MQ below (QcK D (i7 cy) 7 h0 (va_A [(h0, .inr (7, [.null, .null, .null, .null, .int 0]))] s.heap.size)) ([.ref h0] : List Value).toArray s 4 800 (va_A [(h0, .inr (7, [.null, .null, .null, .null, .int 0]))] s.heap.size) = Q
  generalize hAe : va_A [(h0, .inr (7, [.null, .null, .null, .null, .int 0]))] s.heap.size = A at hQ hD hS hA
  have hP : va_P D vwCl [(h0, .inr (7, [.null, .null, .null, .null, .int 0]))] s.heap := hP
  refine lv_aload_n hx hb dX7_init_0 rfl (lv_at hl 0 rfl) ?_
  refine W.objInit hx hb hown (hts _ (wd_1 (w := .methodLink RX7 3 objectInit) (i := 238) (by decide +kernel) rfl)) (hts _ (wd_1 (w := .instanceMethod objectInit) (i := 26) (by decide +kernel) rfl)) (hts _ (wd_1 (w := .code objectInit ⟨#[0xb1]⟩ 1 none) (i := 27) (by decide +kernel) rfl)) rfl (by rw [hml]; exact hl.1) rfl dX7_init_1 (Nat.le_of_ble_eq_true rfl) (Nat.le_of_ble_eq_true rfl) ?_
  refine W.eq (g2 := F0 m 4 ls []) rfl ?_
  refine lv_aload_n hx hb dX7_init_4 rfl (lv_at hl 0 rfl) ?_
  refine lv_sipush (v := 200) hx hb dX7_init_5 (by decide) ?_
  refine nw_int (N' := 200) hx hb hts hK hP hD hS hA (by decide) (by decide) (Nat.le_of_ble_eq_true rfl) (Nat.le_of_ble_eq_true rfl) (Nat.le_of_ble_eq_true rfl) dX7_init_8 (fun q_8 H hP hD hS => ?_)
  have hP : va_P D vwCl ([(h0, .inr (7, [.null, .null, .null, .null, .int 0])), (q_8, .inl (cy 0, 200, .inl (fun _ => 0)))]) H := hP
  have hD : va_D A ([(h0, .inr (7, [.null, .null, .null, .null, .int 0])), (q_8, .inl (cy 0, 200, .inl (fun _ => 0)))]) := hD
  refine W.widen (k := 1) (n := 200) (Nat.le_of_ble_eq_true rfl) (Nat.le_of_ble_eq_true rfl) ?_
  refine va_putF (D := D) (ci := 7) (v := .ref q_8) (ty := (tyX7 0)) (C := RX7) (T := TX7) (N := 5) hx hb hts inX7 tyX7 tyX7_ok nmX7 hown hK hP hD hS 0 rfl rfl 0 (by decide) (hts _ (wd_1 (w := .fieldLink RX7 11 RX7 (TX7 0).2.1 (TX7 0).2.2.1) (i := 239) (by decide +kernel) rfl)) (fun _ h9 => h9) rfl hmn rfl (by decide +kernel) rfl rfl (Nat.le_of_ble_eq_true rfl) dX7_init_10 (fun H locs hP hD hS => ?_)
  have hP : va_P D vwCl ([(h0, .inr (7, [.ref q_8, .null, .null, .null, .int 0])), (q_8, .inl (cy 0, 200, .inl (fun _ => 0)))]) H := hP
  have hD : va_D A ([(h0, .inr (7, [.ref q_8, .null, .null, .null, .int 0])), (q_8, .inl (cy 0, 200, .inl (fun _ => 0)))]) := hD
  refine lv_aload_n hx hb dX7_init_13 rfl (lv_at hl 0 rfl) ?_
  refine lv_sipush (v := 200) hx hb dX7_init_14 (by decide) ?_
  refine nw_int (N' := 200) hx hb hts hK hP hD hS hA (by decide) (by decide) (Nat.le_of_ble_eq_true rfl) (Nat.le_of_ble_eq_true rfl) (Nat.le_of_ble_eq_true rfl) dX7_init_17 (fun q_17 H hP hD hS => ?_)
  have hP : va_P D vwCl ([(h0, .inr (7, [.ref q_8, .null, .null, .null, .int 0])), (q_8, .inl (cy 0, 200, .inl (fun _ => 0))), (q_17, .inl (cy 0, 200, .inl (fun _ => 0)))]) H := hP
  have hD : va_D A ([(h0, .inr (7, [.ref q_8, .null, .null, .null, .int 0])), (q_8, .inl (cy 0, 200, .inl (fun _ => 0))), (q_17, .inl (cy 0, 200, .inl (fun _ => 0)))]) := hD
  refine W.widen (k := 2) (n := 400) (Nat.le_of_ble_eq_true rfl) (Nat.le_of_ble_eq_true rfl) ?_
  refine va_putF (D := D) (ci := 7) (v := .ref q_17) (ty := (tyX7 1)) (C := RX7) (T := TX7) (N := 5) hx hb hts inX7 tyX7 tyX7_ok nmX7 hown hK hP hD hS 0 rfl rfl 1 (by decide) (hts _ (wd_2 (w := .fieldLink RX7 15 RX7 (TX7 1).2.1 (TX7 1).2.2.1) (i := 0) (by decide +kernel) rfl)) (fun _ h9 => h9) rfl hmn rfl (by decide +kernel) rfl rfl (Nat.le_of_ble_eq_true rfl) dX7_init_19 (fun H locs hP hD hS => ?_)
  have hP : va_P D vwCl ([(h0, .inr (7, [.ref q_8, .ref q_17, .null, .null, .int 0])), (q_8, .inl (cy 0, 200, .inl (fun _ => 0))), (q_17, .inl (cy 0, 200, .inl (fun _ => 0)))]) H := hP
  have hD : va_D A ([(h0, .inr (7, [.ref q_8, .ref q_17, .null, .null, .int 0])), (q_8, .inl (cy 0, 200, .inl (fun _ => 0))), (q_17, .inl (cy 0, 200, .inl (fun _ => 0)))]) := hD
  refine lv_aload_n hx hb dX7_init_22 rfl (lv_at hl 0 rfl) ?_
  refine lv_sipush (v := 200) hx hb dX7_init_23 (by decide) ?_
  refine nw_int (N' := 200) hx hb hts hK hP hD hS hA (by decide) (by decide) (Nat.le_of_ble_eq_true rfl) (Nat.le_of_ble_eq_true rfl) (Nat.le_of_ble_eq_true rfl) dX7_init_26 (fun q_26 H hP hD hS => ?_)
  have hP : va_P D vwCl ([(h0, .inr (7, [.ref q_8, .ref q_17, .null, .null, .int 0])), (q_8, .inl (cy 0, 200, .inl (fun _ => 0))), (q_17, .inl (cy 0, 200, .inl (fun _ => 0))), (q_26, .inl (cy 0, 200, .inl (fun _ => 0)))]) H := hP
  have hD : va_D A ([(h0, .inr (7, [.ref q_8, .ref q_17, .null, .null, .int 0])), (q_8, .inl (cy 0, 200, .inl (fun _ => 0))), (q_17, .inl (cy 0, 200, .inl (fun _ => 0))), (q_26, .inl (cy 0, 200, .inl (fun _ => 0)))]) := hD
  refine W.widen (k := 3) (n := 600) (Nat.le_of_ble_eq_true rfl) (Nat.le_of_ble_eq_true rfl) ?_
  refine va_putF (D := D) (ci := 7) (v := .ref q_26) (ty := (tyX7 2)) (C := RX7) (T := TX7) (N := 5) hx hb hts inX7 tyX7 tyX7_ok nmX7 hown hK hP hD hS 0 rfl rfl 2 (by decide) (hts _ (wd_2 (w := .fieldLink RX7 18 RX7 (TX7 2).2.1 (TX7 2).2.2.1) (i := 1) (by decide +kernel) rfl)) (fun _ h9 => h9) rfl hmn rfl (by decide +kernel) rfl rfl (Nat.le_of_ble_eq_true rfl) dX7_init_28 (fun H locs hP hD hS => ?_)
  have hP : va_P D vwCl ([(h0, .inr (7, [.ref q_8, .ref q_17, .ref q_26, .null, .int 0])), (q_8, .inl (cy 0, 200, .inl (fun _ => 0))), (q_17, .inl (cy 0, 200, .inl (fun _ => 0))), (q_26, .inl (cy 0, 200, .inl (fun _ => 0)))]) H := hP
  have hD : va_D A ([(h0, .inr (7, [.ref q_8, .ref q_17, .ref q_26, .null, .int 0])), (q_8, .inl (cy 0, 200, .inl (fun _ => 0))), (q_17, .inl (cy 0, 200, .inl (fun _ => 0))), (q_26, .inl (cy 0, 200, .inl (fun _ => 0)))]) := hD
  refine lv_aload_n hx hb dX7_init_31 rfl (lv_at hl 0 rfl) ?_
  refine lv_sipush (v := 200) hx hb dX7_init_32 (by decide) ?_
  refine nw_int (N' := 200) hx hb hts hK hP hD hS hA (by decide) (by decide) (Nat.le_of_ble_eq_true rfl) (Nat.le_of_ble_eq_true rfl) (Nat.le_of_ble_eq_true rfl) dX7_init_35 (fun q_35 H hP hD hS => ?_)
  have hP : va_P D vwCl ([(h0, .inr (7, [.ref q_8, .ref q_17, .ref q_26, .null, .int 0])), (q_8, .inl (cy 0, 200, .inl (fun _ => 0))), (q_17, .inl (cy 0, 200, .inl (fun _ => 0))), (q_26, .inl (cy 0, 200, .inl (fun _ => 0))), (q_35, .inl (cy 0, 200, .inl (fun _ => 0)))]) H := hP
  have hD : va_D A ([(h0, .inr (7, [.ref q_8, .ref q_17, .ref q_26, .null, .int 0])), (q_8, .inl (cy 0, 200, .inl (fun _ => 0))), (q_17, .inl (cy 0, 200, .inl (fun _ => 0))), (q_26, .inl (cy 0, 200, .inl (fun _ => 0))), (q_35, .inl (cy 0, 200, .inl (fun _ => 0)))]) := hD
  refine W.widen (k := 4) (n := 800) (Nat.le_of_ble_eq_true rfl) (Nat.le_of_ble_eq_true rfl) ?_
  refine va_putF (D := D) (ci := 7) (v := .ref q_35) (ty := (tyX7 3)) (C := RX7) (T := TX7) (N := 5) hx hb hts inX7 tyX7 tyX7_ok nmX7 hown hK hP hD hS 0 rfl rfl 3 (by decide) (hts _ (wd_2 (w := .fieldLink RX7 21 RX7 (TX7 3).2.1 (TX7 3).2.2.1) (i := 2) (by decide +kernel) rfl)) (fun _ h9 => h9) rfl hmn rfl (by decide +kernel) rfl rfl (Nat.le_of_ble_eq_true rfl) dX7_init_37 (fun H locs hP hD hS => ?_)
  have hP : va_P D vwCl ([(h0, .inr (7, [.ref q_8, .ref q_17, .ref q_26, .ref q_35, .int 0])), (q_8, .inl (cy 0, 200, .inl (fun _ => 0))), (q_17, .inl (cy 0, 200, .inl (fun _ => 0))), (q_26, .inl (cy 0, 200, .inl (fun _ => 0))), (q_35, .inl (cy 0, 200, .inl (fun _ => 0)))]) H := hP
  have hD : va_D A ([(h0, .inr (7, [.ref q_8, .ref q_17, .ref q_26, .ref q_35, .int 0])), (q_8, .inl (cy 0, 200, .inl (fun _ => 0))), (q_17, .inl (cy 0, 200, .inl (fun _ => 0))), (q_26, .inl (cy 0, 200, .inl (fun _ => 0))), (q_35, .inl (cy 0, 200, .inl (fun _ => 0)))]) := hD
  refine lv_aload_n hx hb dX7_init_40 rfl (lv_at hl 0 rfl) ?_
  refine lv_iconst (v := 0) hx hb dX7_init_41 (by decide) ?_
  refine va_put (D := D) (ci := 7) (v := .int 0) (ty := (tyX7 4)) (C := RX7) (T := TX7) (N := 5) hx hb hts inX7 tyX7 tyX7_ok nmX7 hown hK hP hD hS 0 rfl rfl 4 (by decide) (hts _ (wd_2 (w := .fieldLink RX7 24 RX7 (TX7 4).2.1 (TX7 4).2.2.1) (i := 3) (by decide +kernel) rfl)) (fun _ h9 => h9) rfl (by decide +kernel) rfl rfl (Nat.le_of_ble_eq_true rfl) dX7_init_42 (fun H locs hP hD hS => ?_)
  have hP : va_P D vwCl ([(h0, .inr (7, [.ref q_8, .ref q_17, .ref q_26, .ref q_35, .int 0])), (q_8, .inl (cy 0, 200, .inl (fun _ => 0))), (q_17, .inl (cy 0, 200, .inl (fun _ => 0))), (q_26, .inl (cy 0, 200, .inl (fun _ => 0))), (q_35, .inl (cy 0, 200, .inl (fun _ => 0)))]) H := hP
  have hD : va_D A ([(h0, .inr (7, [.ref q_8, .ref q_17, .ref q_26, .ref q_35, .int 0])), (q_8, .inl (cy 0, 200, .inl (fun _ => 0))), (q_17, .inl (cy 0, 200, .inl (fun _ => 0))), (q_26, .inl (cy 0, 200, .inl (fun _ => 0))), (q_35, .inl (cy 0, 200, .inl (fun _ => 0)))]) := hD
  rw [← hQ]
  exact W.vret hx hb hr (fun t ht _ => ⟨⟨(fun o j => if o = 7 then (if j = 99 then h0 else ([q_8, q_17, q_26, q_35, 0] : List Nat).getD j 0) else 0), rfl, rfl, by rw [ht]; exact hP, hD⟩, by rw [← hAe] at hS ⊢; exact hS.F ht⟩) hS.2.2 dX7_init_45 hlk
theorem dX3_init_0 : decode cX3_init 0 = .ok (.aload_n 0, 1) := by decide +kernel
theorem dX3_init_1 : decode cX3_init 1 = .ok (.invokespecial 3, 3) := by decide +kernel
theorem dX3_init_4 : decode cX3_init 4 = .ok (.aload_n 0, 1) := by decide +kernel
theorem dX3_init_5 : decode cX3_init 5 = .ok (.bipush 6, 2) := by decide +kernel
theorem dX3_init_7 : decode cX3_init 7 = .ok (.newarray .int, 2) := by decide +kernel
theorem dX3_init_9 : decode cX3_init 9 = .ok (.putfield 11, 3) := by decide +kernel
theorem dX3_init_12 : decode cX3_init 12 = .ok (.aload_n 0, 1) := by decide +kernel
theorem dX3_init_13 : decode cX3_init 13 = .ok (.bipush 6, 2) := by decide +kernel
theorem dX3_init_15 : decode cX3_init 15 = .ok (.newarray .int, 2) := by decide +kernel
theorem dX3_init_17 : decode cX3_init 17 = .ok (.putfield 15, 3) := by decide +kernel
theorem dX3_init_20 : decode cX3_init 20 = .ok (.aload_n 0, 1) := by decide +kernel
theorem dX3_init_21 : decode cX3_init 21 = .ok (.bipush 6, 2) := by decide +kernel
theorem dX3_init_23 : decode cX3_init 23 = .ok (.newarray .int, 2) := by decide +kernel
theorem dX3_init_25 : decode cX3_init 25 = .ok (.putfield 18, 3) := by decide +kernel
theorem dX3_init_28 : decode cX3_init 28 = .ok (.aload_n 0, 1) := by decide +kernel
theorem dX3_init_29 : decode cX3_init 29 = .ok (.iconst 0, 1) := by decide +kernel
theorem dX3_init_30 : decode cX3_init 30 = .ok (.putfield 21, 3) := by decide +kernel
theorem dX3_init_33 : decode cX3_init 33 = .ok (.return_, 1) := by decide +kernel
def i3 (cy : Nat → ClassId) (u : US) : va_W := [(u 3 99, .inr (3, [.ref (u 3 0), .ref (u 3 1), .ref (u 3 2), .int 0])), (u 3 0, .inl (cy 0, 6, .inl (fun _ => 0))), (u 3 1, .inl (cy 0, 6, .inl (fun _ => 0))), (u 3 2, .inl (cy 0, 6, .inl (fun _ => 0)))]
set_option maxHeartbeats 8000000 in
set_option maxRecDepth 100000 in
theorem k3 (l : Launch) (D : va_G) (cy : Nat → ClassId) (sz h0 : Nat) : Met l yX3_init (wsOf yX3_init cX3_init 1 none) (rmK 1 3 18) (va_Pc [.ref h0] (PreG D cy [(h0, .inr (3, [.null, .null, .null, .int 0]))] sz NM)) (QcK D (i3 cy) 3 h0 (va_A [(h0, .inr (3, [.null, .null, .null, .int 0]))] sz)) 3 18 (va_A [(h0, .inr (3, [.null, .null, .null, .int 0]))] sz) := by
  refine metK (own := RX3) (by decide) rfl (Nat.le_of_ble_eq_true rfl) rfl ?_ sz
  intro p e s m below meth c ls C0 hmn hw hl
  obtain ⟨hx, hb, hml, hown, hts, hr, hlk, hK, hN⟩ := C0
  obtain ⟨hP, hD, hS⟩ := hw
  have hA : ∀ q : Nat, s.heap.size ≤ q → va_A [(h0, .inr (3, [.null, .null, .null, .int 0]))] s.heap.size q := fun q h => Or.inr h
  generalize hQ : MQ below (QcK D (i3 cy) 3 h0 (va_A [(h0, .inr (3, [.null, .null, .null, .int 0]))] s.heap.size)) ([.ref h0] : List Value).toArray s 3 18 (va_A [(h0, .inr (3, [.null, .null, .null, .int 0]))] s.heap.size) = Q
  generalize hAe : va_A [(h0, .inr (3, [.null, .null, .null, .int 0]))] s.heap.size = A at hQ hD hS hA
  have hP : va_P D vwCl [(h0, .inr (3, [.null, .null, .null, .int 0]))] s.heap := hP
  refine lv_aload_n hx hb dX3_init_0 rfl (lv_at hl 0 rfl) ?_
  refine W.objInit hx hb hown (hts _ (wd_2 (w := .methodLink RX3 3 objectInit) (i := 20) (by decide +kernel) rfl)) (hts _ (wd_1 (w := .instanceMethod objectInit) (i := 26) (by decide +kernel) rfl)) (hts _ (wd_1 (w := .code objectInit ⟨#[0xb1]⟩ 1 none) (i := 27) (by decide +kernel) rfl)) rfl (by rw [hml]; exact hl.1) rfl dX3_init_1 (Nat.le_of_ble_eq_true rfl) (Nat.le_of_ble_eq_true rfl) ?_
  refine W.eq (g2 := F0 m 4 ls []) rfl ?_
  refine lv_aload_n hx hb dX3_init_4 rfl (lv_at hl 0 rfl) ?_
  refine lv_bipush (v := 6) hx hb dX3_init_5 (by decide) ?_
  refine nw_int (N' := 6) hx hb hts hK hP hD hS hA (by decide) (by decide) (Nat.le_of_ble_eq_true rfl) (Nat.le_of_ble_eq_true rfl) (Nat.le_of_ble_eq_true rfl) dX3_init_7 (fun q_7 H hP hD hS => ?_)
  have hP : va_P D vwCl ([(h0, .inr (3, [.null, .null, .null, .int 0])), (q_7, .inl (cy 0, 6, .inl (fun _ => 0)))]) H := hP
  have hD : va_D A ([(h0, .inr (3, [.null, .null, .null, .int 0])), (q_7, .inl (cy 0, 6, .inl (fun _ => 0)))]) := hD
  refine W.widen (k := 1) (n := 6) (Nat.le_of_ble_eq_true rfl) (Nat.le_of_ble_eq_true rfl) ?_
  refine va_putF (D := D) (ci := 3) (v := .ref q_7) (ty := (tyX3 0)) (C := RX3) (T := TX3) (N := 4) hx hb hts inX3 tyX3 tyX3_ok nmX3 hown hK hP hD hS 0 rfl rfl 0 (by decide) (hts _ (wd_2 (w := .fieldLink RX3 11 RX3 (TX3 0).2.1 (TX3 0).2.2.1) (i := 21) (by decide +kernel) rfl)) (fun _ h9 => h9) rfl hmn rfl (by decide +kernel) rfl rfl (Nat.le_of_ble_eq_true rfl) dX3_init_9 (fun H locs hP hD hS => ?_)
  have hP : va_P D vwCl ([(h0, .inr (3, [.ref q_7, .null, .null, .int 0])), (q_7, .inl (cy 0, 6, .inl (fun _ => 0)))]) H := hP
  have hD : va_D A ([(h0, .inr (3, [.ref q_7, .null, .null, .int 0])), (q_7, .inl (cy 0, 6, .inl (fun _ => 0)))]) := hD
  refine lv_aload_n hx hb dX3_init_12 rfl (lv_at hl 0 rfl) ?_
  refine lv_bipush (v := 6) hx hb dX3_init_13 (by decide) ?_
  refine nw_int (N' := 6) hx hb hts hK hP hD hS hA (by decide) (by decide) (Nat.le_of_ble_eq_true rfl) (Nat.le_of_ble_eq_true rfl) (Nat.le_of_ble_eq_true rfl) dX3_init_15 (fun q_15 H hP hD hS => ?_)
  have hP : va_P D vwCl ([(h0, .inr (3, [.ref q_7, .null, .null, .int 0])), (q_7, .inl (cy 0, 6, .inl (fun _ => 0))), (q_15, .inl (cy 0, 6, .inl (fun _ => 0)))]) H := hP
  have hD : va_D A ([(h0, .inr (3, [.ref q_7, .null, .null, .int 0])), (q_7, .inl (cy 0, 6, .inl (fun _ => 0))), (q_15, .inl (cy 0, 6, .inl (fun _ => 0)))]) := hD
  refine W.widen (k := 2) (n := 12) (Nat.le_of_ble_eq_true rfl) (Nat.le_of_ble_eq_true rfl) ?_
  refine va_putF (D := D) (ci := 3) (v := .ref q_15) (ty := (tyX3 1)) (C := RX3) (T := TX3) (N := 4) hx hb hts inX3 tyX3 tyX3_ok nmX3 hown hK hP hD hS 0 rfl rfl 1 (by decide) (hts _ (wd_2 (w := .fieldLink RX3 15 RX3 (TX3 1).2.1 (TX3 1).2.2.1) (i := 22) (by decide +kernel) rfl)) (fun _ h9 => h9) rfl hmn rfl (by decide +kernel) rfl rfl (Nat.le_of_ble_eq_true rfl) dX3_init_17 (fun H locs hP hD hS => ?_)
  have hP : va_P D vwCl ([(h0, .inr (3, [.ref q_7, .ref q_15, .null, .int 0])), (q_7, .inl (cy 0, 6, .inl (fun _ => 0))), (q_15, .inl (cy 0, 6, .inl (fun _ => 0)))]) H := hP
  have hD : va_D A ([(h0, .inr (3, [.ref q_7, .ref q_15, .null, .int 0])), (q_7, .inl (cy 0, 6, .inl (fun _ => 0))), (q_15, .inl (cy 0, 6, .inl (fun _ => 0)))]) := hD
  refine lv_aload_n hx hb dX3_init_20 rfl (lv_at hl 0 rfl) ?_
  refine lv_bipush (v := 6) hx hb dX3_init_21 (by decide) ?_
  refine nw_int (N' := 6) hx hb hts hK hP hD hS hA (by decide) (by decide) (Nat.le_of_ble_eq_true rfl) (Nat.le_of_ble_eq_true rfl) (Nat.le_of_ble_eq_true rfl) dX3_init_23 (fun q_23 H hP hD hS => ?_)
  have hP : va_P D vwCl ([(h0, .inr (3, [.ref q_7, .ref q_15, .null, .int 0])), (q_7, .inl (cy 0, 6, .inl (fun _ => 0))), (q_15, .inl (cy 0, 6, .inl (fun _ => 0))), (q_23, .inl (cy 0, 6, .inl (fun _ => 0)))]) H := hP
  have hD : va_D A ([(h0, .inr (3, [.ref q_7, .ref q_15, .null, .int 0])), (q_7, .inl (cy 0, 6, .inl (fun _ => 0))), (q_15, .inl (cy 0, 6, .inl (fun _ => 0))), (q_23, .inl (cy 0, 6, .inl (fun _ => 0)))]) := hD
  refine W.widen (k := 3) (n := 18) (Nat.le_of_ble_eq_true rfl) (Nat.le_of_ble_eq_true rfl) ?_
  refine va_putF (D := D) (ci := 3) (v := .ref q_23) (ty := (tyX3 2)) (C := RX3) (T := TX3) (N := 4) hx hb hts inX3 tyX3 tyX3_ok nmX3 hown hK hP hD hS 0 rfl rfl 2 (by decide) (hts _ (wd_2 (w := .fieldLink RX3 18 RX3 (TX3 2).2.1 (TX3 2).2.2.1) (i := 23) (by decide +kernel) rfl)) (fun _ h9 => h9) rfl hmn rfl (by decide +kernel) rfl rfl (Nat.le_of_ble_eq_true rfl) dX3_init_25 (fun H locs hP hD hS => ?_)
  have hP : va_P D vwCl ([(h0, .inr (3, [.ref q_7, .ref q_15, .ref q_23, .int 0])), (q_7, .inl (cy 0, 6, .inl (fun _ => 0))), (q_15, .inl (cy 0, 6, .inl (fun _ => 0))), (q_23, .inl (cy 0, 6, .inl (fun _ => 0)))]) H := hP
  have hD : va_D A ([(h0, .inr (3, [.ref q_7, .ref q_15, .ref q_23, .int 0])), (q_7, .inl (cy 0, 6, .inl (fun _ => 0))), (q_15, .inl (cy 0, 6, .inl (fun _ => 0))), (q_23, .inl (cy 0, 6, .inl (fun _ => 0)))]) := hD
  refine lv_aload_n hx hb dX3_init_28 rfl (lv_at hl 0 rfl) ?_
  refine lv_iconst (v := 0) hx hb dX3_init_29 (by decide) ?_
  refine va_put (D := D) (ci := 3) (v := .int 0) (ty := (tyX3 3)) (C := RX3) (T := TX3) (N := 4) hx hb hts inX3 tyX3 tyX3_ok nmX3 hown hK hP hD hS 0 rfl rfl 3 (by decide) (hts _ (wd_2 (w := .fieldLink RX3 21 RX3 (TX3 3).2.1 (TX3 3).2.2.1) (i := 24) (by decide +kernel) rfl)) (fun _ h9 => h9) rfl (by decide +kernel) rfl rfl (Nat.le_of_ble_eq_true rfl) dX3_init_30 (fun H locs hP hD hS => ?_)
  have hP : va_P D vwCl ([(h0, .inr (3, [.ref q_7, .ref q_15, .ref q_23, .int 0])), (q_7, .inl (cy 0, 6, .inl (fun _ => 0))), (q_15, .inl (cy 0, 6, .inl (fun _ => 0))), (q_23, .inl (cy 0, 6, .inl (fun _ => 0)))]) H := hP
  have hD : va_D A ([(h0, .inr (3, [.ref q_7, .ref q_15, .ref q_23, .int 0])), (q_7, .inl (cy 0, 6, .inl (fun _ => 0))), (q_15, .inl (cy 0, 6, .inl (fun _ => 0))), (q_23, .inl (cy 0, 6, .inl (fun _ => 0)))]) := hD
  rw [← hQ]
  exact W.vret hx hb hr (fun t ht _ => ⟨⟨(fun o j => if o = 3 then (if j = 99 then h0 else ([q_7, q_15, q_23, 0] : List Nat).getD j 0) else 0), rfl, rfl, by rw [ht]; exact hP, hD⟩, by rw [← hAe] at hS ⊢; exact hS.F ht⟩) hS.2.2 dX3_init_33 hlk
theorem dX9_init_0 : decode cX9_init 0 = .ok (.aload_n 0, 1) := by decide +kernel
theorem dX9_init_1 : decode cX9_init 1 = .ok (.invokespecial 3, 3) := by decide +kernel
theorem dX9_init_4 : decode cX9_init 4 = .ok (.aload_n 0, 1) := by decide +kernel
theorem dX9_init_5 : decode cX9_init 5 = .ok (.sipush 256, 3) := by decide +kernel
theorem dX9_init_8 : decode cX9_init 8 = .ok (.newarray .int, 2) := by decide +kernel
theorem dX9_init_10 : decode cX9_init 10 = .ok (.putfield 11, 3) := by decide +kernel
theorem dX9_init_13 : decode cX9_init 13 = .ok (.aload_n 0, 1) := by decide +kernel
theorem dX9_init_14 : decode cX9_init 14 = .ok (.bipush 16, 2) := by decide +kernel
theorem dX9_init_16 : decode cX9_init 16 = .ok (.newarray .int, 2) := by decide +kernel
theorem dX9_init_18 : decode cX9_init 18 = .ok (.putfield 15, 3) := by decide +kernel
theorem dX9_init_21 : decode cX9_init 21 = .ok (.aload_n 0, 1) := by decide +kernel
theorem dX9_init_22 : decode cX9_init 22 = .ok (.bipush 40, 2) := by decide +kernel
theorem dX9_init_24 : decode cX9_init 24 = .ok (.newarray .int, 2) := by decide +kernel
theorem dX9_init_26 : decode cX9_init 26 = .ok (.putfield 18, 3) := by decide +kernel
theorem dX9_init_29 : decode cX9_init 29 = .ok (.aload_n 0, 1) := by decide +kernel
theorem dX9_init_30 : decode cX9_init 30 = .ok (.sipush 140, 3) := by decide +kernel
theorem dX9_init_33 : decode cX9_init 33 = .ok (.newarray .int, 2) := by decide +kernel
theorem dX9_init_35 : decode cX9_init 35 = .ok (.putfield 21, 3) := by decide +kernel
theorem dX9_init_38 : decode cX9_init 38 = .ok (.aload_n 0, 1) := by decide +kernel
theorem dX9_init_39 : decode cX9_init 39 = .ok (.sipush 140, 3) := by decide +kernel
theorem dX9_init_42 : decode cX9_init 42 = .ok (.newarray .int, 2) := by decide +kernel
theorem dX9_init_44 : decode cX9_init 44 = .ok (.putfield 24, 3) := by decide +kernel
theorem dX9_init_47 : decode cX9_init 47 = .ok (.aload_n 0, 1) := by decide +kernel
theorem dX9_init_48 : decode cX9_init 48 = .ok (.sipush 140, 3) := by decide +kernel
theorem dX9_init_51 : decode cX9_init 51 = .ok (.newarray .int, 2) := by decide +kernel
theorem dX9_init_53 : decode cX9_init 53 = .ok (.putfield 27, 3) := by decide +kernel
theorem dX9_init_56 : decode cX9_init 56 = .ok (.aload_n 0, 1) := by decide +kernel
theorem dX9_init_57 : decode cX9_init 57 = .ok (.iconst 0, 1) := by decide +kernel
theorem dX9_init_58 : decode cX9_init 58 = .ok (.putfield 30, 3) := by decide +kernel
theorem dX9_init_61 : decode cX9_init 61 = .ok (.aload_n 0, 1) := by decide +kernel
theorem dX9_init_62 : decode cX9_init 62 = .ok (.iconst 0, 1) := by decide +kernel
theorem dX9_init_63 : decode cX9_init 63 = .ok (.putfield 34, 3) := by decide +kernel
theorem dX9_init_66 : decode cX9_init 66 = .ok (.return_, 1) := by decide +kernel
def i9 (cy : Nat → ClassId) (u : US) : va_W := [(u 9 99, .inr (9, [.ref (u 9 0), .ref (u 9 1), .ref (u 9 2), .ref (u 9 3), .ref (u 9 4), .ref (u 9 5), .int 0, .int 0])), (u 9 0, .inl (cy 0, 256, .inl (fun _ => 0))), (u 9 1, .inl (cy 0, 16, .inl (fun _ => 0))), (u 9 2, .inl (cy 0, 40, .inl (fun _ => 0))), (u 9 3, .inl (cy 0, 140, .inl (fun _ => 0))), (u 9 4, .inl (cy 0, 140, .inl (fun _ => 0))), (u 9 5, .inl (cy 0, 140, .inl (fun _ => 0)))]
set_option maxHeartbeats 8000000 in
set_option maxRecDepth 100000 in
theorem k9 (l : Launch) (D : va_G) (cy : Nat → ClassId) (sz h0 : Nat) : Met l yX9_init (wsOf yX9_init cX9_init 1 none) (rmK 1 6 732) (va_Pc [.ref h0] (PreG D cy [(h0, .inr (9, [.null, .null, .null, .null, .null, .null, .int 0, .int 0]))] sz NM)) (QcK D (i9 cy) 9 h0 (va_A [(h0, .inr (9, [.null, .null, .null, .null, .null, .null, .int 0, .int 0]))] sz)) 6 732 (va_A [(h0, .inr (9, [.null, .null, .null, .null, .null, .null, .int 0, .int 0]))] sz) := by
  refine metK (own := RX9) (by decide) rfl (Nat.le_of_ble_eq_true rfl) rfl ?_ sz
  intro p e s m below meth c ls C0 hmn hw hl
  obtain ⟨hx, hb, hml, hown, hts, hr, hlk, hK, hN⟩ := C0
  obtain ⟨hP, hD, hS⟩ := hw
  have hA : ∀ q : Nat, s.heap.size ≤ q → va_A [(h0, .inr (9, [.null, .null, .null, .null, .null, .null, .int 0, .int 0]))] s.heap.size q := fun q h => Or.inr h
  generalize hQ : MQ below (QcK D (i9 cy) 9 h0 (va_A [(h0, .inr (9, [.null, .null, .null, .null, .null, .null, .int 0, .int 0]))] s.heap.size)) ([.ref h0] : List Value).toArray s 6 732 (va_A [(h0, .inr (9, [.null, .null, .null, .null, .null, .null, .int 0, .int 0]))] s.heap.size) = Q
  generalize hAe : va_A [(h0, .inr (9, [.null, .null, .null, .null, .null, .null, .int 0, .int 0]))] s.heap.size = A at hQ hD hS hA
  have hP : va_P D vwCl [(h0, .inr (9, [.null, .null, .null, .null, .null, .null, .int 0, .int 0]))] s.heap := hP
  refine lv_aload_n hx hb dX9_init_0 rfl (lv_at hl 0 rfl) ?_
  refine W.objInit hx hb hown (hts _ (wd_2 (w := .methodLink RX9 3 objectInit) (i := 39) (by decide +kernel) rfl)) (hts _ (wd_1 (w := .instanceMethod objectInit) (i := 26) (by decide +kernel) rfl)) (hts _ (wd_1 (w := .code objectInit ⟨#[0xb1]⟩ 1 none) (i := 27) (by decide +kernel) rfl)) rfl (by rw [hml]; exact hl.1) rfl dX9_init_1 (Nat.le_of_ble_eq_true rfl) (Nat.le_of_ble_eq_true rfl) ?_
  refine W.eq (g2 := F0 m 4 ls []) rfl ?_
  refine lv_aload_n hx hb dX9_init_4 rfl (lv_at hl 0 rfl) ?_
  refine lv_sipush (v := 256) hx hb dX9_init_5 (by decide) ?_
  refine nw_int (N' := 256) hx hb hts hK hP hD hS hA (by decide) (by decide) (Nat.le_of_ble_eq_true rfl) (Nat.le_of_ble_eq_true rfl) (Nat.le_of_ble_eq_true rfl) dX9_init_8 (fun q_8 H hP hD hS => ?_)
  have hP : va_P D vwCl ([(h0, .inr (9, [.null, .null, .null, .null, .null, .null, .int 0, .int 0])), (q_8, .inl (cy 0, 256, .inl (fun _ => 0)))]) H := hP
  have hD : va_D A ([(h0, .inr (9, [.null, .null, .null, .null, .null, .null, .int 0, .int 0])), (q_8, .inl (cy 0, 256, .inl (fun _ => 0)))]) := hD
  refine W.widen (k := 1) (n := 256) (Nat.le_of_ble_eq_true rfl) (Nat.le_of_ble_eq_true rfl) ?_
  refine va_putF (D := D) (ci := 9) (v := .ref q_8) (ty := (tyX9 0)) (C := RX9) (T := TX9) (N := 8) hx hb hts inX9 tyX9 tyX9_ok nmX9 hown hK hP hD hS 0 rfl rfl 0 (by decide) (hts _ (wd_2 (w := .fieldLink RX9 11 RX9 (TX9 0).2.1 (TX9 0).2.2.1) (i := 40) (by decide +kernel) rfl)) (fun _ h9 => h9) rfl hmn rfl (by decide +kernel) rfl rfl (Nat.le_of_ble_eq_true rfl) dX9_init_10 (fun H locs hP hD hS => ?_)
  have hP : va_P D vwCl ([(h0, .inr (9, [.ref q_8, .null, .null, .null, .null, .null, .int 0, .int 0])), (q_8, .inl (cy 0, 256, .inl (fun _ => 0)))]) H := hP
  have hD : va_D A ([(h0, .inr (9, [.ref q_8, .null, .null, .null, .null, .null, .int 0, .int 0])), (q_8, .inl (cy 0, 256, .inl (fun _ => 0)))]) := hD
  refine lv_aload_n hx hb dX9_init_13 rfl (lv_at hl 0 rfl) ?_
  refine lv_bipush (v := 16) hx hb dX9_init_14 (by decide) ?_
  refine nw_int (N' := 16) hx hb hts hK hP hD hS hA (by decide) (by decide) (Nat.le_of_ble_eq_true rfl) (Nat.le_of_ble_eq_true rfl) (Nat.le_of_ble_eq_true rfl) dX9_init_16 (fun q_16 H hP hD hS => ?_)
  have hP : va_P D vwCl ([(h0, .inr (9, [.ref q_8, .null, .null, .null, .null, .null, .int 0, .int 0])), (q_8, .inl (cy 0, 256, .inl (fun _ => 0))), (q_16, .inl (cy 0, 16, .inl (fun _ => 0)))]) H := hP
  have hD : va_D A ([(h0, .inr (9, [.ref q_8, .null, .null, .null, .null, .null, .int 0, .int 0])), (q_8, .inl (cy 0, 256, .inl (fun _ => 0))), (q_16, .inl (cy 0, 16, .inl (fun _ => 0)))]) := hD
  refine W.widen (k := 2) (n := 272) (Nat.le_of_ble_eq_true rfl) (Nat.le_of_ble_eq_true rfl) ?_
  refine va_putF (D := D) (ci := 9) (v := .ref q_16) (ty := (tyX9 1)) (C := RX9) (T := TX9) (N := 8) hx hb hts inX9 tyX9 tyX9_ok nmX9 hown hK hP hD hS 0 rfl rfl 1 (by decide) (hts _ (wd_2 (w := .fieldLink RX9 15 RX9 (TX9 1).2.1 (TX9 1).2.2.1) (i := 41) (by decide +kernel) rfl)) (fun _ h9 => h9) rfl hmn rfl (by decide +kernel) rfl rfl (Nat.le_of_ble_eq_true rfl) dX9_init_18 (fun H locs hP hD hS => ?_)
  have hP : va_P D vwCl ([(h0, .inr (9, [.ref q_8, .ref q_16, .null, .null, .null, .null, .int 0, .int 0])), (q_8, .inl (cy 0, 256, .inl (fun _ => 0))), (q_16, .inl (cy 0, 16, .inl (fun _ => 0)))]) H := hP
  have hD : va_D A ([(h0, .inr (9, [.ref q_8, .ref q_16, .null, .null, .null, .null, .int 0, .int 0])), (q_8, .inl (cy 0, 256, .inl (fun _ => 0))), (q_16, .inl (cy 0, 16, .inl (fun _ => 0)))]) := hD
  refine lv_aload_n hx hb dX9_init_21 rfl (lv_at hl 0 rfl) ?_
  refine lv_bipush (v := 40) hx hb dX9_init_22 (by decide) ?_
  refine nw_int (N' := 40) hx hb hts hK hP hD hS hA (by decide) (by decide) (Nat.le_of_ble_eq_true rfl) (Nat.le_of_ble_eq_true rfl) (Nat.le_of_ble_eq_true rfl) dX9_init_24 (fun q_24 H hP hD hS => ?_)
  have hP : va_P D vwCl ([(h0, .inr (9, [.ref q_8, .ref q_16, .null, .null, .null, .null, .int 0, .int 0])), (q_8, .inl (cy 0, 256, .inl (fun _ => 0))), (q_16, .inl (cy 0, 16, .inl (fun _ => 0))), (q_24, .inl (cy 0, 40, .inl (fun _ => 0)))]) H := hP
  have hD : va_D A ([(h0, .inr (9, [.ref q_8, .ref q_16, .null, .null, .null, .null, .int 0, .int 0])), (q_8, .inl (cy 0, 256, .inl (fun _ => 0))), (q_16, .inl (cy 0, 16, .inl (fun _ => 0))), (q_24, .inl (cy 0, 40, .inl (fun _ => 0)))]) := hD
  refine W.widen (k := 3) (n := 312) (Nat.le_of_ble_eq_true rfl) (Nat.le_of_ble_eq_true rfl) ?_
  refine va_putF (D := D) (ci := 9) (v := .ref q_24) (ty := (tyX9 2)) (C := RX9) (T := TX9) (N := 8) hx hb hts inX9 tyX9 tyX9_ok nmX9 hown hK hP hD hS 0 rfl rfl 2 (by decide) (hts _ (wd_2 (w := .fieldLink RX9 18 RX9 (TX9 2).2.1 (TX9 2).2.2.1) (i := 42) (by decide +kernel) rfl)) (fun _ h9 => h9) rfl hmn rfl (by decide +kernel) rfl rfl (Nat.le_of_ble_eq_true rfl) dX9_init_26 (fun H locs hP hD hS => ?_)
  have hP : va_P D vwCl ([(h0, .inr (9, [.ref q_8, .ref q_16, .ref q_24, .null, .null, .null, .int 0, .int 0])), (q_8, .inl (cy 0, 256, .inl (fun _ => 0))), (q_16, .inl (cy 0, 16, .inl (fun _ => 0))), (q_24, .inl (cy 0, 40, .inl (fun _ => 0)))]) H := hP
  have hD : va_D A ([(h0, .inr (9, [.ref q_8, .ref q_16, .ref q_24, .null, .null, .null, .int 0, .int 0])), (q_8, .inl (cy 0, 256, .inl (fun _ => 0))), (q_16, .inl (cy 0, 16, .inl (fun _ => 0))), (q_24, .inl (cy 0, 40, .inl (fun _ => 0)))]) := hD
  refine lv_aload_n hx hb dX9_init_29 rfl (lv_at hl 0 rfl) ?_
  refine lv_sipush (v := 140) hx hb dX9_init_30 (by decide) ?_
  refine nw_int (N' := 140) hx hb hts hK hP hD hS hA (by decide) (by decide) (Nat.le_of_ble_eq_true rfl) (Nat.le_of_ble_eq_true rfl) (Nat.le_of_ble_eq_true rfl) dX9_init_33 (fun q_33 H hP hD hS => ?_)
  have hP : va_P D vwCl ([(h0, .inr (9, [.ref q_8, .ref q_16, .ref q_24, .null, .null, .null, .int 0, .int 0])), (q_8, .inl (cy 0, 256, .inl (fun _ => 0))), (q_16, .inl (cy 0, 16, .inl (fun _ => 0))), (q_24, .inl (cy 0, 40, .inl (fun _ => 0))), (q_33, .inl (cy 0, 140, .inl (fun _ => 0)))]) H := hP
  have hD : va_D A ([(h0, .inr (9, [.ref q_8, .ref q_16, .ref q_24, .null, .null, .null, .int 0, .int 0])), (q_8, .inl (cy 0, 256, .inl (fun _ => 0))), (q_16, .inl (cy 0, 16, .inl (fun _ => 0))), (q_24, .inl (cy 0, 40, .inl (fun _ => 0))), (q_33, .inl (cy 0, 140, .inl (fun _ => 0)))]) := hD
  refine W.widen (k := 4) (n := 452) (Nat.le_of_ble_eq_true rfl) (Nat.le_of_ble_eq_true rfl) ?_
  refine va_putF (D := D) (ci := 9) (v := .ref q_33) (ty := (tyX9 3)) (C := RX9) (T := TX9) (N := 8) hx hb hts inX9 tyX9 tyX9_ok nmX9 hown hK hP hD hS 0 rfl rfl 3 (by decide) (hts _ (wd_2 (w := .fieldLink RX9 21 RX9 (TX9 3).2.1 (TX9 3).2.2.1) (i := 43) (by decide +kernel) rfl)) (fun _ h9 => h9) rfl hmn rfl (by decide +kernel) rfl rfl (Nat.le_of_ble_eq_true rfl) dX9_init_35 (fun H locs hP hD hS => ?_)
  have hP : va_P D vwCl ([(h0, .inr (9, [.ref q_8, .ref q_16, .ref q_24, .ref q_33, .null, .null, .int 0, .int 0])), (q_8, .inl (cy 0, 256, .inl (fun _ => 0))), (q_16, .inl (cy 0, 16, .inl (fun _ => 0))), (q_24, .inl (cy 0, 40, .inl (fun _ => 0))), (q_33, .inl (cy 0, 140, .inl (fun _ => 0)))]) H := hP
  have hD : va_D A ([(h0, .inr (9, [.ref q_8, .ref q_16, .ref q_24, .ref q_33, .null, .null, .int 0, .int 0])), (q_8, .inl (cy 0, 256, .inl (fun _ => 0))), (q_16, .inl (cy 0, 16, .inl (fun _ => 0))), (q_24, .inl (cy 0, 40, .inl (fun _ => 0))), (q_33, .inl (cy 0, 140, .inl (fun _ => 0)))]) := hD
  refine lv_aload_n hx hb dX9_init_38 rfl (lv_at hl 0 rfl) ?_
  refine lv_sipush (v := 140) hx hb dX9_init_39 (by decide) ?_
  refine nw_int (N' := 140) hx hb hts hK hP hD hS hA (by decide) (by decide) (Nat.le_of_ble_eq_true rfl) (Nat.le_of_ble_eq_true rfl) (Nat.le_of_ble_eq_true rfl) dX9_init_42 (fun q_42 H hP hD hS => ?_)
  have hP : va_P D vwCl ([(h0, .inr (9, [.ref q_8, .ref q_16, .ref q_24, .ref q_33, .null, .null, .int 0, .int 0])), (q_8, .inl (cy 0, 256, .inl (fun _ => 0))), (q_16, .inl (cy 0, 16, .inl (fun _ => 0))), (q_24, .inl (cy 0, 40, .inl (fun _ => 0))), (q_33, .inl (cy 0, 140, .inl (fun _ => 0))), (q_42, .inl (cy 0, 140, .inl (fun _ => 0)))]) H := hP
  have hD : va_D A ([(h0, .inr (9, [.ref q_8, .ref q_16, .ref q_24, .ref q_33, .null, .null, .int 0, .int 0])), (q_8, .inl (cy 0, 256, .inl (fun _ => 0))), (q_16, .inl (cy 0, 16, .inl (fun _ => 0))), (q_24, .inl (cy 0, 40, .inl (fun _ => 0))), (q_33, .inl (cy 0, 140, .inl (fun _ => 0))), (q_42, .inl (cy 0, 140, .inl (fun _ => 0)))]) := hD
  refine W.widen (k := 5) (n := 592) (Nat.le_of_ble_eq_true rfl) (Nat.le_of_ble_eq_true rfl) ?_
  refine va_putF (D := D) (ci := 9) (v := .ref q_42) (ty := (tyX9 4)) (C := RX9) (T := TX9) (N := 8) hx hb hts inX9 tyX9 tyX9_ok nmX9 hown hK hP hD hS 0 rfl rfl 4 (by decide) (hts _ (wd_2 (w := .fieldLink RX9 24 RX9 (TX9 4).2.1 (TX9 4).2.2.1) (i := 44) (by decide +kernel) rfl)) (fun _ h9 => h9) rfl hmn rfl (by decide +kernel) rfl rfl (Nat.le_of_ble_eq_true rfl) dX9_init_44 (fun H locs hP hD hS => ?_)
  have hP : va_P D vwCl ([(h0, .inr (9, [.ref q_8, .ref q_16, .ref q_24, .ref q_33, .ref q_42, .null, .int 0, .int 0])), (q_8, .inl (cy 0, 256, .inl (fun _ => 0))), (q_16, .inl (cy 0, 16, .inl (fun _ => 0))), (q_24, .inl (cy 0, 40, .inl (fun _ => 0))), (q_33, .inl (cy 0, 140, .inl (fun _ => 0))), (q_42, .inl (cy 0, 140, .inl (fun _ => 0)))]) H := hP
  have hD : va_D A ([(h0, .inr (9, [.ref q_8, .ref q_16, .ref q_24, .ref q_33, .ref q_42, .null, .int 0, .int 0])), (q_8, .inl (cy 0, 256, .inl (fun _ => 0))), (q_16, .inl (cy 0, 16, .inl (fun _ => 0))), (q_24, .inl (cy 0, 40, .inl (fun _ => 0))), (q_33, .inl (cy 0, 140, .inl (fun _ => 0))), (q_42, .inl (cy 0, 140, .inl (fun _ => 0)))]) := hD
  refine lv_aload_n hx hb dX9_init_47 rfl (lv_at hl 0 rfl) ?_
  refine lv_sipush (v := 140) hx hb dX9_init_48 (by decide) ?_
  refine nw_int (N' := 140) hx hb hts hK hP hD hS hA (by decide) (by decide) (Nat.le_of_ble_eq_true rfl) (Nat.le_of_ble_eq_true rfl) (Nat.le_of_ble_eq_true rfl) dX9_init_51 (fun q_51 H hP hD hS => ?_)
  have hP : va_P D vwCl ([(h0, .inr (9, [.ref q_8, .ref q_16, .ref q_24, .ref q_33, .ref q_42, .null, .int 0, .int 0])), (q_8, .inl (cy 0, 256, .inl (fun _ => 0))), (q_16, .inl (cy 0, 16, .inl (fun _ => 0))), (q_24, .inl (cy 0, 40, .inl (fun _ => 0))), (q_33, .inl (cy 0, 140, .inl (fun _ => 0))), (q_42, .inl (cy 0, 140, .inl (fun _ => 0))), (q_51, .inl (cy 0, 140, .inl (fun _ => 0)))]) H := hP
  have hD : va_D A ([(h0, .inr (9, [.ref q_8, .ref q_16, .ref q_24, .ref q_33, .ref q_42, .null, .int 0, .int 0])), (q_8, .inl (cy 0, 256, .inl (fun _ => 0))), (q_16, .inl (cy 0, 16, .inl (fun _ => 0))), (q_24, .inl (cy 0, 40, .inl (fun _ => 0))), (q_33, .inl (cy 0, 140, .inl (fun _ => 0))), (q_42, .inl (cy 0, 140, .inl (fun _ => 0))), (q_51, .inl (cy 0, 140, .inl (fun _ => 0)))]) := hD
  refine W.widen (k := 6) (n := 732) (Nat.le_of_ble_eq_true rfl) (Nat.le_of_ble_eq_true rfl) ?_
  refine va_putF (D := D) (ci := 9) (v := .ref q_51) (ty := (tyX9 5)) (C := RX9) (T := TX9) (N := 8) hx hb hts inX9 tyX9 tyX9_ok nmX9 hown hK hP hD hS 0 rfl rfl 5 (by decide) (hts _ (wd_2 (w := .fieldLink RX9 27 RX9 (TX9 5).2.1 (TX9 5).2.2.1) (i := 45) (by decide +kernel) rfl)) (fun _ h9 => h9) rfl hmn rfl (by decide +kernel) rfl rfl (Nat.le_of_ble_eq_true rfl) dX9_init_53 (fun H locs hP hD hS => ?_)
  have hP : va_P D vwCl ([(h0, .inr (9, [.ref q_8, .ref q_16, .ref q_24, .ref q_33, .ref q_42, .ref q_51, .int 0, .int 0])), (q_8, .inl (cy 0, 256, .inl (fun _ => 0))), (q_16, .inl (cy 0, 16, .inl (fun _ => 0))), (q_24, .inl (cy 0, 40, .inl (fun _ => 0))), (q_33, .inl (cy 0, 140, .inl (fun _ => 0))), (q_42, .inl (cy 0, 140, .inl (fun _ => 0))), (q_51, .inl (cy 0, 140, .inl (fun _ => 0)))]) H := hP
  have hD : va_D A ([(h0, .inr (9, [.ref q_8, .ref q_16, .ref q_24, .ref q_33, .ref q_42, .ref q_51, .int 0, .int 0])), (q_8, .inl (cy 0, 256, .inl (fun _ => 0))), (q_16, .inl (cy 0, 16, .inl (fun _ => 0))), (q_24, .inl (cy 0, 40, .inl (fun _ => 0))), (q_33, .inl (cy 0, 140, .inl (fun _ => 0))), (q_42, .inl (cy 0, 140, .inl (fun _ => 0))), (q_51, .inl (cy 0, 140, .inl (fun _ => 0)))]) := hD
  refine lv_aload_n hx hb dX9_init_56 rfl (lv_at hl 0 rfl) ?_
  refine lv_iconst (v := 0) hx hb dX9_init_57 (by decide) ?_
  refine va_put (D := D) (ci := 9) (v := .int 0) (ty := (tyX9 6)) (C := RX9) (T := TX9) (N := 8) hx hb hts inX9 tyX9 tyX9_ok nmX9 hown hK hP hD hS 0 rfl rfl 6 (by decide) (hts _ (wd_2 (w := .fieldLink RX9 30 RX9 (TX9 6).2.1 (TX9 6).2.2.1) (i := 46) (by decide +kernel) rfl)) (fun _ h9 => h9) rfl (by decide +kernel) rfl rfl (Nat.le_of_ble_eq_true rfl) dX9_init_58 (fun H locs hP hD hS => ?_)
  have hP : va_P D vwCl ([(h0, .inr (9, [.ref q_8, .ref q_16, .ref q_24, .ref q_33, .ref q_42, .ref q_51, .int 0, .int 0])), (q_8, .inl (cy 0, 256, .inl (fun _ => 0))), (q_16, .inl (cy 0, 16, .inl (fun _ => 0))), (q_24, .inl (cy 0, 40, .inl (fun _ => 0))), (q_33, .inl (cy 0, 140, .inl (fun _ => 0))), (q_42, .inl (cy 0, 140, .inl (fun _ => 0))), (q_51, .inl (cy 0, 140, .inl (fun _ => 0)))]) H := hP
  have hD : va_D A ([(h0, .inr (9, [.ref q_8, .ref q_16, .ref q_24, .ref q_33, .ref q_42, .ref q_51, .int 0, .int 0])), (q_8, .inl (cy 0, 256, .inl (fun _ => 0))), (q_16, .inl (cy 0, 16, .inl (fun _ => 0))), (q_24, .inl (cy 0, 40, .inl (fun _ => 0))), (q_33, .inl (cy 0, 140, .inl (fun _ => 0))), (q_42, .inl (cy 0, 140, .inl (fun _ => 0))), (q_51, .inl (cy 0, 140, .inl (fun _ => 0)))]) := hD
  refine lv_aload_n hx hb dX9_init_61 rfl (lv_at hl 0 rfl) ?_
  refine lv_iconst (v := 0) hx hb dX9_init_62 (by decide) ?_
  refine va_put (D := D) (ci := 9) (v := .int 0) (ty := (tyX9 7)) (C := RX9) (T := TX9) (N := 8) hx hb hts inX9 tyX9 tyX9_ok nmX9 hown hK hP hD hS 0 rfl rfl 7 (by decide) (hts _ (wd_2 (w := .fieldLink RX9 34 RX9 (TX9 7).2.1 (TX9 7).2.2.1) (i := 47) (by decide +kernel) rfl)) (fun _ h9 => h9) rfl (by decide +kernel) rfl rfl (Nat.le_of_ble_eq_true rfl) dX9_init_63 (fun H locs hP hD hS => ?_)
  have hP : va_P D vwCl ([(h0, .inr (9, [.ref q_8, .ref q_16, .ref q_24, .ref q_33, .ref q_42, .ref q_51, .int 0, .int 0])), (q_8, .inl (cy 0, 256, .inl (fun _ => 0))), (q_16, .inl (cy 0, 16, .inl (fun _ => 0))), (q_24, .inl (cy 0, 40, .inl (fun _ => 0))), (q_33, .inl (cy 0, 140, .inl (fun _ => 0))), (q_42, .inl (cy 0, 140, .inl (fun _ => 0))), (q_51, .inl (cy 0, 140, .inl (fun _ => 0)))]) H := hP
  have hD : va_D A ([(h0, .inr (9, [.ref q_8, .ref q_16, .ref q_24, .ref q_33, .ref q_42, .ref q_51, .int 0, .int 0])), (q_8, .inl (cy 0, 256, .inl (fun _ => 0))), (q_16, .inl (cy 0, 16, .inl (fun _ => 0))), (q_24, .inl (cy 0, 40, .inl (fun _ => 0))), (q_33, .inl (cy 0, 140, .inl (fun _ => 0))), (q_42, .inl (cy 0, 140, .inl (fun _ => 0))), (q_51, .inl (cy 0, 140, .inl (fun _ => 0)))]) := hD
  rw [← hQ]
  exact W.vret hx hb hr (fun t ht _ => ⟨⟨(fun o j => if o = 9 then (if j = 99 then h0 else ([q_8, q_16, q_24, q_33, q_42, q_51, 0, 0] : List Nat).getD j 0) else 0), rfl, rfl, by rw [ht]; exact hP, hD⟩, by rw [← hAe] at hS ⊢; exact hS.F ht⟩) hS.2.2 dX9_init_66 hlk
theorem dX0_init_0 : decode cX0_init 0 = .ok (.aload_n 0, 1) := by decide +kernel
theorem dX0_init_1 : decode cX0_init 1 = .ok (.invokespecial 5, 3) := by decide +kernel
theorem dX0_init_4 : decode cX0_init 4 = .ok (.aload_n 0, 1) := by decide +kernel
theorem dX0_init_5 : decode cX0_init 5 = .ok (.bipush 6, 2) := by decide +kernel
theorem dX0_init_7 : decode cX0_init 7 = .ok (.newarray .int, 2) := by decide +kernel
theorem dX0_init_9 : decode cX0_init 9 = .ok (.putfield 11, 3) := by decide +kernel
theorem dX0_init_12 : decode cX0_init 12 = .ok (.aload_n 0, 1) := by decide +kernel
theorem dX0_init_13 : decode cX0_init 13 = .ok (.bipush 6, 2) := by decide +kernel
theorem dX0_init_15 : decode cX0_init 15 = .ok (.newarray .int, 2) := by decide +kernel
theorem dX0_init_17 : decode cX0_init 17 = .ok (.putfield 15, 3) := by decide +kernel
theorem dX0_init_20 : decode cX0_init 20 = .ok (.aload_n 0, 1) := by decide +kernel
theorem dX0_init_21 : decode cX0_init 21 = .ok (.bipush 6, 2) := by decide +kernel
theorem dX0_init_23 : decode cX0_init 23 = .ok (.newarray .int, 2) := by decide +kernel
theorem dX0_init_25 : decode cX0_init 25 = .ok (.putfield 18, 3) := by decide +kernel
theorem dX0_init_28 : decode cX0_init 28 = .ok (.aload_n 0, 1) := by decide +kernel
theorem dX0_init_29 : decode cX0_init 29 = .ok (.iconst 4, 1) := by decide +kernel
theorem dX0_init_30 : decode cX0_init 30 = .ok (.newarray .int, 2) := by decide +kernel
theorem dX0_init_32 : decode cX0_init 32 = .ok (.putfield 21, 3) := by decide +kernel
theorem dX0_init_35 : decode cX0_init 35 = .ok (.aload_n 0, 1) := by decide +kernel
theorem dX0_init_36 : decode cX0_init 36 = .ok (.iconst 4, 1) := by decide +kernel
theorem dX0_init_37 : decode cX0_init 37 = .ok (.newarray .int, 2) := by decide +kernel
theorem dX0_init_39 : decode cX0_init 39 = .ok (.putfield 24, 3) := by decide +kernel
theorem dX0_init_42 : decode cX0_init 42 = .ok (.aload_n 0, 1) := by decide +kernel
theorem dX0_init_43 : decode cX0_init 43 = .ok (.bipush 6, 2) := by decide +kernel
theorem dX0_init_45 : decode cX0_init 45 = .ok (.newarray .int, 2) := by decide +kernel
theorem dX0_init_47 : decode cX0_init 47 = .ok (.putfield 27, 3) := by decide +kernel
theorem dX0_init_50 : decode cX0_init 50 = .ok (.aload_n 0, 1) := by decide +kernel
theorem dX0_init_51 : decode cX0_init 51 = .ok (.bipush 6, 2) := by decide +kernel
theorem dX0_init_53 : decode cX0_init 53 = .ok (.newarray .int, 2) := by decide +kernel
theorem dX0_init_55 : decode cX0_init 55 = .ok (.putfield 30, 3) := by decide +kernel
theorem dX0_init_58 : decode cX0_init 58 = .ok (.aload_n 0, 1) := by decide +kernel
theorem dX0_init_59 : decode cX0_init 59 = .ok (.iconst 4, 1) := by decide +kernel
theorem dX0_init_60 : decode cX0_init 60 = .ok (.newarray .int, 2) := by decide +kernel
theorem dX0_init_62 : decode cX0_init 62 = .ok (.putfield 33, 3) := by decide +kernel
theorem dX0_init_65 : decode cX0_init 65 = .ok (.aload_n 0, 1) := by decide +kernel
theorem dX0_init_66 : decode cX0_init 66 = .ok (.iconst 4, 1) := by decide +kernel
theorem dX0_init_67 : decode cX0_init 67 = .ok (.newarray .long, 2) := by decide +kernel
theorem dX0_init_69 : decode cX0_init 69 = .ok (.putfield 36, 3) := by decide +kernel
theorem dX0_init_72 : decode cX0_init 72 = .ok (.aload_n 0, 1) := by decide +kernel
theorem dX0_init_73 : decode cX0_init 73 = .ok (.iconst 0, 1) := by decide +kernel
theorem dX0_init_74 : decode cX0_init 74 = .ok (.putfield 40, 3) := by decide +kernel
theorem dX0_init_77 : decode cX0_init 77 = .ok (.aload_n 0, 1) := by decide +kernel
theorem dX0_init_78 : decode cX0_init 78 = .ok (.iconst 0, 1) := by decide +kernel
theorem dX0_init_79 : decode cX0_init 79 = .ok (.putfield 44, 3) := by decide +kernel
theorem dX0_init_82 : decode cX0_init 82 = .ok (.aload_n 0, 1) := by decide +kernel
theorem dX0_init_83 : decode cX0_init 83 = .ok (.sipush 1000, 3) := by decide +kernel
theorem dX0_init_86 : decode cX0_init 86 = .ok (.putfield 47, 3) := by decide +kernel
theorem dX0_init_89 : decode cX0_init 89 = .ok (.aload_n 0, 1) := by decide +kernel
theorem dX0_init_90 : decode cX0_init 90 = .ok (.iconst (-1), 1) := by decide +kernel
theorem dX0_init_91 : decode cX0_init 91 = .ok (.putfield 50, 3) := by decide +kernel
theorem dX0_init_94 : decode cX0_init 94 = .ok (.aload_n 0, 1) := by decide +kernel
theorem dX0_init_95 : decode cX0_init 95 = .ok (.iconst 0, 1) := by decide +kernel
theorem dX0_init_96 : decode cX0_init 96 = .ok (.putfield 53, 3) := by decide +kernel
theorem dX0_init_99 : decode cX0_init 99 = .ok (.return_, 1) := by decide +kernel
def i0 (cy : Nat → ClassId) (u : US) : va_W := [(u 0 99, .inr (0, [.ref (u 0 0), .ref (u 0 1), .ref (u 0 2), .ref (u 0 3), .ref (u 0 4), .ref (u 0 5), .ref (u 0 6), .ref (u 0 7), .ref (u 0 8), .int 0, .int 0, .int 1000, .int (-1), .int 0])), (u 0 0, .inl (cy 0, 6, .inl (fun _ => 0))), (u 0 1, .inl (cy 0, 6, .inl (fun _ => 0))), (u 0 2, .inl (cy 0, 6, .inl (fun _ => 0))), (u 0 3, .inl (cy 0, 4, .inl (fun _ => 0))), (u 0 4, .inl (cy 0, 4, .inl (fun _ => 0))), (u 0 5, .inl (cy 0, 6, .inl (fun _ => 0))), (u 0 6, .inl (cy 0, 6, .inl (fun _ => 0))), (u 0 7, .inl (cy 0, 4, .inl (fun _ => 0))), (u 0 8, .inl (cy 1, 4, .inr (.inl (fun _ => 0))))]
set_option maxHeartbeats 8000000 in
set_option maxRecDepth 100000 in
theorem k0 (l : Launch) (D : va_G) (cy : Nat → ClassId) (sz h0 : Nat) : Met l yX0_init (wsOf yX0_init cX0_init 1 none) (rmK 1 9 46) (va_Pc [.ref h0] (PreG D cy [(h0, .inr (0, [.null, .null, .null, .null, .null, .null, .null, .null, .null, .int 0, .int 0, .int 0, .int 0, .int 0]))] sz NM)) (QcK D (i0 cy) 0 h0 (va_A [(h0, .inr (0, [.null, .null, .null, .null, .null, .null, .null, .null, .null, .int 0, .int 0, .int 0, .int 0, .int 0]))] sz)) 9 46 (va_A [(h0, .inr (0, [.null, .null, .null, .null, .null, .null, .null, .null, .null, .int 0, .int 0, .int 0, .int 0, .int 0]))] sz) := by
  refine metK (own := RX0) (by decide) rfl (Nat.le_of_ble_eq_true rfl) rfl ?_ sz
  intro p e s m below meth c ls C0 hmn hw hl
  obtain ⟨hx, hb, hml, hown, hts, hr, hlk, hK, hN⟩ := C0
  obtain ⟨hP, hD, hS⟩ := hw
  have hA : ∀ q : Nat, s.heap.size ≤ q → va_A [(h0, .inr (0, [.null, .null, .null, .null, .null, .null, .null, .null, .null, .int 0, .int 0, .int 0, .int 0, .int 0]))] s.heap.size q := fun q h => Or.inr h
  generalize hQ : MQ below (QcK D (i0 cy) 0 h0 (va_A [(h0, .inr (0, [.null, .null, .null, .null, .null, .null, .null, .null, .null, .int 0, .int 0, .int 0, .int 0, .int 0]))] s.heap.size)) ([.ref h0] : List Value).toArray s 9 46 (va_A [(h0, .inr (0, [.null, .null, .null, .null, .null, .null, .null, .null, .null, .int 0, .int 0, .int 0, .int 0, .int 0]))] s.heap.size) = Q
  generalize hAe : va_A [(h0, .inr (0, [.null, .null, .null, .null, .null, .null, .null, .null, .null, .int 0, .int 0, .int 0, .int 0, .int 0]))] s.heap.size = A at hQ hD hS hA
  have hP : va_P D vwCl [(h0, .inr (0, [.null, .null, .null, .null, .null, .null, .null, .null, .null, .int 0, .int 0, .int 0, .int 0, .int 0]))] s.heap := hP
  refine lv_aload_n hx hb dX0_init_0 rfl (lv_at hl 0 rfl) ?_
  refine W.objInit hx hb hown (hts _ (wd_2 (w := .methodLink RX0 5 objectInit) (i := 70) (by decide +kernel) rfl)) (hts _ (wd_1 (w := .instanceMethod objectInit) (i := 26) (by decide +kernel) rfl)) (hts _ (wd_1 (w := .code objectInit ⟨#[0xb1]⟩ 1 none) (i := 27) (by decide +kernel) rfl)) rfl (by rw [hml]; exact hl.1) rfl dX0_init_1 (Nat.le_of_ble_eq_true rfl) (Nat.le_of_ble_eq_true rfl) ?_
  refine W.eq (g2 := F0 m 4 ls []) rfl ?_
  refine lv_aload_n hx hb dX0_init_4 rfl (lv_at hl 0 rfl) ?_
  refine lv_bipush (v := 6) hx hb dX0_init_5 (by decide) ?_
  refine nw_int (N' := 6) hx hb hts hK hP hD hS hA (by decide) (by decide) (Nat.le_of_ble_eq_true rfl) (Nat.le_of_ble_eq_true rfl) (Nat.le_of_ble_eq_true rfl) dX0_init_7 (fun q_7 H hP hD hS => ?_)
  have hP : va_P D vwCl ([(h0, .inr (0, [.null, .null, .null, .null, .null, .null, .null, .null, .null, .int 0, .int 0, .int 0, .int 0, .int 0])), (q_7, .inl (cy 0, 6, .inl (fun _ => 0)))]) H := hP
  have hD : va_D A ([(h0, .inr (0, [.null, .null, .null, .null, .null, .null, .null, .null, .null, .int 0, .int 0, .int 0, .int 0, .int 0])), (q_7, .inl (cy 0, 6, .inl (fun _ => 0)))]) := hD
  refine W.widen (k := 1) (n := 6) (Nat.le_of_ble_eq_true rfl) (Nat.le_of_ble_eq_true rfl) ?_
  refine va_putF (D := D) (ci := 0) (v := .ref q_7) (ty := (tyX0 0)) (C := RX0) (T := TX0) (N := 14) hx hb hts inX0 tyX0 tyX0_ok nmX0 hown hK hP hD hS 0 rfl rfl 0 (by decide) (hts _ (wd_2 (w := .fieldLink RX0 11 RX0 (TX0 0).2.1 (TX0 0).2.2.1) (i := 71) (by decide +kernel) rfl)) (fun _ h9 => h9) rfl hmn rfl (by decide +kernel) rfl rfl (Nat.le_of_ble_eq_true rfl) dX0_init_9 (fun H locs hP hD hS => ?_)
  have hP : va_P D vwCl ([(h0, .inr (0, [.ref q_7, .null, .null, .null, .null, .null, .null, .null, .null, .int 0, .int 0, .int 0, .int 0, .int 0])), (q_7, .inl (cy 0, 6, .inl (fun _ => 0)))]) H := hP
  have hD : va_D A ([(h0, .inr (0, [.ref q_7, .null, .null, .null, .null, .null, .null, .null, .null, .int 0, .int 0, .int 0, .int 0, .int 0])), (q_7, .inl (cy 0, 6, .inl (fun _ => 0)))]) := hD
  refine lv_aload_n hx hb dX0_init_12 rfl (lv_at hl 0 rfl) ?_
  refine lv_bipush (v := 6) hx hb dX0_init_13 (by decide) ?_
  refine nw_int (N' := 6) hx hb hts hK hP hD hS hA (by decide) (by decide) (Nat.le_of_ble_eq_true rfl) (Nat.le_of_ble_eq_true rfl) (Nat.le_of_ble_eq_true rfl) dX0_init_15 (fun q_15 H hP hD hS => ?_)
  have hP : va_P D vwCl ([(h0, .inr (0, [.ref q_7, .null, .null, .null, .null, .null, .null, .null, .null, .int 0, .int 0, .int 0, .int 0, .int 0])), (q_7, .inl (cy 0, 6, .inl (fun _ => 0))), (q_15, .inl (cy 0, 6, .inl (fun _ => 0)))]) H := hP
  have hD : va_D A ([(h0, .inr (0, [.ref q_7, .null, .null, .null, .null, .null, .null, .null, .null, .int 0, .int 0, .int 0, .int 0, .int 0])), (q_7, .inl (cy 0, 6, .inl (fun _ => 0))), (q_15, .inl (cy 0, 6, .inl (fun _ => 0)))]) := hD
  refine W.widen (k := 2) (n := 12) (Nat.le_of_ble_eq_true rfl) (Nat.le_of_ble_eq_true rfl) ?_
  refine va_putF (D := D) (ci := 0) (v := .ref q_15) (ty := (tyX0 1)) (C := RX0) (T := TX0) (N := 14) hx hb hts inX0 tyX0 tyX0_ok nmX0 hown hK hP hD hS 0 rfl rfl 1 (by decide) (hts _ (wd_2 (w := .fieldLink RX0 15 RX0 (TX0 1).2.1 (TX0 1).2.2.1) (i := 72) (by decide +kernel) rfl)) (fun _ h9 => h9) rfl hmn rfl (by decide +kernel) rfl rfl (Nat.le_of_ble_eq_true rfl) dX0_init_17 (fun H locs hP hD hS => ?_)
  have hP : va_P D vwCl ([(h0, .inr (0, [.ref q_7, .ref q_15, .null, .null, .null, .null, .null, .null, .null, .int 0, .int 0, .int 0, .int 0, .int 0])), (q_7, .inl (cy 0, 6, .inl (fun _ => 0))), (q_15, .inl (cy 0, 6, .inl (fun _ => 0)))]) H := hP
  have hD : va_D A ([(h0, .inr (0, [.ref q_7, .ref q_15, .null, .null, .null, .null, .null, .null, .null, .int 0, .int 0, .int 0, .int 0, .int 0])), (q_7, .inl (cy 0, 6, .inl (fun _ => 0))), (q_15, .inl (cy 0, 6, .inl (fun _ => 0)))]) := hD
  refine lv_aload_n hx hb dX0_init_20 rfl (lv_at hl 0 rfl) ?_
  refine lv_bipush (v := 6) hx hb dX0_init_21 (by decide) ?_
  refine nw_int (N' := 6) hx hb hts hK hP hD hS hA (by decide) (by decide) (Nat.le_of_ble_eq_true rfl) (Nat.le_of_ble_eq_true rfl) (Nat.le_of_ble_eq_true rfl) dX0_init_23 (fun q_23 H hP hD hS => ?_)
  have hP : va_P D vwCl ([(h0, .inr (0, [.ref q_7, .ref q_15, .null, .null, .null, .null, .null, .null, .null, .int 0, .int 0, .int 0, .int 0, .int 0])), (q_7, .inl (cy 0, 6, .inl (fun _ => 0))), (q_15, .inl (cy 0, 6, .inl (fun _ => 0))), (q_23, .inl (cy 0, 6, .inl (fun _ => 0)))]) H := hP
  have hD : va_D A ([(h0, .inr (0, [.ref q_7, .ref q_15, .null, .null, .null, .null, .null, .null, .null, .int 0, .int 0, .int 0, .int 0, .int 0])), (q_7, .inl (cy 0, 6, .inl (fun _ => 0))), (q_15, .inl (cy 0, 6, .inl (fun _ => 0))), (q_23, .inl (cy 0, 6, .inl (fun _ => 0)))]) := hD
  refine W.widen (k := 3) (n := 18) (Nat.le_of_ble_eq_true rfl) (Nat.le_of_ble_eq_true rfl) ?_
  refine va_putF (D := D) (ci := 0) (v := .ref q_23) (ty := (tyX0 2)) (C := RX0) (T := TX0) (N := 14) hx hb hts inX0 tyX0 tyX0_ok nmX0 hown hK hP hD hS 0 rfl rfl 2 (by decide) (hts _ (wd_2 (w := .fieldLink RX0 18 RX0 (TX0 2).2.1 (TX0 2).2.2.1) (i := 73) (by decide +kernel) rfl)) (fun _ h9 => h9) rfl hmn rfl (by decide +kernel) rfl rfl (Nat.le_of_ble_eq_true rfl) dX0_init_25 (fun H locs hP hD hS => ?_)
  have hP : va_P D vwCl ([(h0, .inr (0, [.ref q_7, .ref q_15, .ref q_23, .null, .null, .null, .null, .null, .null, .int 0, .int 0, .int 0, .int 0, .int 0])), (q_7, .inl (cy 0, 6, .inl (fun _ => 0))), (q_15, .inl (cy 0, 6, .inl (fun _ => 0))), (q_23, .inl (cy 0, 6, .inl (fun _ => 0)))]) H := hP
  have hD : va_D A ([(h0, .inr (0, [.ref q_7, .ref q_15, .ref q_23, .null, .null, .null, .null, .null, .null, .int 0, .int 0, .int 0, .int 0, .int 0])), (q_7, .inl (cy 0, 6, .inl (fun _ => 0))), (q_15, .inl (cy 0, 6, .inl (fun _ => 0))), (q_23, .inl (cy 0, 6, .inl (fun _ => 0)))]) := hD
  refine lv_aload_n hx hb dX0_init_28 rfl (lv_at hl 0 rfl) ?_
  refine lv_iconst (v := 4) hx hb dX0_init_29 (by decide) ?_
  refine nw_int (N' := 4) hx hb hts hK hP hD hS hA (by decide) (by decide) (Nat.le_of_ble_eq_true rfl) (Nat.le_of_ble_eq_true rfl) (Nat.le_of_ble_eq_true rfl) dX0_init_30 (fun q_30 H hP hD hS => ?_)
  have hP : va_P D vwCl ([(h0, .inr (0, [.ref q_7, .ref q_15, .ref q_23, .null, .null, .null, .null, .null, .null, .int 0, .int 0, .int 0, .int 0, .int 0])), (q_7, .inl (cy 0, 6, .inl (fun _ => 0))), (q_15, .inl (cy 0, 6, .inl (fun _ => 0))), (q_23, .inl (cy 0, 6, .inl (fun _ => 0))), (q_30, .inl (cy 0, 4, .inl (fun _ => 0)))]) H := hP
  have hD : va_D A ([(h0, .inr (0, [.ref q_7, .ref q_15, .ref q_23, .null, .null, .null, .null, .null, .null, .int 0, .int 0, .int 0, .int 0, .int 0])), (q_7, .inl (cy 0, 6, .inl (fun _ => 0))), (q_15, .inl (cy 0, 6, .inl (fun _ => 0))), (q_23, .inl (cy 0, 6, .inl (fun _ => 0))), (q_30, .inl (cy 0, 4, .inl (fun _ => 0)))]) := hD
  refine W.widen (k := 4) (n := 22) (Nat.le_of_ble_eq_true rfl) (Nat.le_of_ble_eq_true rfl) ?_
  refine va_putF (D := D) (ci := 0) (v := .ref q_30) (ty := (tyX0 3)) (C := RX0) (T := TX0) (N := 14) hx hb hts inX0 tyX0 tyX0_ok nmX0 hown hK hP hD hS 0 rfl rfl 3 (by decide) (hts _ (wd_2 (w := .fieldLink RX0 21 RX0 (TX0 3).2.1 (TX0 3).2.2.1) (i := 74) (by decide +kernel) rfl)) (fun _ h9 => h9) rfl hmn rfl (by decide +kernel) rfl rfl (Nat.le_of_ble_eq_true rfl) dX0_init_32 (fun H locs hP hD hS => ?_)
  have hP : va_P D vwCl ([(h0, .inr (0, [.ref q_7, .ref q_15, .ref q_23, .ref q_30, .null, .null, .null, .null, .null, .int 0, .int 0, .int 0, .int 0, .int 0])), (q_7, .inl (cy 0, 6, .inl (fun _ => 0))), (q_15, .inl (cy 0, 6, .inl (fun _ => 0))), (q_23, .inl (cy 0, 6, .inl (fun _ => 0))), (q_30, .inl (cy 0, 4, .inl (fun _ => 0)))]) H := hP
  have hD : va_D A ([(h0, .inr (0, [.ref q_7, .ref q_15, .ref q_23, .ref q_30, .null, .null, .null, .null, .null, .int 0, .int 0, .int 0, .int 0, .int 0])), (q_7, .inl (cy 0, 6, .inl (fun _ => 0))), (q_15, .inl (cy 0, 6, .inl (fun _ => 0))), (q_23, .inl (cy 0, 6, .inl (fun _ => 0))), (q_30, .inl (cy 0, 4, .inl (fun _ => 0)))]) := hD
  refine lv_aload_n hx hb dX0_init_35 rfl (lv_at hl 0 rfl) ?_
  refine lv_iconst (v := 4) hx hb dX0_init_36 (by decide) ?_
  refine nw_int (N' := 4) hx hb hts hK hP hD hS hA (by decide) (by decide) (Nat.le_of_ble_eq_true rfl) (Nat.le_of_ble_eq_true rfl) (Nat.le_of_ble_eq_true rfl) dX0_init_37 (fun q_37 H hP hD hS => ?_)
  have hP : va_P D vwCl ([(h0, .inr (0, [.ref q_7, .ref q_15, .ref q_23, .ref q_30, .null, .null, .null, .null, .null, .int 0, .int 0, .int 0, .int 0, .int 0])), (q_7, .inl (cy 0, 6, .inl (fun _ => 0))), (q_15, .inl (cy 0, 6, .inl (fun _ => 0))), (q_23, .inl (cy 0, 6, .inl (fun _ => 0))), (q_30, .inl (cy 0, 4, .inl (fun _ => 0))), (q_37, .inl (cy 0, 4, .inl (fun _ => 0)))]) H := hP
  have hD : va_D A ([(h0, .inr (0, [.ref q_7, .ref q_15, .ref q_23, .ref q_30, .null, .null, .null, .null, .null, .int 0, .int 0, .int 0, .int 0, .int 0])), (q_7, .inl (cy 0, 6, .inl (fun _ => 0))), (q_15, .inl (cy 0, 6, .inl (fun _ => 0))), (q_23, .inl (cy 0, 6, .inl (fun _ => 0))), (q_30, .inl (cy 0, 4, .inl (fun _ => 0))), (q_37, .inl (cy 0, 4, .inl (fun _ => 0)))]) := hD
  refine W.widen (k := 5) (n := 26) (Nat.le_of_ble_eq_true rfl) (Nat.le_of_ble_eq_true rfl) ?_
  refine va_putF (D := D) (ci := 0) (v := .ref q_37) (ty := (tyX0 4)) (C := RX0) (T := TX0) (N := 14) hx hb hts inX0 tyX0 tyX0_ok nmX0 hown hK hP hD hS 0 rfl rfl 4 (by decide) (hts _ (wd_2 (w := .fieldLink RX0 24 RX0 (TX0 4).2.1 (TX0 4).2.2.1) (i := 75) (by decide +kernel) rfl)) (fun _ h9 => h9) rfl hmn rfl (by decide +kernel) rfl rfl (Nat.le_of_ble_eq_true rfl) dX0_init_39 (fun H locs hP hD hS => ?_)
  have hP : va_P D vwCl ([(h0, .inr (0, [.ref q_7, .ref q_15, .ref q_23, .ref q_30, .ref q_37, .null, .null, .null, .null, .int 0, .int 0, .int 0, .int 0, .int 0])), (q_7, .inl (cy 0, 6, .inl (fun _ => 0))), (q_15, .inl (cy 0, 6, .inl (fun _ => 0))), (q_23, .inl (cy 0, 6, .inl (fun _ => 0))), (q_30, .inl (cy 0, 4, .inl (fun _ => 0))), (q_37, .inl (cy 0, 4, .inl (fun _ => 0)))]) H := hP
  have hD : va_D A ([(h0, .inr (0, [.ref q_7, .ref q_15, .ref q_23, .ref q_30, .ref q_37, .null, .null, .null, .null, .int 0, .int 0, .int 0, .int 0, .int 0])), (q_7, .inl (cy 0, 6, .inl (fun _ => 0))), (q_15, .inl (cy 0, 6, .inl (fun _ => 0))), (q_23, .inl (cy 0, 6, .inl (fun _ => 0))), (q_30, .inl (cy 0, 4, .inl (fun _ => 0))), (q_37, .inl (cy 0, 4, .inl (fun _ => 0)))]) := hD
  refine lv_aload_n hx hb dX0_init_42 rfl (lv_at hl 0 rfl) ?_
  refine lv_bipush (v := 6) hx hb dX0_init_43 (by decide) ?_
  refine nw_int (N' := 6) hx hb hts hK hP hD hS hA (by decide) (by decide) (Nat.le_of_ble_eq_true rfl) (Nat.le_of_ble_eq_true rfl) (Nat.le_of_ble_eq_true rfl) dX0_init_45 (fun q_45 H hP hD hS => ?_)
  have hP : va_P D vwCl ([(h0, .inr (0, [.ref q_7, .ref q_15, .ref q_23, .ref q_30, .ref q_37, .null, .null, .null, .null, .int 0, .int 0, .int 0, .int 0, .int 0])), (q_7, .inl (cy 0, 6, .inl (fun _ => 0))), (q_15, .inl (cy 0, 6, .inl (fun _ => 0))), (q_23, .inl (cy 0, 6, .inl (fun _ => 0))), (q_30, .inl (cy 0, 4, .inl (fun _ => 0))), (q_37, .inl (cy 0, 4, .inl (fun _ => 0))), (q_45, .inl (cy 0, 6, .inl (fun _ => 0)))]) H := hP
  have hD : va_D A ([(h0, .inr (0, [.ref q_7, .ref q_15, .ref q_23, .ref q_30, .ref q_37, .null, .null, .null, .null, .int 0, .int 0, .int 0, .int 0, .int 0])), (q_7, .inl (cy 0, 6, .inl (fun _ => 0))), (q_15, .inl (cy 0, 6, .inl (fun _ => 0))), (q_23, .inl (cy 0, 6, .inl (fun _ => 0))), (q_30, .inl (cy 0, 4, .inl (fun _ => 0))), (q_37, .inl (cy 0, 4, .inl (fun _ => 0))), (q_45, .inl (cy 0, 6, .inl (fun _ => 0)))]) := hD
  refine W.widen (k := 6) (n := 32) (Nat.le_of_ble_eq_true rfl) (Nat.le_of_ble_eq_true rfl) ?_
  refine va_putF (D := D) (ci := 0) (v := .ref q_45) (ty := (tyX0 5)) (C := RX0) (T := TX0) (N := 14) hx hb hts inX0 tyX0 tyX0_ok nmX0 hown hK hP hD hS 0 rfl rfl 5 (by decide) (hts _ (wd_2 (w := .fieldLink RX0 27 RX0 (TX0 5).2.1 (TX0 5).2.2.1) (i := 76) (by decide +kernel) rfl)) (fun _ h9 => h9) rfl hmn rfl (by decide +kernel) rfl rfl (Nat.le_of_ble_eq_true rfl) dX0_init_47 (fun H locs hP hD hS => ?_)
  have hP : va_P D vwCl ([(h0, .inr (0, [.ref q_7, .ref q_15, .ref q_23, .ref q_30, .ref q_37, .ref q_45, .null, .null, .null, .int 0, .int 0, .int 0, .int 0, .int 0])), (q_7, .inl (cy 0, 6, .inl (fun _ => 0))), (q_15, .inl (cy 0, 6, .inl (fun _ => 0))), (q_23, .inl (cy 0, 6, .inl (fun _ => 0))), (q_30, .inl (cy 0, 4, .inl (fun _ => 0))), (q_37, .inl (cy 0, 4, .inl (fun _ => 0))), (q_45, .inl (cy 0, 6, .inl (fun _ => 0)))]) H := hP
  have hD : va_D A ([(h0, .inr (0, [.ref q_7, .ref q_15, .ref q_23, .ref q_30, .ref q_37, .ref q_45, .null, .null, .null, .int 0, .int 0, .int 0, .int 0, .int 0])), (q_7, .inl (cy 0, 6, .inl (fun _ => 0))), (q_15, .inl (cy 0, 6, .inl (fun _ => 0))), (q_23, .inl (cy 0, 6, .inl (fun _ => 0))), (q_30, .inl (cy 0, 4, .inl (fun _ => 0))), (q_37, .inl (cy 0, 4, .inl (fun _ => 0))), (q_45, .inl (cy 0, 6, .inl (fun _ => 0)))]) := hD
  refine lv_aload_n hx hb dX0_init_50 rfl (lv_at hl 0 rfl) ?_
  refine lv_bipush (v := 6) hx hb dX0_init_51 (by decide) ?_
  refine nw_int (N' := 6) hx hb hts hK hP hD hS hA (by decide) (by decide) (Nat.le_of_ble_eq_true rfl) (Nat.le_of_ble_eq_true rfl) (Nat.le_of_ble_eq_true rfl) dX0_init_53 (fun q_53 H hP hD hS => ?_)
  have hP : va_P D vwCl ([(h0, .inr (0, [.ref q_7, .ref q_15, .ref q_23, .ref q_30, .ref q_37, .ref q_45, .null, .null, .null, .int 0, .int 0, .int 0, .int 0, .int 0])), (q_7, .inl (cy 0, 6, .inl (fun _ => 0))), (q_15, .inl (cy 0, 6, .inl (fun _ => 0))), (q_23, .inl (cy 0, 6, .inl (fun _ => 0))), (q_30, .inl (cy 0, 4, .inl (fun _ => 0))), (q_37, .inl (cy 0, 4, .inl (fun _ => 0))), (q_45, .inl (cy 0, 6, .inl (fun _ => 0))), (q_53, .inl (cy 0, 6, .inl (fun _ => 0)))]) H := hP
  have hD : va_D A ([(h0, .inr (0, [.ref q_7, .ref q_15, .ref q_23, .ref q_30, .ref q_37, .ref q_45, .null, .null, .null, .int 0, .int 0, .int 0, .int 0, .int 0])), (q_7, .inl (cy 0, 6, .inl (fun _ => 0))), (q_15, .inl (cy 0, 6, .inl (fun _ => 0))), (q_23, .inl (cy 0, 6, .inl (fun _ => 0))), (q_30, .inl (cy 0, 4, .inl (fun _ => 0))), (q_37, .inl (cy 0, 4, .inl (fun _ => 0))), (q_45, .inl (cy 0, 6, .inl (fun _ => 0))), (q_53, .inl (cy 0, 6, .inl (fun _ => 0)))]) := hD
  refine W.widen (k := 7) (n := 38) (Nat.le_of_ble_eq_true rfl) (Nat.le_of_ble_eq_true rfl) ?_
  refine va_putF (D := D) (ci := 0) (v := .ref q_53) (ty := (tyX0 6)) (C := RX0) (T := TX0) (N := 14) hx hb hts inX0 tyX0 tyX0_ok nmX0 hown hK hP hD hS 0 rfl rfl 6 (by decide) (hts _ (wd_2 (w := .fieldLink RX0 30 RX0 (TX0 6).2.1 (TX0 6).2.2.1) (i := 77) (by decide +kernel) rfl)) (fun _ h9 => h9) rfl hmn rfl (by decide +kernel) rfl rfl (Nat.le_of_ble_eq_true rfl) dX0_init_55 (fun H locs hP hD hS => ?_)
  have hP : va_P D vwCl ([(h0, .inr (0, [.ref q_7, .ref q_15, .ref q_23, .ref q_30, .ref q_37, .ref q_45, .ref q_53, .null, .null, .int 0, .int 0, .int 0, .int 0, .int 0])), (q_7, .inl (cy 0, 6, .inl (fun _ => 0))), (q_15, .inl (cy 0, 6, .inl (fun _ => 0))), (q_23, .inl (cy 0, 6, .inl (fun _ => 0))), (q_30, .inl (cy 0, 4, .inl (fun _ => 0))), (q_37, .inl (cy 0, 4, .inl (fun _ => 0))), (q_45, .inl (cy 0, 6, .inl (fun _ => 0))), (q_53, .inl (cy 0, 6, .inl (fun _ => 0)))]) H := hP
  have hD : va_D A ([(h0, .inr (0, [.ref q_7, .ref q_15, .ref q_23, .ref q_30, .ref q_37, .ref q_45, .ref q_53, .null, .null, .int 0, .int 0, .int 0, .int 0, .int 0])), (q_7, .inl (cy 0, 6, .inl (fun _ => 0))), (q_15, .inl (cy 0, 6, .inl (fun _ => 0))), (q_23, .inl (cy 0, 6, .inl (fun _ => 0))), (q_30, .inl (cy 0, 4, .inl (fun _ => 0))), (q_37, .inl (cy 0, 4, .inl (fun _ => 0))), (q_45, .inl (cy 0, 6, .inl (fun _ => 0))), (q_53, .inl (cy 0, 6, .inl (fun _ => 0)))]) := hD
  refine lv_aload_n hx hb dX0_init_58 rfl (lv_at hl 0 rfl) ?_
  refine lv_iconst (v := 4) hx hb dX0_init_59 (by decide) ?_
  refine nw_int (N' := 4) hx hb hts hK hP hD hS hA (by decide) (by decide) (Nat.le_of_ble_eq_true rfl) (Nat.le_of_ble_eq_true rfl) (Nat.le_of_ble_eq_true rfl) dX0_init_60 (fun q_60 H hP hD hS => ?_)
  have hP : va_P D vwCl ([(h0, .inr (0, [.ref q_7, .ref q_15, .ref q_23, .ref q_30, .ref q_37, .ref q_45, .ref q_53, .null, .null, .int 0, .int 0, .int 0, .int 0, .int 0])), (q_7, .inl (cy 0, 6, .inl (fun _ => 0))), (q_15, .inl (cy 0, 6, .inl (fun _ => 0))), (q_23, .inl (cy 0, 6, .inl (fun _ => 0))), (q_30, .inl (cy 0, 4, .inl (fun _ => 0))), (q_37, .inl (cy 0, 4, .inl (fun _ => 0))), (q_45, .inl (cy 0, 6, .inl (fun _ => 0))), (q_53, .inl (cy 0, 6, .inl (fun _ => 0))), (q_60, .inl (cy 0, 4, .inl (fun _ => 0)))]) H := hP
  have hD : va_D A ([(h0, .inr (0, [.ref q_7, .ref q_15, .ref q_23, .ref q_30, .ref q_37, .ref q_45, .ref q_53, .null, .null, .int 0, .int 0, .int 0, .int 0, .int 0])), (q_7, .inl (cy 0, 6, .inl (fun _ => 0))), (q_15, .inl (cy 0, 6, .inl (fun _ => 0))), (q_23, .inl (cy 0, 6, .inl (fun _ => 0))), (q_30, .inl (cy 0, 4, .inl (fun _ => 0))), (q_37, .inl (cy 0, 4, .inl (fun _ => 0))), (q_45, .inl (cy 0, 6, .inl (fun _ => 0))), (q_53, .inl (cy 0, 6, .inl (fun _ => 0))), (q_60, .inl (cy 0, 4, .inl (fun _ => 0)))]) := hD
  refine W.widen (k := 8) (n := 42) (Nat.le_of_ble_eq_true rfl) (Nat.le_of_ble_eq_true rfl) ?_
  refine va_putF (D := D) (ci := 0) (v := .ref q_60) (ty := (tyX0 7)) (C := RX0) (T := TX0) (N := 14) hx hb hts inX0 tyX0 tyX0_ok nmX0 hown hK hP hD hS 0 rfl rfl 7 (by decide) (hts _ (wd_2 (w := .fieldLink RX0 33 RX0 (TX0 7).2.1 (TX0 7).2.2.1) (i := 78) (by decide +kernel) rfl)) (fun _ h9 => h9) rfl hmn rfl (by decide +kernel) rfl rfl (Nat.le_of_ble_eq_true rfl) dX0_init_62 (fun H locs hP hD hS => ?_)
  have hP : va_P D vwCl ([(h0, .inr (0, [.ref q_7, .ref q_15, .ref q_23, .ref q_30, .ref q_37, .ref q_45, .ref q_53, .ref q_60, .null, .int 0, .int 0, .int 0, .int 0, .int 0])), (q_7, .inl (cy 0, 6, .inl (fun _ => 0))), (q_15, .inl (cy 0, 6, .inl (fun _ => 0))), (q_23, .inl (cy 0, 6, .inl (fun _ => 0))), (q_30, .inl (cy 0, 4, .inl (fun _ => 0))), (q_37, .inl (cy 0, 4, .inl (fun _ => 0))), (q_45, .inl (cy 0, 6, .inl (fun _ => 0))), (q_53, .inl (cy 0, 6, .inl (fun _ => 0))), (q_60, .inl (cy 0, 4, .inl (fun _ => 0)))]) H := hP
  have hD : va_D A ([(h0, .inr (0, [.ref q_7, .ref q_15, .ref q_23, .ref q_30, .ref q_37, .ref q_45, .ref q_53, .ref q_60, .null, .int 0, .int 0, .int 0, .int 0, .int 0])), (q_7, .inl (cy 0, 6, .inl (fun _ => 0))), (q_15, .inl (cy 0, 6, .inl (fun _ => 0))), (q_23, .inl (cy 0, 6, .inl (fun _ => 0))), (q_30, .inl (cy 0, 4, .inl (fun _ => 0))), (q_37, .inl (cy 0, 4, .inl (fun _ => 0))), (q_45, .inl (cy 0, 6, .inl (fun _ => 0))), (q_53, .inl (cy 0, 6, .inl (fun _ => 0))), (q_60, .inl (cy 0, 4, .inl (fun _ => 0)))]) := hD
  refine lv_aload_n hx hb dX0_init_65 rfl (lv_at hl 0 rfl) ?_
  refine lv_iconst (v := 4) hx hb dX0_init_66 (by decide) ?_
  refine nw_long (N' := 4) hx hb hts hK hP hD hS hA (by decide) (by decide) (Nat.le_of_ble_eq_true rfl) (Nat.le_of_ble_eq_true rfl) (Nat.le_of_ble_eq_true rfl) dX0_init_67 (fun q_67 H hP hD hS => ?_)
  have hP : va_P D vwCl ([(h0, .inr (0, [.ref q_7, .ref q_15, .ref q_23, .ref q_30, .ref q_37, .ref q_45, .ref q_53, .ref q_60, .null, .int 0, .int 0, .int 0, .int 0, .int 0])), (q_7, .inl (cy 0, 6, .inl (fun _ => 0))), (q_15, .inl (cy 0, 6, .inl (fun _ => 0))), (q_23, .inl (cy 0, 6, .inl (fun _ => 0))), (q_30, .inl (cy 0, 4, .inl (fun _ => 0))), (q_37, .inl (cy 0, 4, .inl (fun _ => 0))), (q_45, .inl (cy 0, 6, .inl (fun _ => 0))), (q_53, .inl (cy 0, 6, .inl (fun _ => 0))), (q_60, .inl (cy 0, 4, .inl (fun _ => 0))), (q_67, .inl (cy 1, 4, .inr (.inl (fun _ => 0))))]) H := hP
  have hD : va_D A ([(h0, .inr (0, [.ref q_7, .ref q_15, .ref q_23, .ref q_30, .ref q_37, .ref q_45, .ref q_53, .ref q_60, .null, .int 0, .int 0, .int 0, .int 0, .int 0])), (q_7, .inl (cy 0, 6, .inl (fun _ => 0))), (q_15, .inl (cy 0, 6, .inl (fun _ => 0))), (q_23, .inl (cy 0, 6, .inl (fun _ => 0))), (q_30, .inl (cy 0, 4, .inl (fun _ => 0))), (q_37, .inl (cy 0, 4, .inl (fun _ => 0))), (q_45, .inl (cy 0, 6, .inl (fun _ => 0))), (q_53, .inl (cy 0, 6, .inl (fun _ => 0))), (q_60, .inl (cy 0, 4, .inl (fun _ => 0))), (q_67, .inl (cy 1, 4, .inr (.inl (fun _ => 0))))]) := hD
  refine W.widen (k := 9) (n := 46) (Nat.le_of_ble_eq_true rfl) (Nat.le_of_ble_eq_true rfl) ?_
  refine va_putF (D := D) (ci := 0) (v := .ref q_67) (ty := (tyX0 8)) (C := RX0) (T := TX0) (N := 14) hx hb hts inX0 tyX0 tyX0_ok nmX0 hown hK hP hD hS 0 rfl rfl 8 (by decide) (hts _ (wd_2 (w := .fieldLink RX0 36 RX0 (TX0 8).2.1 (TX0 8).2.2.1) (i := 79) (by decide +kernel) rfl)) (fun _ h9 => h9) rfl hmn rfl (by decide +kernel) rfl rfl (Nat.le_of_ble_eq_true rfl) dX0_init_69 (fun H locs hP hD hS => ?_)
  have hP : va_P D vwCl ([(h0, .inr (0, [.ref q_7, .ref q_15, .ref q_23, .ref q_30, .ref q_37, .ref q_45, .ref q_53, .ref q_60, .ref q_67, .int 0, .int 0, .int 0, .int 0, .int 0])), (q_7, .inl (cy 0, 6, .inl (fun _ => 0))), (q_15, .inl (cy 0, 6, .inl (fun _ => 0))), (q_23, .inl (cy 0, 6, .inl (fun _ => 0))), (q_30, .inl (cy 0, 4, .inl (fun _ => 0))), (q_37, .inl (cy 0, 4, .inl (fun _ => 0))), (q_45, .inl (cy 0, 6, .inl (fun _ => 0))), (q_53, .inl (cy 0, 6, .inl (fun _ => 0))), (q_60, .inl (cy 0, 4, .inl (fun _ => 0))), (q_67, .inl (cy 1, 4, .inr (.inl (fun _ => 0))))]) H := hP
  have hD : va_D A ([(h0, .inr (0, [.ref q_7, .ref q_15, .ref q_23, .ref q_30, .ref q_37, .ref q_45, .ref q_53, .ref q_60, .ref q_67, .int 0, .int 0, .int 0, .int 0, .int 0])), (q_7, .inl (cy 0, 6, .inl (fun _ => 0))), (q_15, .inl (cy 0, 6, .inl (fun _ => 0))), (q_23, .inl (cy 0, 6, .inl (fun _ => 0))), (q_30, .inl (cy 0, 4, .inl (fun _ => 0))), (q_37, .inl (cy 0, 4, .inl (fun _ => 0))), (q_45, .inl (cy 0, 6, .inl (fun _ => 0))), (q_53, .inl (cy 0, 6, .inl (fun _ => 0))), (q_60, .inl (cy 0, 4, .inl (fun _ => 0))), (q_67, .inl (cy 1, 4, .inr (.inl (fun _ => 0))))]) := hD
  refine lv_aload_n hx hb dX0_init_72 rfl (lv_at hl 0 rfl) ?_
  refine lv_iconst (v := 0) hx hb dX0_init_73 (by decide) ?_
  refine va_put (D := D) (ci := 0) (v := .int 0) (ty := (tyX0 9)) (C := RX0) (T := TX0) (N := 14) hx hb hts inX0 tyX0 tyX0_ok nmX0 hown hK hP hD hS 0 rfl rfl 9 (by decide) (hts _ (wd_2 (w := .fieldLink RX0 40 RX0 (TX0 9).2.1 (TX0 9).2.2.1) (i := 80) (by decide +kernel) rfl)) (fun _ h9 => h9) rfl (by decide +kernel) rfl rfl (Nat.le_of_ble_eq_true rfl) dX0_init_74 (fun H locs hP hD hS => ?_)
  have hP : va_P D vwCl ([(h0, .inr (0, [.ref q_7, .ref q_15, .ref q_23, .ref q_30, .ref q_37, .ref q_45, .ref q_53, .ref q_60, .ref q_67, .int 0, .int 0, .int 0, .int 0, .int 0])), (q_7, .inl (cy 0, 6, .inl (fun _ => 0))), (q_15, .inl (cy 0, 6, .inl (fun _ => 0))), (q_23, .inl (cy 0, 6, .inl (fun _ => 0))), (q_30, .inl (cy 0, 4, .inl (fun _ => 0))), (q_37, .inl (cy 0, 4, .inl (fun _ => 0))), (q_45, .inl (cy 0, 6, .inl (fun _ => 0))), (q_53, .inl (cy 0, 6, .inl (fun _ => 0))), (q_60, .inl (cy 0, 4, .inl (fun _ => 0))), (q_67, .inl (cy 1, 4, .inr (.inl (fun _ => 0))))]) H := hP
  have hD : va_D A ([(h0, .inr (0, [.ref q_7, .ref q_15, .ref q_23, .ref q_30, .ref q_37, .ref q_45, .ref q_53, .ref q_60, .ref q_67, .int 0, .int 0, .int 0, .int 0, .int 0])), (q_7, .inl (cy 0, 6, .inl (fun _ => 0))), (q_15, .inl (cy 0, 6, .inl (fun _ => 0))), (q_23, .inl (cy 0, 6, .inl (fun _ => 0))), (q_30, .inl (cy 0, 4, .inl (fun _ => 0))), (q_37, .inl (cy 0, 4, .inl (fun _ => 0))), (q_45, .inl (cy 0, 6, .inl (fun _ => 0))), (q_53, .inl (cy 0, 6, .inl (fun _ => 0))), (q_60, .inl (cy 0, 4, .inl (fun _ => 0))), (q_67, .inl (cy 1, 4, .inr (.inl (fun _ => 0))))]) := hD
  refine lv_aload_n hx hb dX0_init_77 rfl (lv_at hl 0 rfl) ?_
  refine lv_iconst (v := 0) hx hb dX0_init_78 (by decide) ?_
  refine va_put (D := D) (ci := 0) (v := .int 0) (ty := (tyX0 10)) (C := RX0) (T := TX0) (N := 14) hx hb hts inX0 tyX0 tyX0_ok nmX0 hown hK hP hD hS 0 rfl rfl 10 (by decide) (hts _ (wd_2 (w := .fieldLink RX0 44 RX0 (TX0 10).2.1 (TX0 10).2.2.1) (i := 81) (by decide +kernel) rfl)) (fun _ h9 => h9) rfl (by decide +kernel) rfl rfl (Nat.le_of_ble_eq_true rfl) dX0_init_79 (fun H locs hP hD hS => ?_)
  have hP : va_P D vwCl ([(h0, .inr (0, [.ref q_7, .ref q_15, .ref q_23, .ref q_30, .ref q_37, .ref q_45, .ref q_53, .ref q_60, .ref q_67, .int 0, .int 0, .int 0, .int 0, .int 0])), (q_7, .inl (cy 0, 6, .inl (fun _ => 0))), (q_15, .inl (cy 0, 6, .inl (fun _ => 0))), (q_23, .inl (cy 0, 6, .inl (fun _ => 0))), (q_30, .inl (cy 0, 4, .inl (fun _ => 0))), (q_37, .inl (cy 0, 4, .inl (fun _ => 0))), (q_45, .inl (cy 0, 6, .inl (fun _ => 0))), (q_53, .inl (cy 0, 6, .inl (fun _ => 0))), (q_60, .inl (cy 0, 4, .inl (fun _ => 0))), (q_67, .inl (cy 1, 4, .inr (.inl (fun _ => 0))))]) H := hP
  have hD : va_D A ([(h0, .inr (0, [.ref q_7, .ref q_15, .ref q_23, .ref q_30, .ref q_37, .ref q_45, .ref q_53, .ref q_60, .ref q_67, .int 0, .int 0, .int 0, .int 0, .int 0])), (q_7, .inl (cy 0, 6, .inl (fun _ => 0))), (q_15, .inl (cy 0, 6, .inl (fun _ => 0))), (q_23, .inl (cy 0, 6, .inl (fun _ => 0))), (q_30, .inl (cy 0, 4, .inl (fun _ => 0))), (q_37, .inl (cy 0, 4, .inl (fun _ => 0))), (q_45, .inl (cy 0, 6, .inl (fun _ => 0))), (q_53, .inl (cy 0, 6, .inl (fun _ => 0))), (q_60, .inl (cy 0, 4, .inl (fun _ => 0))), (q_67, .inl (cy 1, 4, .inr (.inl (fun _ => 0))))]) := hD
  refine lv_aload_n hx hb dX0_init_82 rfl (lv_at hl 0 rfl) ?_
  refine lv_sipush (v := 1000) hx hb dX0_init_83 (by decide) ?_
  refine va_put (D := D) (ci := 0) (v := .int 1000) (ty := (tyX0 11)) (C := RX0) (T := TX0) (N := 14) hx hb hts inX0 tyX0 tyX0_ok nmX0 hown hK hP hD hS 0 rfl rfl 11 (by decide) (hts _ (wd_2 (w := .fieldLink RX0 47 RX0 (TX0 11).2.1 (TX0 11).2.2.1) (i := 82) (by decide +kernel) rfl)) (fun _ h9 => h9) rfl (by decide +kernel) rfl rfl (Nat.le_of_ble_eq_true rfl) dX0_init_86 (fun H locs hP hD hS => ?_)
  have hP : va_P D vwCl ([(h0, .inr (0, [.ref q_7, .ref q_15, .ref q_23, .ref q_30, .ref q_37, .ref q_45, .ref q_53, .ref q_60, .ref q_67, .int 0, .int 0, .int 1000, .int 0, .int 0])), (q_7, .inl (cy 0, 6, .inl (fun _ => 0))), (q_15, .inl (cy 0, 6, .inl (fun _ => 0))), (q_23, .inl (cy 0, 6, .inl (fun _ => 0))), (q_30, .inl (cy 0, 4, .inl (fun _ => 0))), (q_37, .inl (cy 0, 4, .inl (fun _ => 0))), (q_45, .inl (cy 0, 6, .inl (fun _ => 0))), (q_53, .inl (cy 0, 6, .inl (fun _ => 0))), (q_60, .inl (cy 0, 4, .inl (fun _ => 0))), (q_67, .inl (cy 1, 4, .inr (.inl (fun _ => 0))))]) H := hP
  have hD : va_D A ([(h0, .inr (0, [.ref q_7, .ref q_15, .ref q_23, .ref q_30, .ref q_37, .ref q_45, .ref q_53, .ref q_60, .ref q_67, .int 0, .int 0, .int 1000, .int 0, .int 0])), (q_7, .inl (cy 0, 6, .inl (fun _ => 0))), (q_15, .inl (cy 0, 6, .inl (fun _ => 0))), (q_23, .inl (cy 0, 6, .inl (fun _ => 0))), (q_30, .inl (cy 0, 4, .inl (fun _ => 0))), (q_37, .inl (cy 0, 4, .inl (fun _ => 0))), (q_45, .inl (cy 0, 6, .inl (fun _ => 0))), (q_53, .inl (cy 0, 6, .inl (fun _ => 0))), (q_60, .inl (cy 0, 4, .inl (fun _ => 0))), (q_67, .inl (cy 1, 4, .inr (.inl (fun _ => 0))))]) := hD
  refine lv_aload_n hx hb dX0_init_89 rfl (lv_at hl 0 rfl) ?_
  refine lv_iconst (v := (-1)) hx hb dX0_init_90 (by decide) ?_
  refine va_put (D := D) (ci := 0) (v := .int (-1)) (ty := (tyX0 12)) (C := RX0) (T := TX0) (N := 14) hx hb hts inX0 tyX0 tyX0_ok nmX0 hown hK hP hD hS 0 rfl rfl 12 (by decide) (hts _ (wd_2 (w := .fieldLink RX0 50 RX0 (TX0 12).2.1 (TX0 12).2.2.1) (i := 83) (by decide +kernel) rfl)) (fun _ h9 => h9) rfl (by decide +kernel) rfl rfl (Nat.le_of_ble_eq_true rfl) dX0_init_91 (fun H locs hP hD hS => ?_)
  have hP : va_P D vwCl ([(h0, .inr (0, [.ref q_7, .ref q_15, .ref q_23, .ref q_30, .ref q_37, .ref q_45, .ref q_53, .ref q_60, .ref q_67, .int 0, .int 0, .int 1000, .int (-1), .int 0])), (q_7, .inl (cy 0, 6, .inl (fun _ => 0))), (q_15, .inl (cy 0, 6, .inl (fun _ => 0))), (q_23, .inl (cy 0, 6, .inl (fun _ => 0))), (q_30, .inl (cy 0, 4, .inl (fun _ => 0))), (q_37, .inl (cy 0, 4, .inl (fun _ => 0))), (q_45, .inl (cy 0, 6, .inl (fun _ => 0))), (q_53, .inl (cy 0, 6, .inl (fun _ => 0))), (q_60, .inl (cy 0, 4, .inl (fun _ => 0))), (q_67, .inl (cy 1, 4, .inr (.inl (fun _ => 0))))]) H := hP
  have hD : va_D A ([(h0, .inr (0, [.ref q_7, .ref q_15, .ref q_23, .ref q_30, .ref q_37, .ref q_45, .ref q_53, .ref q_60, .ref q_67, .int 0, .int 0, .int 1000, .int (-1), .int 0])), (q_7, .inl (cy 0, 6, .inl (fun _ => 0))), (q_15, .inl (cy 0, 6, .inl (fun _ => 0))), (q_23, .inl (cy 0, 6, .inl (fun _ => 0))), (q_30, .inl (cy 0, 4, .inl (fun _ => 0))), (q_37, .inl (cy 0, 4, .inl (fun _ => 0))), (q_45, .inl (cy 0, 6, .inl (fun _ => 0))), (q_53, .inl (cy 0, 6, .inl (fun _ => 0))), (q_60, .inl (cy 0, 4, .inl (fun _ => 0))), (q_67, .inl (cy 1, 4, .inr (.inl (fun _ => 0))))]) := hD
  refine lv_aload_n hx hb dX0_init_94 rfl (lv_at hl 0 rfl) ?_
  refine lv_iconst (v := 0) hx hb dX0_init_95 (by decide) ?_
  refine va_put (D := D) (ci := 0) (v := .int 0) (ty := (tyX0 13)) (C := RX0) (T := TX0) (N := 14) hx hb hts inX0 tyX0 tyX0_ok nmX0 hown hK hP hD hS 0 rfl rfl 13 (by decide) (hts _ (wd_2 (w := .fieldLink RX0 53 RX0 (TX0 13).2.1 (TX0 13).2.2.1) (i := 84) (by decide +kernel) rfl)) (fun _ h9 => h9) rfl (by decide +kernel) rfl rfl (Nat.le_of_ble_eq_true rfl) dX0_init_96 (fun H locs hP hD hS => ?_)
  have hP : va_P D vwCl ([(h0, .inr (0, [.ref q_7, .ref q_15, .ref q_23, .ref q_30, .ref q_37, .ref q_45, .ref q_53, .ref q_60, .ref q_67, .int 0, .int 0, .int 1000, .int (-1), .int 0])), (q_7, .inl (cy 0, 6, .inl (fun _ => 0))), (q_15, .inl (cy 0, 6, .inl (fun _ => 0))), (q_23, .inl (cy 0, 6, .inl (fun _ => 0))), (q_30, .inl (cy 0, 4, .inl (fun _ => 0))), (q_37, .inl (cy 0, 4, .inl (fun _ => 0))), (q_45, .inl (cy 0, 6, .inl (fun _ => 0))), (q_53, .inl (cy 0, 6, .inl (fun _ => 0))), (q_60, .inl (cy 0, 4, .inl (fun _ => 0))), (q_67, .inl (cy 1, 4, .inr (.inl (fun _ => 0))))]) H := hP
  have hD : va_D A ([(h0, .inr (0, [.ref q_7, .ref q_15, .ref q_23, .ref q_30, .ref q_37, .ref q_45, .ref q_53, .ref q_60, .ref q_67, .int 0, .int 0, .int 1000, .int (-1), .int 0])), (q_7, .inl (cy 0, 6, .inl (fun _ => 0))), (q_15, .inl (cy 0, 6, .inl (fun _ => 0))), (q_23, .inl (cy 0, 6, .inl (fun _ => 0))), (q_30, .inl (cy 0, 4, .inl (fun _ => 0))), (q_37, .inl (cy 0, 4, .inl (fun _ => 0))), (q_45, .inl (cy 0, 6, .inl (fun _ => 0))), (q_53, .inl (cy 0, 6, .inl (fun _ => 0))), (q_60, .inl (cy 0, 4, .inl (fun _ => 0))), (q_67, .inl (cy 1, 4, .inr (.inl (fun _ => 0))))]) := hD
  rw [← hQ]
  exact W.vret hx hb hr (fun t ht _ => ⟨⟨(fun o j => if o = 0 then (if j = 99 then h0 else ([q_7, q_15, q_23, q_30, q_37, q_45, q_53, q_60, q_67, 0, 0, 0, 0, 0] : List Nat).getD j 0) else 0), rfl, rfl, by rw [ht]; exact hP, hD⟩, by rw [← hAe] at hS ⊢; exact hS.F ht⟩) hS.2.2 dX0_init_99 hlk
theorem dX10_init_0 : decode cX10_init 0 = .ok (.aload_n 0, 1) := by decide +kernel
theorem dX10_init_1 : decode cX10_init 1 = .ok (.invokespecial 1, 3) := by decide +kernel
theorem dX10_init_4 : decode cX10_init 4 = .ok (.aload_n 0, 1) := by decide +kernel
theorem dX10_init_5 : decode cX10_init 5 = .ok (.bipush 10, 2) := by decide +kernel
theorem dX10_init_7 : decode cX10_init 7 = .ok (.newarray .int, 2) := by decide +kernel
theorem dX10_init_9 : decode cX10_init 9 = .ok (.putfield 9, 3) := by decide +kernel
theorem dX10_init_12 : decode cX10_init 12 = .ok (.aload_n 0, 1) := by decide +kernel
theorem dX10_init_13 : decode cX10_init 13 = .ok (.new 13, 3) := by decide +kernel
theorem dX10_init_16 : decode cX10_init 16 = .ok (.dup, 1) := by decide +kernel
theorem dX10_init_17 : decode cX10_init 17 = .ok (.invokespecial 15, 3) := by decide +kernel
theorem dX10_init_20 : decode cX10_init 20 = .ok (.putfield 16, 3) := by decide +kernel
theorem dX10_init_23 : decode cX10_init 23 = .ok (.aload_n 0, 1) := by decide +kernel
theorem dX10_init_24 : decode cX10_init 24 = .ok (.new 20, 3) := by decide +kernel
theorem dX10_init_27 : decode cX10_init 27 = .ok (.dup, 1) := by decide +kernel
theorem dX10_init_28 : decode cX10_init 28 = .ok (.invokespecial 22, 3) := by decide +kernel
theorem dX10_init_31 : decode cX10_init 31 = .ok (.putfield 23, 3) := by decide +kernel
theorem dX10_init_34 : decode cX10_init 34 = .ok (.aload_n 0, 1) := by decide +kernel
theorem dX10_init_35 : decode cX10_init 35 = .ok (.new 27, 3) := by decide +kernel
theorem dX10_init_38 : decode cX10_init 38 = .ok (.dup, 1) := by decide +kernel
theorem dX10_init_39 : decode cX10_init 39 = .ok (.invokespecial 29, 3) := by decide +kernel
theorem dX10_init_42 : decode cX10_init 42 = .ok (.putfield 30, 3) := by decide +kernel
theorem dX10_init_45 : decode cX10_init 45 = .ok (.aload_n 0, 1) := by decide +kernel
theorem dX10_init_46 : decode cX10_init 46 = .ok (.new 34, 3) := by decide +kernel
theorem dX10_init_49 : decode cX10_init 49 = .ok (.dup, 1) := by decide +kernel
theorem dX10_init_50 : decode cX10_init 50 = .ok (.invokespecial 36, 3) := by decide +kernel
theorem dX10_init_53 : decode cX10_init 53 = .ok (.putfield 37, 3) := by decide +kernel
theorem dX10_init_56 : decode cX10_init 56 = .ok (.aload_n 0, 1) := by decide +kernel
theorem dX10_init_57 : decode cX10_init 57 = .ok (.new 41, 3) := by decide +kernel
theorem dX10_init_60 : decode cX10_init 60 = .ok (.dup, 1) := by decide +kernel
theorem dX10_init_61 : decode cX10_init 61 = .ok (.invokespecial 43, 3) := by decide +kernel
theorem dX10_init_64 : decode cX10_init 64 = .ok (.putfield 44, 3) := by decide +kernel
theorem dX10_init_67 : decode cX10_init 67 = .ok (.aload_n 0, 1) := by decide +kernel
theorem dX10_init_68 : decode cX10_init 68 = .ok (.new 48, 3) := by decide +kernel
theorem dX10_init_71 : decode cX10_init 71 = .ok (.dup, 1) := by decide +kernel
theorem dX10_init_72 : decode cX10_init 72 = .ok (.invokespecial 50, 3) := by decide +kernel
theorem dX10_init_75 : decode cX10_init 75 = .ok (.putfield 51, 3) := by decide +kernel
theorem dX10_init_78 : decode cX10_init 78 = .ok (.aload_n 0, 1) := by decide +kernel
theorem dX10_init_79 : decode cX10_init 79 = .ok (.new 55, 3) := by decide +kernel
theorem dX10_init_82 : decode cX10_init 82 = .ok (.dup, 1) := by decide +kernel
theorem dX10_init_83 : decode cX10_init 83 = .ok (.invokespecial 57, 3) := by decide +kernel
theorem dX10_init_86 : decode cX10_init 86 = .ok (.putfield 58, 3) := by decide +kernel
theorem dX10_init_89 : decode cX10_init 89 = .ok (.aload_n 0, 1) := by decide +kernel
theorem dX10_init_90 : decode cX10_init 90 = .ok (.new 62, 3) := by decide +kernel
theorem dX10_init_93 : decode cX10_init 93 = .ok (.dup, 1) := by decide +kernel
theorem dX10_init_94 : decode cX10_init 94 = .ok (.invokespecial 64, 3) := by decide +kernel
theorem dX10_init_97 : decode cX10_init 97 = .ok (.putfield 65, 3) := by decide +kernel
theorem dX10_init_100 : decode cX10_init 100 = .ok (.aload_n 0, 1) := by decide +kernel
theorem dX10_init_101 : decode cX10_init 101 = .ok (.iconst 0, 1) := by decide +kernel
theorem dX10_init_102 : decode cX10_init 102 = .ok (.putfield 69, 3) := by decide +kernel
theorem dX10_init_105 : decode cX10_init 105 = .ok (.return_, 1) := by decide +kernel
def i10 (cy : Nat → ClassId) (u : US) : va_W := [(u 10 99, .inr (10, [.ref (u 10 0), .ref (u 8 99), .ref (u 4 99), .ref (u 2 99), .ref (u 5 99), .ref (u 7 99), .ref (u 3 99), .ref (u 9 99), .ref (u 0 99), .int 0])), (u 10 0, .inl (cy 0, 10, .inl (fun _ => 0)))] ++ i8 cy u ++ i4 cy u ++ i2 cy u ++ i5 cy u ++ i7 cy u ++ i3 cy u ++ i9 cy u ++ i0 cy u
set_option maxHeartbeats 8000000 in
set_option maxRecDepth 100000 in
theorem k10 (l : Launch) (D : va_G) (cy : Nat → ClassId) (sz h0 : Nat) : Met l yX10_init (wsOf yX10_init cX10_init 1 none) (rmK 3 66 10993) (va_Pc [.ref h0] (PreG D cy [(h0, .inr (10, [.null, .null, .null, .null, .null, .null, .null, .null, .null, .int 0]))] sz NM)) (QcK D (i10 cy) 10 h0 (va_A [(h0, .inr (10, [.null, .null, .null, .null, .null, .null, .null, .null, .null, .int 0]))] sz)) 66 10993 (va_A [(h0, .inr (10, [.null, .null, .null, .null, .null, .null, .null, .null, .null, .int 0]))] sz) := by
  refine metK (own := RX10) (by decide) rfl (Nat.le_of_ble_eq_true rfl) rfl ?_ sz
  intro p e s m below meth c ls C0 hmn hw hl
  obtain ⟨hx, hb, hml, hown, hts, hr, hlk, hK, hN⟩ := C0
  obtain ⟨hP, hD, hS⟩ := hw
  have hA : ∀ q : Nat, s.heap.size ≤ q → va_A [(h0, .inr (10, [.null, .null, .null, .null, .null, .null, .null, .null, .null, .int 0]))] s.heap.size q := fun q h => Or.inr h
  generalize hQ : MQ below (QcK D (i10 cy) 10 h0 (va_A [(h0, .inr (10, [.null, .null, .null, .null, .null, .null, .null, .null, .null, .int 0]))] s.heap.size)) ([.ref h0] : List Value).toArray s 66 10993 (va_A [(h0, .inr (10, [.null, .null, .null, .null, .null, .null, .null, .null, .null, .int 0]))] s.heap.size) = Q
  generalize hAe : va_A [(h0, .inr (10, [.null, .null, .null, .null, .null, .null, .null, .null, .null, .int 0]))] s.heap.size = A at hQ hD hS hA
  have hP : va_P D vwCl [(h0, .inr (10, [.null, .null, .null, .null, .null, .null, .null, .null, .null, .int 0]))] s.heap := hP
  refine lv_aload_n hx hb dX10_init_0 rfl (lv_at hl 0 rfl) ?_
  refine W.objInit hx hb hown (hts _ (wd_1 (w := .methodLink RX10 1 objectInit) (i := 25) (by decide +kernel) rfl)) (hts _ (wd_1 (w := .instanceMethod objectInit) (i := 26) (by decide +kernel) rfl)) (hts _ (wd_1 (w := .code objectInit ⟨#[0xb1]⟩ 1 none) (i := 27) (by decide +kernel) rfl)) rfl (by rw [hml]; exact hl.1) rfl dX10_init_1 (Nat.le_of_ble_eq_true rfl) (Nat.le_of_ble_eq_true rfl) ?_
  refine W.eq (g2 := F0 m 4 ls []) rfl ?_
  refine lv_aload_n hx hb dX10_init_4 rfl (lv_at hl 0 rfl) ?_
  refine lv_bipush (v := 10) hx hb dX10_init_5 (by decide) ?_
  refine nw_int (N' := 10) hx hb hts hK hP hD hS hA (by decide) (by decide) (Nat.le_of_ble_eq_true rfl) (Nat.le_of_ble_eq_true rfl) (Nat.le_of_ble_eq_true rfl) dX10_init_7 (fun q_7 H hP hD hS => ?_)
  have hP : va_P D vwCl ([(h0, .inr (10, [.null, .null, .null, .null, .null, .null, .null, .null, .null, .int 0])), (q_7, .inl (cy 0, 10, .inl (fun _ => 0)))]) H := hP
  have hD : va_D A ([(h0, .inr (10, [.null, .null, .null, .null, .null, .null, .null, .null, .null, .int 0])), (q_7, .inl (cy 0, 10, .inl (fun _ => 0)))]) := hD
  refine W.widen (k := 1) (n := 10) (Nat.le_of_ble_eq_true rfl) (Nat.le_of_ble_eq_true rfl) ?_
  refine va_putF (D := D) (ci := 10) (v := .ref q_7) (ty := (tyX10 0)) (C := RX10) (T := TX10) (N := 10) hx hb hts inX10 tyX10 tyX10_ok nmX10 hown hK hP hD hS 0 rfl rfl 0 (by decide) (hts _ (wd_2 (w := .fieldLink RX10 9 RX10 (TX10 0).2.1 (TX10 0).2.2.1) (i := 114) (by decide +kernel) rfl)) (fun _ h9 => h9) rfl hmn rfl (by decide +kernel) rfl rfl (Nat.le_of_ble_eq_true rfl) dX10_init_9 (fun H locs hP hD hS => ?_)
  have hP : va_P D vwCl ([(h0, .inr (10, [.ref q_7, .null, .null, .null, .null, .null, .null, .null, .null, .int 0])), (q_7, .inl (cy 0, 10, .inl (fun _ => 0)))]) H := hP
  have hD : va_D A ([(h0, .inr (10, [.ref q_7, .null, .null, .null, .null, .null, .null, .null, .null, .int 0])), (q_7, .inl (cy 0, 10, .inl (fun _ => 0)))]) := hD
  refine lv_aload_n hx hb dX10_init_12 rfl (lv_at hl 0 rfl) ?_
  refine va_new (ci := 8) (fs := [.null, .int 0]) (C := RX8) (T := TX8) (N := 2) hx hb hts inX8 tyX8 tyX8_ok hown (hts _ (wd_1 (w := .classLink RX10 13 RX8) (i := 28) (by decide +kernel) rfl)) (hts _ (wd_1 (w := .instantiable RX8 2) (i := 29) (by decide +kernel) rfl)) (hts _ (wd_1 (w := .initialized RX8) (i := 2) (by decide +kernel) rfl)) hK hP hD hS hA rfl (by decide) (Nat.le_of_ble_eq_true rfl) (Nat.le_of_ble_eq_true rfl) dX10_init_13 (fun q_13 H hP hD hS => ?_)
  refine W.widen (k := 2) (n := 12) (Nat.le_of_ble_eq_true rfl) (Nat.le_of_ble_eq_true rfl) ?_
  refine lv_dup hx hb dX10_init_16 rfl ?_
  have pg_17 := preG (av := [.ref q_13]) (N := NM) (ws := [(q_13, .inr (8, [.null, .int 0]))]) hK (fun k x hx => by have h2 : k < 1 := (List.getElem?_eq_some_iff.mp hx).1; have h3 : k = 0 := (by omega); subst h3; cases hx; exact hP _ _ (lastE _ _)) (A := A) ⟨fun i j x y hx hy _ => by have h2 : i < 1 := (List.getElem?_eq_some_iff.mp hx).1; have h3 : j < 1 := (List.getElem?_eq_some_iff.mp hy).1; omega, fun k x hx => by have h2 : k < 1 := (List.getElem?_eq_some_iff.mp hx).1; have h3 : k = 0 := (by omega); subst h3; cases hx; exact hD.2 _ _ (lastE _ _)⟩ NM_keep NM_blind
  refine ctorCall (mc := 1) (ms := 400) (va_runI (As := []) (rest := [.ref q_13, .ref h0]) ⟨hx, hb, hml, hown, hts⟩ (k8 l D cy H.size q_13) (cwI 0 hts (wd_ws (wd_1 (w := .code yX8_init cX8_init 1 none) (i := 32) (by decide +kernel) rfl)) rfl rfl rfl (hts _ (wd_1 (w := .initialized RX8) (i := 2) (by decide +kernel) rfl)) (hts _ (wd_1 (w := .methodLink RX10 15 yX8_init) (i := 30) (by decide +kernel) rfl)) (hts _ (wd_1 (w := .instanceMethod yX8_init) (i := 31) (by decide +kernel) rfl)) rfl (by decide +kernel) ⟨Nat.le_of_ble_eq_true rfl, Nat.le_of_ble_eq_true rfl⟩) pg_17 rfl rfl hl.1 rfl (lv_room (Nat.le_of_ble_eq_true rfl)) dX10_init_17 ⟨Nat.le_of_ble_eq_true rfl, Nat.le_of_ble_eq_true rfl⟩) hP hD hS hA (fun u_8 H locs hu_8 hPn hDn hS => ?_)
  clear pg_17
  subst hu_8
  have hP := hPn
  have hD := hDn
  refine W.widen (k := 3) (n := 412) (Nat.le_of_ble_eq_true rfl) (Nat.le_of_ble_eq_true rfl) ?_
  refine va_putF (D := D) (ci := 10) (v := .ref (u_8 8 99)) (ty := (tyX10 1)) (C := RX10) (T := TX10) (N := 10) hx hb hts inX10 tyX10 tyX10_ok nmX10 hown hK hP hD hS 0 rfl rfl 1 (by decide) (hts _ (wd_2 (w := .fieldLink RX10 16 RX10 (TX10 1).2.1 (TX10 1).2.2.1) (i := 115) (by decide +kernel) rfl)) (fun _ h9 => h9) rfl hmn rfl (by decide +kernel) rfl rfl (Nat.le_of_ble_eq_true rfl) dX10_init_20 (fun H locs hP hD hS => ?_)
  have hP : va_P D vwCl ([(h0, .inr (10, [.ref q_7, .ref (u_8 8 99), .null, .null, .null, .null, .null, .null, .null, .int 0])), (q_7, .inl (cy 0, 10, .inl (fun _ => 0)))] ++ i8 cy u_8) H := hP
  have hD : va_D A ([(h0, .inr (10, [.ref q_7, .ref (u_8 8 99), .null, .null, .null, .null, .null, .null, .null, .int 0])), (q_7, .inl (cy 0, 10, .inl (fun _ => 0)))] ++ i8 cy u_8) := hD
  refine lv_aload_n hx hb dX10_init_23 rfl (lv_at hl 0 rfl) ?_
  refine va_new (ci := 4) (fs := [.null, .null, .null, .null, .null, .null, .null, .null, .null, .null, .int 0]) (C := RX4) (T := TX4) (N := 11) hx hb hts inX4 tyX4 tyX4_ok hown (hts _ (wd_1 (w := .classLink RX10 20 RX4) (i := 43) (by decide +kernel) rfl)) (hts _ (wd_1 (w := .instantiable RX4 11) (i := 44) (by decide +kernel) rfl)) (hts _ (wd_1 (w := .initialized RX4) (i := 3) (by decide +kernel) rfl)) hK hP hD hS hA rfl (by decide) (Nat.le_of_ble_eq_true rfl) (Nat.le_of_ble_eq_true rfl) dX10_init_24 (fun q_24 H hP hD hS => ?_)
  refine W.widen (k := 4) (n := 423) (Nat.le_of_ble_eq_true rfl) (Nat.le_of_ble_eq_true rfl) ?_
  refine lv_dup hx hb dX10_init_27 rfl ?_
  have pg_28 := preG (av := [.ref q_24]) (N := NM) (ws := [(q_24, .inr (4, [.null, .null, .null, .null, .null, .null, .null, .null, .null, .null, .int 0]))]) hK (fun k x hx => by have h2 : k < 1 := (List.getElem?_eq_some_iff.mp hx).1; have h3 : k = 0 := (by omega); subst h3; cases hx; exact hP _ _ (lastE _ _)) (A := A) ⟨fun i j x y hx hy _ => by have h2 : i < 1 := (List.getElem?_eq_some_iff.mp hx).1; have h3 : j < 1 := (List.getElem?_eq_some_iff.mp hy).1; omega, fun k x hx => by have h2 : k < 1 := (List.getElem?_eq_some_iff.mp hx).1; have h3 : k = 0 := (by omega); subst h3; cases hx; exact hD.2 _ _ (lastE _ _)⟩ NM_keep NM_blind
  refine ctorCall (mc := 15) (ms := 4548) (va_runI (As := []) (rest := [.ref q_24, .ref h0]) ⟨hx, hb, hml, hown, hts⟩ (k4 l D cy H.size q_24) (cwI 0 hts (wd_ws (wd_1 (w := .code yX4_init cX4_init 1 none) (i := 47) (by decide +kernel) rfl)) rfl rfl rfl (hts _ (wd_1 (w := .initialized RX4) (i := 3) (by decide +kernel) rfl)) (hts _ (wd_1 (w := .methodLink RX10 22 yX4_init) (i := 45) (by decide +kernel) rfl)) (hts _ (wd_1 (w := .instanceMethod yX4_init) (i := 46) (by decide +kernel) rfl)) rfl (by decide +kernel) ⟨Nat.le_of_ble_eq_true rfl, Nat.le_of_ble_eq_true rfl⟩) pg_28 rfl rfl hl.1 rfl (lv_room (Nat.le_of_ble_eq_true rfl)) dX10_init_28 ⟨Nat.le_of_ble_eq_true rfl, Nat.le_of_ble_eq_true rfl⟩) hP hD hS hA (fun u_4 H locs hu_4 hPn hDn hS => ?_)
  clear pg_28
  subst hu_4
  have hP := hPn
  have hD := hDn
  refine W.widen (k := 19) (n := 4971) (Nat.le_of_ble_eq_true rfl) (Nat.le_of_ble_eq_true rfl) ?_
  refine va_putF (D := D) (ci := 10) (v := .ref (u_4 4 99)) (ty := (tyX10 2)) (C := RX10) (T := TX10) (N := 10) hx hb hts inX10 tyX10 tyX10_ok nmX10 hown hK hP hD hS 0 rfl rfl 2 (by decide) (hts _ (wd_2 (w := .fieldLink RX10 23 RX10 (TX10 2).2.1 (TX10 2).2.2.1) (i := 116) (by decide +kernel) rfl)) (fun _ h9 => h9) rfl hmn rfl (by decide +kernel) rfl rfl (Nat.le_of_ble_eq_true rfl) dX10_init_31 (fun H locs hP hD hS => ?_)
  have hP : va_P D vwCl ([(h0, .inr (10, [.ref q_7, .ref (u_8 8 99), .ref (u_4 4 99), .null, .null, .null, .null, .null, .null, .int 0])), (q_7, .inl (cy 0, 10, .inl (fun _ => 0)))] ++ i8 cy u_8 ++ i4 cy u_4) H := hP
  have hD : va_D A ([(h0, .inr (10, [.ref q_7, .ref (u_8 8 99), .ref (u_4 4 99), .null, .null, .null, .null, .null, .null, .int 0])), (q_7, .inl (cy 0, 10, .inl (fun _ => 0)))] ++ i8 cy u_8 ++ i4 cy u_4) := hD
  refine lv_aload_n hx hb dX10_init_34 rfl (lv_at hl 0 rfl) ?_
  refine va_new (ci := 2) (fs := [.null, .null, .int 0, .null, .null, .null, .null, .null, .null, .int 0]) (C := RX2) (T := TX2) (N := 10) hx hb hts inX2 tyX2 tyX2_ok hown (hts _ (wd_1 (w := .classLink RX10 27 RX2) (i := 110) (by decide +kernel) rfl)) (hts _ (wd_1 (w := .instantiable RX2 10) (i := 111) (by decide +kernel) rfl)) (hts _ (wd_1 (w := .initialized RX2) (i := 5) (by decide +kernel) rfl)) hK hP hD hS hA rfl (by decide) (Nat.le_of_ble_eq_true rfl) (Nat.le_of_ble_eq_true rfl) dX10_init_35 (fun q_35 H hP hD hS => ?_)
  refine W.widen (k := 20) (n := 4981) (Nat.le_of_ble_eq_true rfl) (Nat.le_of_ble_eq_true rfl) ?_
  refine lv_dup hx hb dX10_init_38 rfl ?_
  have pg_39 := preG (av := [.ref q_35]) (N := NM) (ws := [(q_35, .inr (2, [.null, .null, .int 0, .null, .null, .null, .null, .null, .null, .int 0]))]) hK (fun k x hx => by have h2 : k < 1 := (List.getElem?_eq_some_iff.mp hx).1; have h3 : k = 0 := (by omega); subst h3; cases hx; exact hP _ _ (lastE _ _)) (A := A) ⟨fun i j x y hx hy _ => by have h2 : i < 1 := (List.getElem?_eq_some_iff.mp hx).1; have h3 : j < 1 := (List.getElem?_eq_some_iff.mp hy).1; omega, fun k x hx => by have h2 : k < 1 := (List.getElem?_eq_some_iff.mp hx).1; have h3 : k = 0 := (by omega); subst h3; cases hx; exact hD.2 _ _ (lastE _ _)⟩ NM_keep NM_blind
  refine ctorCall (mc := 8) (ms := 640) (va_runI (As := []) (rest := [.ref q_35, .ref h0]) ⟨hx, hb, hml, hown, hts⟩ (k2 l D cy H.size q_35) (cwI 0 hts (wd_ws (wd_1 (w := .code yX2_init cX2_init 1 none) (i := 114) (by decide +kernel) rfl)) rfl rfl rfl (hts _ (wd_1 (w := .initialized RX2) (i := 5) (by decide +kernel) rfl)) (hts _ (wd_1 (w := .methodLink RX10 29 yX2_init) (i := 112) (by decide +kernel) rfl)) (hts _ (wd_1 (w := .instanceMethod yX2_init) (i := 113) (by decide +kernel) rfl)) rfl (by decide +kernel) ⟨Nat.le_of_ble_eq_true rfl, Nat.le_of_ble_eq_true rfl⟩) pg_39 rfl rfl hl.1 rfl (lv_room (Nat.le_of_ble_eq_true rfl)) dX10_init_39 ⟨Nat.le_of_ble_eq_true rfl, Nat.le_of_ble_eq_true rfl⟩) hP hD hS hA (fun u_2 H locs hu_2 hPn hDn hS => ?_)
  clear pg_39
  subst hu_2
  have hP := hPn
  have hD := hDn
  refine W.widen (k := 28) (n := 5621) (Nat.le_of_ble_eq_true rfl) (Nat.le_of_ble_eq_true rfl) ?_
  refine va_putF (D := D) (ci := 10) (v := .ref (u_2 2 99)) (ty := (tyX10 3)) (C := RX10) (T := TX10) (N := 10) hx hb hts inX10 tyX10 tyX10_ok nmX10 hown hK hP hD hS 0 rfl rfl 3 (by decide) (hts _ (wd_2 (w := .fieldLink RX10 30 RX10 (TX10 3).2.1 (TX10 3).2.2.1) (i := 117) (by decide +kernel) rfl)) (fun _ h9 => h9) rfl hmn rfl (by decide +kernel) rfl rfl (Nat.le_of_ble_eq_true rfl) dX10_init_42 (fun H locs hP hD hS => ?_)
  have hP : va_P D vwCl ([(h0, .inr (10, [.ref q_7, .ref (u_8 8 99), .ref (u_4 4 99), .ref (u_2 2 99), .null, .null, .null, .null, .null, .int 0])), (q_7, .inl (cy 0, 10, .inl (fun _ => 0)))] ++ i8 cy u_8 ++ i4 cy u_4 ++ i2 cy u_2) H := hP
  have hD : va_D A ([(h0, .inr (10, [.ref q_7, .ref (u_8 8 99), .ref (u_4 4 99), .ref (u_2 2 99), .null, .null, .null, .null, .null, .int 0])), (q_7, .inl (cy 0, 10, .inl (fun _ => 0)))] ++ i8 cy u_8 ++ i4 cy u_4 ++ i2 cy u_2) := hD
  refine lv_aload_n hx hb dX10_init_45 rfl (lv_at hl 0 rfl) ?_
  refine va_new (ci := 5) (fs := [.null, .null, .null, .null, .null, .null, .null, .null, .int 0, .int 0, .int 0, .int 0]) (C := RX5) (T := TX5) (N := 12) hx hb hts inX5 tyX5 tyX5_ok hown (hts _ (wd_1 (w := .classLink RX10 34 RX5) (i := 147) (by decide +kernel) rfl)) (hts _ (wd_1 (w := .instantiable RX5 12) (i := 148) (by decide +kernel) rfl)) (hts _ (wd_1 (w := .initialized RX5) (i := 6) (by decide +kernel) rfl)) hK hP hD hS hA rfl (by decide) (Nat.le_of_ble_eq_true rfl) (Nat.le_of_ble_eq_true rfl) dX10_init_46 (fun q_46 H hP hD hS => ?_)
  refine W.widen (k := 29) (n := 5633) (Nat.le_of_ble_eq_true rfl) (Nat.le_of_ble_eq_true rfl) ?_
  refine lv_dup hx hb dX10_init_49 rfl ?_
  have pg_50 := preG (av := [.ref q_46]) (N := NM) (ws := [(q_46, .inr (5, [.null, .null, .null, .null, .null, .null, .null, .null, .int 0, .int 0, .int 0, .int 0]))]) hK (fun k x hx => by have h2 : k < 1 := (List.getElem?_eq_some_iff.mp hx).1; have h3 : k = 0 := (by omega); subst h3; cases hx; exact hP _ _ (lastE _ _)) (A := A) ⟨fun i j x y hx hy _ => by have h2 : i < 1 := (List.getElem?_eq_some_iff.mp hx).1; have h3 : j < 1 := (List.getElem?_eq_some_iff.mp hy).1; omega, fun k x hx => by have h2 : k < 1 := (List.getElem?_eq_some_iff.mp hx).1; have h3 : k = 0 := (by omega); subst h3; cases hx; exact hD.2 _ _ (lastE _ _)⟩ NM_keep NM_blind
  refine ctorCall (mc := 11) (ms := 3733) (va_runI (As := []) (rest := [.ref q_46, .ref h0]) ⟨hx, hb, hml, hown, hts⟩ (k5 l D cy H.size q_46) (cwI 0 hts (wd_ws (wd_1 (w := .code yX5_init cX5_init 1 none) (i := 151) (by decide +kernel) rfl)) rfl rfl rfl (hts _ (wd_1 (w := .initialized RX5) (i := 6) (by decide +kernel) rfl)) (hts _ (wd_1 (w := .methodLink RX10 36 yX5_init) (i := 149) (by decide +kernel) rfl)) (hts _ (wd_1 (w := .instanceMethod yX5_init) (i := 150) (by decide +kernel) rfl)) rfl (by decide +kernel) ⟨Nat.le_of_ble_eq_true rfl, Nat.le_of_ble_eq_true rfl⟩) pg_50 rfl rfl hl.1 rfl (lv_room (Nat.le_of_ble_eq_true rfl)) dX10_init_50 ⟨Nat.le_of_ble_eq_true rfl, Nat.le_of_ble_eq_true rfl⟩) hP hD hS hA (fun u_5 H locs hu_5 hPn hDn hS => ?_)
  clear pg_50
  subst hu_5
  have hP := hPn
  have hD := hDn
  refine W.widen (k := 40) (n := 9366) (Nat.le_of_ble_eq_true rfl) (Nat.le_of_ble_eq_true rfl) ?_
  refine va_putF (D := D) (ci := 10) (v := .ref (u_5 5 99)) (ty := (tyX10 4)) (C := RX10) (T := TX10) (N := 10) hx hb hts inX10 tyX10 tyX10_ok nmX10 hown hK hP hD hS 0 rfl rfl 4 (by decide) (hts _ (wd_2 (w := .fieldLink RX10 37 RX10 (TX10 4).2.1 (TX10 4).2.2.1) (i := 118) (by decide +kernel) rfl)) (fun _ h9 => h9) rfl hmn rfl (by decide +kernel) rfl rfl (Nat.le_of_ble_eq_true rfl) dX10_init_53 (fun H locs hP hD hS => ?_)
  have hP : va_P D vwCl ([(h0, .inr (10, [.ref q_7, .ref (u_8 8 99), .ref (u_4 4 99), .ref (u_2 2 99), .ref (u_5 5 99), .null, .null, .null, .null, .int 0])), (q_7, .inl (cy 0, 10, .inl (fun _ => 0)))] ++ i8 cy u_8 ++ i4 cy u_4 ++ i2 cy u_2 ++ i5 cy u_5) H := hP
  have hD : va_D A ([(h0, .inr (10, [.ref q_7, .ref (u_8 8 99), .ref (u_4 4 99), .ref (u_2 2 99), .ref (u_5 5 99), .null, .null, .null, .null, .int 0])), (q_7, .inl (cy 0, 10, .inl (fun _ => 0)))] ++ i8 cy u_8 ++ i4 cy u_4 ++ i2 cy u_2 ++ i5 cy u_5) := hD
  refine lv_aload_n hx hb dX10_init_56 rfl (lv_at hl 0 rfl) ?_
  refine va_new (ci := 7) (fs := [.null, .null, .null, .null, .int 0]) (C := RX7) (T := TX7) (N := 5) hx hb hts inX7 tyX7 tyX7_ok hown (hts _ (wd_1 (w := .classLink RX10 41 RX7) (i := 233) (by decide +kernel) rfl)) (hts _ (wd_1 (w := .instantiable RX7 5) (i := 234) (by decide +kernel) rfl)) (hts _ (wd_1 (w := .initialized RX7) (i := 8) (by decide +kernel) rfl)) hK hP hD hS hA rfl (by decide) (Nat.le_of_ble_eq_true rfl) (Nat.le_of_ble_eq_true rfl) dX10_init_57 (fun q_57 H hP hD hS => ?_)
  refine W.widen (k := 41) (n := 9371) (Nat.le_of_ble_eq_true rfl) (Nat.le_of_ble_eq_true rfl) ?_
  refine lv_dup hx hb dX10_init_60 rfl ?_
  have pg_61 := preG (av := [.ref q_57]) (N := NM) (ws := [(q_57, .inr (7, [.null, .null, .null, .null, .int 0]))]) hK (fun k x hx => by have h2 : k < 1 := (List.getElem?_eq_some_iff.mp hx).1; have h3 : k = 0 := (by omega); subst h3; cases hx; exact hP _ _ (lastE _ _)) (A := A) ⟨fun i j x y hx hy _ => by have h2 : i < 1 := (List.getElem?_eq_some_iff.mp hx).1; have h3 : j < 1 := (List.getElem?_eq_some_iff.mp hy).1; omega, fun k x hx => by have h2 : k < 1 := (List.getElem?_eq_some_iff.mp hx).1; have h3 : k = 0 := (by omega); subst h3; cases hx; exact hD.2 _ _ (lastE _ _)⟩ NM_keep NM_blind
  refine ctorCall (mc := 4) (ms := 800) (va_runI (As := []) (rest := [.ref q_57, .ref h0]) ⟨hx, hb, hml, hown, hts⟩ (k7 l D cy H.size q_57) (cwI 0 hts (wd_ws (wd_1 (w := .code yX7_init cX7_init 1 none) (i := 237) (by decide +kernel) rfl)) rfl rfl rfl (hts _ (wd_1 (w := .initialized RX7) (i := 8) (by decide +kernel) rfl)) (hts _ (wd_1 (w := .methodLink RX10 43 yX7_init) (i := 235) (by decide +kernel) rfl)) (hts _ (wd_1 (w := .instanceMethod yX7_init) (i := 236) (by decide +kernel) rfl)) rfl (by decide +kernel) ⟨Nat.le_of_ble_eq_true rfl, Nat.le_of_ble_eq_true rfl⟩) pg_61 rfl rfl hl.1 rfl (lv_room (Nat.le_of_ble_eq_true rfl)) dX10_init_61 ⟨Nat.le_of_ble_eq_true rfl, Nat.le_of_ble_eq_true rfl⟩) hP hD hS hA (fun u_7 H locs hu_7 hPn hDn hS => ?_)
  clear pg_61
  subst hu_7
  have hP := hPn
  have hD := hDn
  refine W.widen (k := 45) (n := 10171) (Nat.le_of_ble_eq_true rfl) (Nat.le_of_ble_eq_true rfl) ?_
  refine va_putF (D := D) (ci := 10) (v := .ref (u_7 7 99)) (ty := (tyX10 5)) (C := RX10) (T := TX10) (N := 10) hx hb hts inX10 tyX10 tyX10_ok nmX10 hown hK hP hD hS 0 rfl rfl 5 (by decide) (hts _ (wd_2 (w := .fieldLink RX10 44 RX10 (TX10 5).2.1 (TX10 5).2.2.1) (i := 119) (by decide +kernel) rfl)) (fun _ h9 => h9) rfl hmn rfl (by decide +kernel) rfl rfl (Nat.le_of_ble_eq_true rfl) dX10_init_64 (fun H locs hP hD hS => ?_)
  have hP : va_P D vwCl ([(h0, .inr (10, [.ref q_7, .ref (u_8 8 99), .ref (u_4 4 99), .ref (u_2 2 99), .ref (u_5 5 99), .ref (u_7 7 99), .null, .null, .null, .int 0])), (q_7, .inl (cy 0, 10, .inl (fun _ => 0)))] ++ i8 cy u_8 ++ i4 cy u_4 ++ i2 cy u_2 ++ i5 cy u_5 ++ i7 cy u_7) H := hP
  have hD : va_D A ([(h0, .inr (10, [.ref q_7, .ref (u_8 8 99), .ref (u_4 4 99), .ref (u_2 2 99), .ref (u_5 5 99), .ref (u_7 7 99), .null, .null, .null, .int 0])), (q_7, .inl (cy 0, 10, .inl (fun _ => 0)))] ++ i8 cy u_8 ++ i4 cy u_4 ++ i2 cy u_2 ++ i5 cy u_5 ++ i7 cy u_7) := hD
  refine lv_aload_n hx hb dX10_init_67 rfl (lv_at hl 0 rfl) ?_
  refine va_new (ci := 3) (fs := [.null, .null, .null, .int 0]) (C := RX3) (T := TX3) (N := 4) hx hb hts inX3 tyX3 tyX3_ok hown (hts _ (wd_2 (w := .classLink RX10 48 RX3) (i := 15) (by decide +kernel) rfl)) (hts _ (wd_2 (w := .instantiable RX3 4) (i := 16) (by decide +kernel) rfl)) (hts _ (wd_1 (w := .initialized RX3) (i := 9) (by decide +kernel) rfl)) hK hP hD hS hA rfl (by decide) (Nat.le_of_ble_eq_true rfl) (Nat.le_of_ble_eq_true rfl) dX10_init_68 (fun q_68 H hP hD hS => ?_)
  refine W.widen (k := 46) (n := 10175) (Nat.le_of_ble_eq_true rfl) (Nat.le_of_ble_eq_true rfl) ?_
  refine lv_dup hx hb dX10_init_71 rfl ?_
  have pg_72 := preG (av := [.ref q_68]) (N := NM) (ws := [(q_68, .inr (3, [.null, .null, .null, .int 0]))]) hK (fun k x hx => by have h2 : k < 1 := (List.getElem?_eq_some_iff.mp hx).1; have h3 : k = 0 := (by omega); subst h3; cases hx; exact hP _ _ (lastE _ _)) (A := A) ⟨fun i j x y hx hy _ => by have h2 : i < 1 := (List.getElem?_eq_some_iff.mp hx).1; have h3 : j < 1 := (List.getElem?_eq_some_iff.mp hy).1; omega, fun k x hx => by have h2 : k < 1 := (List.getElem?_eq_some_iff.mp hx).1; have h3 : k = 0 := (by omega); subst h3; cases hx; exact hD.2 _ _ (lastE _ _)⟩ NM_keep NM_blind
  refine ctorCall (mc := 3) (ms := 18) (va_runI (As := []) (rest := [.ref q_68, .ref h0]) ⟨hx, hb, hml, hown, hts⟩ (k3 l D cy H.size q_68) (cwI 0 hts (wd_ws (wd_2 (w := .code yX3_init cX3_init 1 none) (i := 19) (by decide +kernel) rfl)) rfl rfl rfl (hts _ (wd_1 (w := .initialized RX3) (i := 9) (by decide +kernel) rfl)) (hts _ (wd_2 (w := .methodLink RX10 50 yX3_init) (i := 17) (by decide +kernel) rfl)) (hts _ (wd_2 (w := .instanceMethod yX3_init) (i := 18) (by decide +kernel) rfl)) rfl (by decide +kernel) ⟨Nat.le_of_ble_eq_true rfl, Nat.le_of_ble_eq_true rfl⟩) pg_72 rfl rfl hl.1 rfl (lv_room (Nat.le_of_ble_eq_true rfl)) dX10_init_72 ⟨Nat.le_of_ble_eq_true rfl, Nat.le_of_ble_eq_true rfl⟩) hP hD hS hA (fun u_3 H locs hu_3 hPn hDn hS => ?_)
  clear pg_72
  subst hu_3
  have hP := hPn
  have hD := hDn
  refine W.widen (k := 49) (n := 10193) (Nat.le_of_ble_eq_true rfl) (Nat.le_of_ble_eq_true rfl) ?_
  refine va_putF (D := D) (ci := 10) (v := .ref (u_3 3 99)) (ty := (tyX10 6)) (C := RX10) (T := TX10) (N := 10) hx hb hts inX10 tyX10 tyX10_ok nmX10 hown hK hP hD hS 0 rfl rfl 6 (by decide) (hts _ (wd_2 (w := .fieldLink RX10 51 RX10 (TX10 6).2.1 (TX10 6).2.2.1) (i := 120) (by decide +kernel) rfl)) (fun _ h9 => h9) rfl hmn rfl (by decide +kernel) rfl rfl (Nat.le_of_ble_eq_true rfl) dX10_init_75 (fun H locs hP hD hS => ?_)
  have hP : va_P D vwCl ([(h0, .inr (10, [.ref q_7, .ref (u_8 8 99), .ref (u_4 4 99), .ref (u_2 2 99), .ref (u_5 5 99), .ref (u_7 7 99), .ref (u_3 3 99), .null, .null, .int 0])), (q_7, .inl (cy 0, 10, .inl (fun _ => 0)))] ++ i8 cy u_8 ++ i4 cy u_4 ++ i2 cy u_2 ++ i5 cy u_5 ++ i7 cy u_7 ++ i3 cy u_3) H := hP
  have hD : va_D A ([(h0, .inr (10, [.ref q_7, .ref (u_8 8 99), .ref (u_4 4 99), .ref (u_2 2 99), .ref (u_5 5 99), .ref (u_7 7 99), .ref (u_3 3 99), .null, .null, .int 0])), (q_7, .inl (cy 0, 10, .inl (fun _ => 0)))] ++ i8 cy u_8 ++ i4 cy u_4 ++ i2 cy u_2 ++ i5 cy u_5 ++ i7 cy u_7 ++ i3 cy u_3) := hD
  refine lv_aload_n hx hb dX10_init_78 rfl (lv_at hl 0 rfl) ?_
  refine va_new (ci := 9) (fs := [.null, .null, .null, .null, .null, .null, .int 0, .int 0]) (C := RX9) (T := TX9) (N := 8) hx hb hts inX9 tyX9 tyX9_ok hown (hts _ (wd_2 (w := .classLink RX10 55 RX9) (i := 34) (by decide +kernel) rfl)) (hts _ (wd_2 (w := .instantiable RX9 8) (i := 35) (by decide +kernel) rfl)) (hts _ (wd_1 (w := .initialized RX9) (i := 10) (by decide +kernel) rfl)) hK hP hD hS hA rfl (by decide) (Nat.le_of_ble_eq_true rfl) (Nat.le_of_ble_eq_true rfl) dX10_init_79 (fun q_79 H hP hD hS => ?_)
  refine W.widen (k := 50) (n := 10201) (Nat.le_of_ble_eq_true rfl) (Nat.le_of_ble_eq_true rfl) ?_
  refine lv_dup hx hb dX10_init_82 rfl ?_
  have pg_83 := preG (av := [.ref q_79]) (N := NM) (ws := [(q_79, .inr (9, [.null, .null, .null, .null, .null, .null, .int 0, .int 0]))]) hK (fun k x hx => by have h2 : k < 1 := (List.getElem?_eq_some_iff.mp hx).1; have h3 : k = 0 := (by omega); subst h3; cases hx; exact hP _ _ (lastE _ _)) (A := A) ⟨fun i j x y hx hy _ => by have h2 : i < 1 := (List.getElem?_eq_some_iff.mp hx).1; have h3 : j < 1 := (List.getElem?_eq_some_iff.mp hy).1; omega, fun k x hx => by have h2 : k < 1 := (List.getElem?_eq_some_iff.mp hx).1; have h3 : k = 0 := (by omega); subst h3; cases hx; exact hD.2 _ _ (lastE _ _)⟩ NM_keep NM_blind
  refine ctorCall (mc := 6) (ms := 732) (va_runI (As := []) (rest := [.ref q_79, .ref h0]) ⟨hx, hb, hml, hown, hts⟩ (k9 l D cy H.size q_79) (cwI 0 hts (wd_ws (wd_2 (w := .code yX9_init cX9_init 1 none) (i := 38) (by decide +kernel) rfl)) rfl rfl rfl (hts _ (wd_1 (w := .initialized RX9) (i := 10) (by decide +kernel) rfl)) (hts _ (wd_2 (w := .methodLink RX10 57 yX9_init) (i := 36) (by decide +kernel) rfl)) (hts _ (wd_2 (w := .instanceMethod yX9_init) (i := 37) (by decide +kernel) rfl)) rfl (by decide +kernel) ⟨Nat.le_of_ble_eq_true rfl, Nat.le_of_ble_eq_true rfl⟩) pg_83 rfl rfl hl.1 rfl (lv_room (Nat.le_of_ble_eq_true rfl)) dX10_init_83 ⟨Nat.le_of_ble_eq_true rfl, Nat.le_of_ble_eq_true rfl⟩) hP hD hS hA (fun u_9 H locs hu_9 hPn hDn hS => ?_)
  clear pg_83
  subst hu_9
  have hP := hPn
  have hD := hDn
  refine W.widen (k := 56) (n := 10933) (Nat.le_of_ble_eq_true rfl) (Nat.le_of_ble_eq_true rfl) ?_
  refine va_putF (D := D) (ci := 10) (v := .ref (u_9 9 99)) (ty := (tyX10 7)) (C := RX10) (T := TX10) (N := 10) hx hb hts inX10 tyX10 tyX10_ok nmX10 hown hK hP hD hS 0 rfl rfl 7 (by decide) (hts _ (wd_2 (w := .fieldLink RX10 58 RX10 (TX10 7).2.1 (TX10 7).2.2.1) (i := 121) (by decide +kernel) rfl)) (fun _ h9 => h9) rfl hmn rfl (by decide +kernel) rfl rfl (Nat.le_of_ble_eq_true rfl) dX10_init_86 (fun H locs hP hD hS => ?_)
  have hP : va_P D vwCl ([(h0, .inr (10, [.ref q_7, .ref (u_8 8 99), .ref (u_4 4 99), .ref (u_2 2 99), .ref (u_5 5 99), .ref (u_7 7 99), .ref (u_3 3 99), .ref (u_9 9 99), .null, .int 0])), (q_7, .inl (cy 0, 10, .inl (fun _ => 0)))] ++ i8 cy u_8 ++ i4 cy u_4 ++ i2 cy u_2 ++ i5 cy u_5 ++ i7 cy u_7 ++ i3 cy u_3 ++ i9 cy u_9) H := hP
  have hD : va_D A ([(h0, .inr (10, [.ref q_7, .ref (u_8 8 99), .ref (u_4 4 99), .ref (u_2 2 99), .ref (u_5 5 99), .ref (u_7 7 99), .ref (u_3 3 99), .ref (u_9 9 99), .null, .int 0])), (q_7, .inl (cy 0, 10, .inl (fun _ => 0)))] ++ i8 cy u_8 ++ i4 cy u_4 ++ i2 cy u_2 ++ i5 cy u_5 ++ i7 cy u_7 ++ i3 cy u_3 ++ i9 cy u_9) := hD
  refine lv_aload_n hx hb dX10_init_89 rfl (lv_at hl 0 rfl) ?_
  refine va_new (ci := 0) (fs := [.null, .null, .null, .null, .null, .null, .null, .null, .null, .int 0, .int 0, .int 0, .int 0, .int 0]) (C := RX0) (T := TX0) (N := 14) hx hb hts inX0 tyX0 tyX0_ok hown (hts _ (wd_2 (w := .classLink RX10 62 RX0) (i := 65) (by decide +kernel) rfl)) (hts _ (wd_2 (w := .instantiable RX0 14) (i := 66) (by decide +kernel) rfl)) (hts _ (wd_1 (w := .initialized RX0) (i := 11) (by decide +kernel) rfl)) hK hP hD hS hA rfl (by decide) (Nat.le_of_ble_eq_true rfl) (Nat.le_of_ble_eq_true rfl) dX10_init_90 (fun q_90 H hP hD hS => ?_)
  refine W.widen (k := 57) (n := 10947) (Nat.le_of_ble_eq_true rfl) (Nat.le_of_ble_eq_true rfl) ?_
  refine lv_dup hx hb dX10_init_93 rfl ?_
  have pg_94 := preG (av := [.ref q_90]) (N := NM) (ws := [(q_90, .inr (0, [.null, .null, .null, .null, .null, .null, .null, .null, .null, .int 0, .int 0, .int 0, .int 0, .int 0]))]) hK (fun k x hx => by have h2 : k < 1 := (List.getElem?_eq_some_iff.mp hx).1; have h3 : k = 0 := (by omega); subst h3; cases hx; exact hP _ _ (lastE _ _)) (A := A) ⟨fun i j x y hx hy _ => by have h2 : i < 1 := (List.getElem?_eq_some_iff.mp hx).1; have h3 : j < 1 := (List.getElem?_eq_some_iff.mp hy).1; omega, fun k x hx => by have h2 : k < 1 := (List.getElem?_eq_some_iff.mp hx).1; have h3 : k = 0 := (by omega); subst h3; cases hx; exact hD.2 _ _ (lastE _ _)⟩ NM_keep NM_blind
  refine ctorCall (mc := 9) (ms := 46) (va_runI (As := []) (rest := [.ref q_90, .ref h0]) ⟨hx, hb, hml, hown, hts⟩ (k0 l D cy H.size q_90) (cwI 0 hts (wd_ws (wd_2 (w := .code yX0_init cX0_init 1 none) (i := 69) (by decide +kernel) rfl)) rfl rfl rfl (hts _ (wd_1 (w := .initialized RX0) (i := 11) (by decide +kernel) rfl)) (hts _ (wd_2 (w := .methodLink RX10 64 yX0_init) (i := 67) (by decide +kernel) rfl)) (hts _ (wd_2 (w := .instanceMethod yX0_init) (i := 68) (by decide +kernel) rfl)) rfl (by decide +kernel) ⟨Nat.le_of_ble_eq_true rfl, Nat.le_of_ble_eq_true rfl⟩) pg_94 rfl rfl hl.1 rfl (lv_room (Nat.le_of_ble_eq_true rfl)) dX10_init_94 ⟨Nat.le_of_ble_eq_true rfl, Nat.le_of_ble_eq_true rfl⟩) hP hD hS hA (fun u_0 H locs hu_0 hPn hDn hS => ?_)
  clear pg_94
  subst hu_0
  have hP := hPn
  have hD := hDn
  refine W.widen (k := 66) (n := 10993) (Nat.le_of_ble_eq_true rfl) (Nat.le_of_ble_eq_true rfl) ?_
  refine va_putF (D := D) (ci := 10) (v := .ref (u_0 0 99)) (ty := (tyX10 8)) (C := RX10) (T := TX10) (N := 10) hx hb hts inX10 tyX10 tyX10_ok nmX10 hown hK hP hD hS 0 rfl rfl 8 (by decide) (hts _ (wd_2 (w := .fieldLink RX10 65 RX10 (TX10 8).2.1 (TX10 8).2.2.1) (i := 122) (by decide +kernel) rfl)) (fun _ h9 => h9) rfl hmn rfl (by decide +kernel) rfl rfl (Nat.le_of_ble_eq_true rfl) dX10_init_97 (fun H locs hP hD hS => ?_)
  have hP : va_P D vwCl ([(h0, .inr (10, [.ref q_7, .ref (u_8 8 99), .ref (u_4 4 99), .ref (u_2 2 99), .ref (u_5 5 99), .ref (u_7 7 99), .ref (u_3 3 99), .ref (u_9 9 99), .ref (u_0 0 99), .int 0])), (q_7, .inl (cy 0, 10, .inl (fun _ => 0)))] ++ i8 cy u_8 ++ i4 cy u_4 ++ i2 cy u_2 ++ i5 cy u_5 ++ i7 cy u_7 ++ i3 cy u_3 ++ i9 cy u_9 ++ i0 cy u_0) H := hP
  have hD : va_D A ([(h0, .inr (10, [.ref q_7, .ref (u_8 8 99), .ref (u_4 4 99), .ref (u_2 2 99), .ref (u_5 5 99), .ref (u_7 7 99), .ref (u_3 3 99), .ref (u_9 9 99), .ref (u_0 0 99), .int 0])), (q_7, .inl (cy 0, 10, .inl (fun _ => 0)))] ++ i8 cy u_8 ++ i4 cy u_4 ++ i2 cy u_2 ++ i5 cy u_5 ++ i7 cy u_7 ++ i3 cy u_3 ++ i9 cy u_9 ++ i0 cy u_0) := hD
  refine lv_aload_n hx hb dX10_init_100 rfl (lv_at hl 0 rfl) ?_
  refine lv_iconst (v := 0) hx hb dX10_init_101 (by decide) ?_
  refine va_put (D := D) (ci := 10) (v := .int 0) (ty := (tyX10 9)) (C := RX10) (T := TX10) (N := 10) hx hb hts inX10 tyX10 tyX10_ok nmX10 hown hK hP hD hS 0 rfl rfl 9 (by decide) (hts _ (wd_2 (w := .fieldLink RX10 69 RX10 (TX10 9).2.1 (TX10 9).2.2.1) (i := 123) (by decide +kernel) rfl)) (fun _ h9 => h9) rfl (by decide +kernel) rfl rfl (Nat.le_of_ble_eq_true rfl) dX10_init_102 (fun H locs hP hD hS => ?_)
  have hP : va_P D vwCl ([(h0, .inr (10, [.ref q_7, .ref (u_8 8 99), .ref (u_4 4 99), .ref (u_2 2 99), .ref (u_5 5 99), .ref (u_7 7 99), .ref (u_3 3 99), .ref (u_9 9 99), .ref (u_0 0 99), .int 0])), (q_7, .inl (cy 0, 10, .inl (fun _ => 0)))] ++ i8 cy u_8 ++ i4 cy u_4 ++ i2 cy u_2 ++ i5 cy u_5 ++ i7 cy u_7 ++ i3 cy u_3 ++ i9 cy u_9 ++ i0 cy u_0) H := hP
  have hD : va_D A ([(h0, .inr (10, [.ref q_7, .ref (u_8 8 99), .ref (u_4 4 99), .ref (u_2 2 99), .ref (u_5 5 99), .ref (u_7 7 99), .ref (u_3 3 99), .ref (u_9 9 99), .ref (u_0 0 99), .int 0])), (q_7, .inl (cy 0, 10, .inl (fun _ => 0)))] ++ i8 cy u_8 ++ i4 cy u_4 ++ i2 cy u_2 ++ i5 cy u_5 ++ i7 cy u_7 ++ i3 cy u_3 ++ i9 cy u_9 ++ i0 cy u_0) := hD
  rw [← hQ]
  exact W.vret hx hb hr (fun t ht _ => ⟨⟨(fun o j => if o = 10 then (if j = 99 then h0 else ([q_7, 0, 0, 0, 0, 0, 0, 0, 0, 0] : List Nat).getD j 0) else if o = 8 then u_8 o j else if o = 4 then u_4 o j else if o = 1 then u_4 o j else if o = 2 then u_2 o j else if o = 5 then u_5 o j else if o = 6 then u_5 o j else if o = 7 then u_7 o j else if o = 3 then u_3 o j else if o = 9 then u_9 o j else if o = 0 then u_0 o j else 0), rfl, rfl, by rw [ht]; exact hP, hD⟩, by rw [← hAe] at hS ⊢; exact hS.F ht⟩) hS.2.2 dX10_init_105 hlk
