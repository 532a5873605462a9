section
variable {p : Program} {l : Launch} {e : Env} {R : Room} {s : State} {m : MethodId} {args : Array Value} {below : List Frame} {meth : Method} {c : Code} {H : Heap} {locs : List Loc} {Q : State → Prop} {cc : ByteArray} {pc : Nat} {ls : Array Slot} {rest : List Value} {A : Nat → Prop} {H0 : Heap} {cells slots : Nat} {D : va_G} {ad : Nat → Nat} {cy : Nat → ClassId}

theorem lC11 (hx : p.tables.exec = Jvm.exec) (hb : c.code = cc) (hK : va_K D vwCl (tysA cy) s) {s0 s1 s2 s3 s4 s5 s6 s7 s8 s9 s10 : OS} {x : Int32} {i : Int32} (hw : Wd D (cellsC ad cy s0 s1 s2 s3 s4 s5 s6 s7 s8 s9 s10) A H0 H locs) (hi : inb i 6 = true) (he : x = s0.1 1 i.toNatClampNeg) (hdg : decode cc pc = .ok (.iaload, 1)) (kk : W p l e R s m args below meth c H locs cells slots Q (F0 m (pc + 1) ls (.int x :: rest))) : W p l e R s m args below meth c H locs cells slots Q (F0 m pc ls (.int i :: .ref (ad 11) :: rest)) := by
  subst he
  exact va_iald hx hb hK hw.1 11 0 eC_11 rfl (inb_vp hi) hdg kk
theorem aC11 (hx : p.tables.exec = Jvm.exec) (hb : c.code = cc) (hK : va_K D vwCl (tysA cy) s) {s0 s1 s2 s3 s4 s5 s6 s7 s8 s9 s10 : OS} {t : OS} {v : Int32} {i : Int32} (hw : Wd D (cellsC ad cy s0 s1 s2 s3 s4 s5 s6 s7 s8 s9 s10) A H0 H locs) (hi : inb i 6 = true) (he : t = wI s0 1 i.toNatClampNeg v) (hdg : decode cc pc = .ok (.iastore, 1)) (kk : ∀ (H1 : Heap) (locs1 : List Loc), Wd D (cellsC ad cy t s1 s2 s3 s4 s5 s6 s7 s8 s9 s10) A H0 H1 locs1 → W p l e R s m args below meth c H1 locs1 cells slots Q (F0 m (pc + 1) ls rest)) : W p l e R s m args below meth c H locs cells slots Q (F0 m pc ls (.int v :: .int i :: .ref (ad 11) :: rest)) := by
  refine va_iast hx hb hK hw.1 hw.2.1 hw.2.2 11 0 eC_11 rfl (inb_vp hi) hdg (fun H1 locs1 hP hD hS => ?_)
  subst he
  exact kk H1 locs1 ⟨hP, hD, hS⟩
theorem lC12 (hx : p.tables.exec = Jvm.exec) (hb : c.code = cc) (hK : va_K D vwCl (tysA cy) s) {s0 s1 s2 s3 s4 s5 s6 s7 s8 s9 s10 : OS} {x : Int32} {i : Int32} (hw : Wd D (cellsC ad cy s0 s1 s2 s3 s4 s5 s6 s7 s8 s9 s10) A H0 H locs) (hi : inb i 6 = true) (he : x = s0.1 2 i.toNatClampNeg) (hdg : decode cc pc = .ok (.iaload, 1)) (kk : W p l e R s m args below meth c H locs cells slots Q (F0 m (pc + 1) ls (.int x :: rest))) : W p l e R s m args below meth c H locs cells slots Q (F0 m pc ls (.int i :: .ref (ad 12) :: rest)) := by
  subst he
  exact va_iald hx hb hK hw.1 12 0 eC_12 rfl (inb_vp hi) hdg kk
theorem aC12 (hx : p.tables.exec = Jvm.exec) (hb : c.code = cc) (hK : va_K D vwCl (tysA cy) s) {s0 s1 s2 s3 s4 s5 s6 s7 s8 s9 s10 : OS} {t : OS} {v : Int32} {i : Int32} (hw : Wd D (cellsC ad cy s0 s1 s2 s3 s4 s5 s6 s7 s8 s9 s10) A H0 H locs) (hi : inb i 6 = true) (he : t = wI s0 2 i.toNatClampNeg v) (hdg : decode cc pc = .ok (.iastore, 1)) (kk : ∀ (H1 : Heap) (locs1 : List Loc), Wd D (cellsC ad cy t s1 s2 s3 s4 s5 s6 s7 s8 s9 s10) A H0 H1 locs1 → W p l e R s m args below meth c H1 locs1 cells slots Q (F0 m (pc + 1) ls rest)) : W p l e R s m args below meth c H locs cells slots Q (F0 m pc ls (.int v :: .int i :: .ref (ad 12) :: rest)) := by
  refine va_iast hx hb hK hw.1 hw.2.1 hw.2.2 12 0 eC_12 rfl (inb_vp hi) hdg (fun H1 locs1 hP hD hS => ?_)
  subst he
  exact kk H1 locs1 ⟨hP, hD, hS⟩
theorem lC13 (hx : p.tables.exec = Jvm.exec) (hb : c.code = cc) (hK : va_K D vwCl (tysA cy) s) {s0 s1 s2 s3 s4 s5 s6 s7 s8 s9 s10 : OS} {x : Int32} {i : Int32} (hw : Wd D (cellsC ad cy s0 s1 s2 s3 s4 s5 s6 s7 s8 s9 s10) A H0 H locs) (hi : inb i 6 = true) (he : x = s0.1 3 i.toNatClampNeg) (hdg : decode cc pc = .ok (.iaload, 1)) (kk : W p l e R s m args below meth c H locs cells slots Q (F0 m (pc + 1) ls (.int x :: rest))) : W p l e R s m args below meth c H locs cells slots Q (F0 m pc ls (.int i :: .ref (ad 13) :: rest)) := by
  subst he
  exact va_iald hx hb hK hw.1 13 0 eC_13 rfl (inb_vp hi) hdg kk
theorem aC13 (hx : p.tables.exec = Jvm.exec) (hb : c.code = cc) (hK : va_K D vwCl (tysA cy) s) {s0 s1 s2 s3 s4 s5 s6 s7 s8 s9 s10 : OS} {t : OS} {v : Int32} {i : Int32} (hw : Wd D (cellsC ad cy s0 s1 s2 s3 s4 s5 s6 s7 s8 s9 s10) A H0 H locs) (hi : inb i 6 = true) (he : t = wI s0 3 i.toNatClampNeg v) (hdg : decode cc pc = .ok (.iastore, 1)) (kk : ∀ (H1 : Heap) (locs1 : List Loc), Wd D (cellsC ad cy t s1 s2 s3 s4 s5 s6 s7 s8 s9 s10) A H0 H1 locs1 → W p l e R s m args below meth c H1 locs1 cells slots Q (F0 m (pc + 1) ls rest)) : W p l e R s m args below meth c H locs cells slots Q (F0 m pc ls (.int v :: .int i :: .ref (ad 13) :: rest)) := by
  refine va_iast hx hb hK hw.1 hw.2.1 hw.2.2 13 0 eC_13 rfl (inb_vp hi) hdg (fun H1 locs1 hP hD hS => ?_)
  subst he
  exact kk H1 locs1 ⟨hP, hD, hS⟩
theorem lC14 (hx : p.tables.exec = Jvm.exec) (hb : c.code = cc) (hK : va_K D vwCl (tysA cy) s) {s0 s1 s2 s3 s4 s5 s6 s7 s8 s9 s10 : OS} {x : Int32} {i : Int32} (hw : Wd D (cellsC ad cy s0 s1 s2 s3 s4 s5 s6 s7 s8 s9 s10) A H0 H locs) (hi : inb i 4 = true) (he : x = s0.1 4 i.toNatClampNeg) (hdg : decode cc pc = .ok (.iaload, 1)) (kk : W p l e R s m args below meth c H locs cells slots Q (F0 m (pc + 1) ls (.int x :: rest))) : W p l e R s m args below meth c H locs cells slots Q (F0 m pc ls (.int i :: .ref (ad 14) :: rest)) := by
  subst he
  exact va_iald hx hb hK hw.1 14 0 eC_14 rfl (inb_vp hi) hdg kk
theorem aC14 (hx : p.tables.exec = Jvm.exec) (hb : c.code = cc) (hK : va_K D vwCl (tysA cy) s) {s0 s1 s2 s3 s4 s5 s6 s7 s8 s9 s10 : OS} {t : OS} {v : Int32} {i : Int32} (hw : Wd D (cellsC ad cy s0 s1 s2 s3 s4 s5 s6 s7 s8 s9 s10) A H0 H locs) (hi : inb i 4 = true) (he : t = wI s0 4 i.toNatClampNeg v) (hdg : decode cc pc = .ok (.iastore, 1)) (kk : ∀ (H1 : Heap) (locs1 : List Loc), Wd D (cellsC ad cy t s1 s2 s3 s4 s5 s6 s7 s8 s9 s10) A H0 H1 locs1 → W p l e R s m args below meth c H1 locs1 cells slots Q (F0 m (pc + 1) ls rest)) : W p l e R s m args below meth c H locs cells slots Q (F0 m pc ls (.int v :: .int i :: .ref (ad 14) :: rest)) := by
  refine va_iast hx hb hK hw.1 hw.2.1 hw.2.2 14 0 eC_14 rfl (inb_vp hi) hdg (fun H1 locs1 hP hD hS => ?_)
  subst he
  exact kk H1 locs1 ⟨hP, hD, hS⟩
theorem lC15 (hx : p.tables.exec = Jvm.exec) (hb : c.code = cc) (hK : va_K D vwCl (tysA cy) s) {s0 s1 s2 s3 s4 s5 s6 s7 s8 s9 s10 : OS} {x : Int32} {i : Int32} (hw : Wd D (cellsC ad cy s0 s1 s2 s3 s4 s5 s6 s7 s8 s9 s10) A H0 H locs) (hi : inb i 4 = true) (he : x = s0.1 5 i.toNatClampNeg) (hdg : decode cc pc = .ok (.iaload, 1)) (kk : W p l e R s m args below meth c H locs cells slots Q (F0 m (pc + 1) ls (.int x :: rest))) : W p l e R s m args below meth c H locs cells slots Q (F0 m pc ls (.int i :: .ref (ad 15) :: rest)) := by
  subst he
  exact va_iald hx hb hK hw.1 15 0 eC_15 rfl (inb_vp hi) hdg kk
theorem aC15 (hx : p.tables.exec = Jvm.exec) (hb : c.code = cc) (hK : va_K D vwCl (tysA cy) s) {s0 s1 s2 s3 s4 s5 s6 s7 s8 s9 s10 : OS} {t : OS} {v : Int32} {i : Int32} (hw : Wd D (cellsC ad cy s0 s1 s2 s3 s4 s5 s6 s7 s8 s9 s10) A H0 H locs) (hi : inb i 4 = true) (he : t = wI s0 5 i.toNatClampNeg v) (hdg : decode cc pc = .ok (.iastore, 1)) (kk : ∀ (H1 : Heap) (locs1 : List Loc), Wd D (cellsC ad cy t s1 s2 s3 s4 s5 s6 s7 s8 s9 s10) A H0 H1 locs1 → W p l e R s m args below meth c H1 locs1 cells slots Q (F0 m (pc + 1) ls rest)) : W p l e R s m args below meth c H locs cells slots Q (F0 m pc ls (.int v :: .int i :: .ref (ad 15) :: rest)) := by
  refine va_iast hx hb hK hw.1 hw.2.1 hw.2.2 15 0 eC_15 rfl (inb_vp hi) hdg (fun H1 locs1 hP hD hS => ?_)
  subst he
  exact kk H1 locs1 ⟨hP, hD, hS⟩
theorem lC16 (hx : p.tables.exec = Jvm.exec) (hb : c.code = cc) (hK : va_K D vwCl (tysA cy) s) {s0 s1 s2 s3 s4 s5 s6 s7 s8 s9 s10 : OS} {x : Int32} {i : Int32} (hw : Wd D (cellsC ad cy s0 s1 s2 s3 s4 s5 s6 s7 s8 s9 s10) A H0 H locs) (hi : inb i 6 = true) (he : x = s0.1 6 i.toNatClampNeg) (hdg : decode cc pc = .ok (.iaload, 1)) (kk : W p l e R s m args below meth c H locs cells slots Q (F0 m (pc + 1) ls (.int x :: rest))) : W p l e R s m args below meth c H locs cells slots Q (F0 m pc ls (.int i :: .ref (ad 16) :: rest)) := by
  subst he
  exact va_iald hx hb hK hw.1 16 0 eC_16 rfl (inb_vp hi) hdg kk
theorem aC16 (hx : p.tables.exec = Jvm.exec) (hb : c.code = cc) (hK : va_K D vwCl (tysA cy) s) {s0 s1 s2 s3 s4 s5 s6 s7 s8 s9 s10 : OS} {t : OS} {v : Int32} {i : Int32} (hw : Wd D (cellsC ad cy s0 s1 s2 s3 s4 s5 s6 s7 s8 s9 s10) A H0 H locs) (hi : inb i 6 = true) (he : t = wI s0 6 i.toNatClampNeg v) (hdg : decode cc pc = .ok (.iastore, 1)) (kk : ∀ (H1 : Heap) (locs1 : List Loc), Wd D (cellsC ad cy t s1 s2 s3 s4 s5 s6 s7 s8 s9 s10) A H0 H1 locs1 → W p l e R s m args below meth c H1 locs1 cells slots Q (F0 m (pc + 1) ls rest)) : W p l e R s m args below meth c H locs cells slots Q (F0 m pc ls (.int v :: .int i :: .ref (ad 16) :: rest)) := by
  refine va_iast hx hb hK hw.1 hw.2.1 hw.2.2 16 0 eC_16 rfl (inb_vp hi) hdg (fun H1 locs1 hP hD hS => ?_)
  subst he
  exact kk H1 locs1 ⟨hP, hD, hS⟩
theorem lC17 (hx : p.tables.exec = Jvm.exec) (hb : c.code = cc) (hK : va_K D vwCl (tysA cy) s) {s0 s1 s2 s3 s4 s5 s6 s7 s8 s9 s10 : OS} {x : Int32} {i : Int32} (hw : Wd D (cellsC ad cy s0 s1 s2 s3 s4 s5 s6 s7 s8 s9 s10) A H0 H locs) (hi : inb i 6 = true) (he : x = s0.1 7 i.toNatClampNeg) (hdg : decode cc pc = .ok (.iaload, 1)) (kk : W p l e R s m args below meth c H locs cells slots Q (F0 m (pc + 1) ls (.int x :: rest))) : W p l e R s m args below meth c H locs cells slots Q (F0 m pc ls (.int i :: .ref (ad 17) :: rest)) := by
  subst he
  exact va_iald hx hb hK hw.1 17 0 eC_17 rfl (inb_vp hi) hdg kk
theorem aC17 (hx : p.tables.exec = Jvm.exec) (hb : c.code = cc) (hK : va_K D vwCl (tysA cy) s) {s0 s1 s2 s3 s4 s5 s6 s7 s8 s9 s10 : OS} {t : OS} {v : Int32} {i : Int32} (hw : Wd D (cellsC ad cy s0 s1 s2 s3 s4 s5 s6 s7 s8 s9 s10) A H0 H locs) (hi : inb i 6 = true) (he : t = wI s0 7 i.toNatClampNeg v) (hdg : decode cc pc = .ok (.iastore, 1)) (kk : ∀ (H1 : Heap) (locs1 : List Loc), Wd D (cellsC ad cy t s1 s2 s3 s4 s5 s6 s7 s8 s9 s10) A H0 H1 locs1 → W p l e R s m args below meth c H1 locs1 cells slots Q (F0 m (pc + 1) ls rest)) : W p l e R s m args below meth c H locs cells slots Q (F0 m pc ls (.int v :: .int i :: .ref (ad 17) :: rest)) := by
  refine va_iast hx hb hK hw.1 hw.2.1 hw.2.2 17 0 eC_17 rfl (inb_vp hi) hdg (fun H1 locs1 hP hD hS => ?_)
  subst he
  exact kk H1 locs1 ⟨hP, hD, hS⟩
theorem lC18 (hx : p.tables.exec = Jvm.exec) (hb : c.code = cc) (hK : va_K D vwCl (tysA cy) s) {s0 s1 s2 s3 s4 s5 s6 s7 s8 s9 s10 : OS} {x : Int32} {i : Int32} (hw : Wd D (cellsC ad cy s0 s1 s2 s3 s4 s5 s6 s7 s8 s9 s10) A H0 H locs) (hi : inb i 4 = true) (he : x = s0.1 8 i.toNatClampNeg) (hdg : decode cc pc = .ok (.iaload, 1)) (kk : W p l e R s m args below meth c H locs cells slots Q (F0 m (pc + 1) ls (.int x :: rest))) : W p l e R s m args below meth c H locs cells slots Q (F0 m pc ls (.int i :: .ref (ad 18) :: rest)) := by
  subst he
  exact va_iald hx hb hK hw.1 18 0 eC_18 rfl (inb_vp hi) hdg kk
theorem aC18 (hx : p.tables.exec = Jvm.exec) (hb : c.code = cc) (hK : va_K D vwCl (tysA cy) s) {s0 s1 s2 s3 s4 s5 s6 s7 s8 s9 s10 : OS} {t : OS} {v : Int32} {i : Int32} (hw : Wd D (cellsC ad cy s0 s1 s2 s3 s4 s5 s6 s7 s8 s9 s10) A H0 H locs) (hi : inb i 4 = true) (he : t = wI s0 8 i.toNatClampNeg v) (hdg : decode cc pc = .ok (.iastore, 1)) (kk : ∀ (H1 : Heap) (locs1 : List Loc), Wd D (cellsC ad cy t s1 s2 s3 s4 s5 s6 s7 s8 s9 s10) A H0 H1 locs1 → W p l e R s m args below meth c H1 locs1 cells slots Q (F0 m (pc + 1) ls rest)) : W p l e R s m args below meth c H locs cells slots Q (F0 m pc ls (.int v :: .int i :: .ref (ad 18) :: rest)) := by
  refine va_iast hx hb hK hw.1 hw.2.1 hw.2.2 18 0 eC_18 rfl (inb_vp hi) hdg (fun H1 locs1 hP hD hS => ?_)
  subst he
  exact kk H1 locs1 ⟨hP, hD, hS⟩
theorem lC19 (hx : p.tables.exec = Jvm.exec) (hb : c.code = cc) (hK : va_K D vwCl (tysA cy) s) {s0 s1 s2 s3 s4 s5 s6 s7 s8 s9 s10 : OS} {x : Int64} {i : Int32} (hw : Wd D (cellsC ad cy s0 s1 s2 s3 s4 s5 s6 s7 s8 s9 s10) A H0 H locs) (hi : inb i 4 = true) (he : x = s0.2 9 i.toNatClampNeg) (hdg : decode cc pc = .ok (.laload, 1)) (kk : W p l e R s m args below meth c H locs cells slots Q (F0 m (pc + 1) ls (.long x :: rest))) : W p l e R s m args below meth c H locs cells slots Q (F0 m pc ls (.int i :: .ref (ad 19) :: rest)) := by
  subst he
  exact va_lald hx hb hK hw.1 19 1 eC_19 rfl (inb_vp hi) hdg kk
theorem aC19 (hx : p.tables.exec = Jvm.exec) (hb : c.code = cc) (hK : va_K D vwCl (tysA cy) s) {s0 s1 s2 s3 s4 s5 s6 s7 s8 s9 s10 : OS} {t : OS} {v : Int64} {i : Int32} (hw : Wd D (cellsC ad cy s0 s1 s2 s3 s4 s5 s6 s7 s8 s9 s10) A H0 H locs) (hi : inb i 4 = true) (he : t = wL s0 9 i.toNatClampNeg v) (hdg : decode cc pc = .ok (.lastore, 1)) (kk : ∀ (H1 : Heap) (locs1 : List Loc), Wd D (cellsC ad cy t s1 s2 s3 s4 s5 s6 s7 s8 s9 s10) A H0 H1 locs1 → W p l e R s m args below meth c H1 locs1 cells slots Q (F0 m (pc + 1) ls rest)) : W p l e R s m args below meth c H locs cells slots Q (F0 m pc ls (.long v :: .int i :: .ref (ad 19) :: rest)) := by
  refine va_last hx hb hK hw.1 hw.2.1 hw.2.2 19 1 eC_19 rfl (inb_vp hi) hdg (fun H1 locs1 hP hD hS => ?_)
  subst he
  exact kk H1 locs1 ⟨hP, hD, hS⟩
theorem lC20 (hx : p.tables.exec = Jvm.exec) (hb : c.code = cc) (hK : va_K D vwCl (tysA cy) s) {s0 s1 s2 s3 s4 s5 s6 s7 s8 s9 s10 : OS} {x : Int32} {i : Int32} (hw : Wd D (cellsC ad cy s0 s1 s2 s3 s4 s5 s6 s7 s8 s9 s10) A H0 H locs) (hi : inb i 662 = true) (he : x = s1.1 1 i.toNatClampNeg) (hdg : decode cc pc = .ok (.iaload, 1)) (kk : W p l e R s m args below meth c H locs cells slots Q (F0 m (pc + 1) ls (.int x :: rest))) : W p l e R s m args below meth c H locs cells slots Q (F0 m pc ls (.int i :: .ref (ad 20) :: rest)) := by
  subst he
  exact va_iald hx hb hK hw.1 20 0 eC_20 rfl (inb_vp hi) hdg kk
theorem aC20 (hx : p.tables.exec = Jvm.exec) (hb : c.code = cc) (hK : va_K D vwCl (tysA cy) s) {s0 s1 s2 s3 s4 s5 s6 s7 s8 s9 s10 : OS} {t : OS} {v : Int32} {i : Int32} (hw : Wd D (cellsC ad cy s0 s1 s2 s3 s4 s5 s6 s7 s8 s9 s10) A H0 H locs) (hi : inb i 662 = true) (he : t = wI s1 1 i.toNatClampNeg v) (hdg : decode cc pc = .ok (.iastore, 1)) (kk : ∀ (H1 : Heap) (locs1 : List Loc), Wd D (cellsC ad cy s0 t s2 s3 s4 s5 s6 s7 s8 s9 s10) A H0 H1 locs1 → W p l e R s m args below meth c H1 locs1 cells slots Q (F0 m (pc + 1) ls rest)) : W p l e R s m args below meth c H locs cells slots Q (F0 m pc ls (.int v :: .int i :: .ref (ad 20) :: rest)) := by
  refine va_iast hx hb hK hw.1 hw.2.1 hw.2.2 20 0 eC_20 rfl (inb_vp hi) hdg (fun H1 locs1 hP hD hS => ?_)
  subst he
  exact kk H1 locs1 ⟨hP, hD, hS⟩
theorem lC21 (hx : p.tables.exec = Jvm.exec) (hb : c.code = cc) (hK : va_K D vwCl (tysA cy) s) {s0 s1 s2 s3 s4 s5 s6 s7 s8 s9 s10 : OS} {x : Int32} {i : Int32} (hw : Wd D (cellsC ad cy s0 s1 s2 s3 s4 s5 s6 s7 s8 s9 s10) A H0 H locs) (hi : inb i 662 = true) (he : x = s1.1 2 i.toNatClampNeg) (hdg : decode cc pc = .ok (.iaload, 1)) (kk : W p l e R s m args below meth c H locs cells slots Q (F0 m (pc + 1) ls (.int x :: rest))) : W p l e R s m args below meth c H locs cells slots Q (F0 m pc ls (.int i :: .ref (ad 21) :: rest)) := by
  subst he
  exact va_iald hx hb hK hw.1 21 0 eC_21 rfl (inb_vp hi) hdg kk
theorem aC21 (hx : p.tables.exec = Jvm.exec) (hb : c.code = cc) (hK : va_K D vwCl (tysA cy) s) {s0 s1 s2 s3 s4 s5 s6 s7 s8 s9 s10 : OS} {t : OS} {v : Int32} {i : Int32} (hw : Wd D (cellsC ad cy s0 s1 s2 s3 s4 s5 s6 s7 s8 s9 s10) A H0 H locs) (hi : inb i 662 = true) (he : t = wI s1 2 i.toNatClampNeg v) (hdg : decode cc pc = .ok (.iastore, 1)) (kk : ∀ (H1 : Heap) (locs1 : List Loc), Wd D (cellsC ad cy s0 t s2 s3 s4 s5 s6 s7 s8 s9 s10) A H0 H1 locs1 → W p l e R s m args below meth c H1 locs1 cells slots Q (F0 m (pc + 1) ls rest)) : W p l e R s m args below meth c H locs cells slots Q (F0 m pc ls (.int v :: .int i :: .ref (ad 21) :: rest)) := by
  refine va_iast hx hb hK hw.1 hw.2.1 hw.2.2 21 0 eC_21 rfl (inb_vp hi) hdg (fun H1 locs1 hP hD hS => ?_)
  subst he
  exact kk H1 locs1 ⟨hP, hD, hS⟩
theorem lC22 (hx : p.tables.exec = Jvm.exec) (hb : c.code = cc) (hK : va_K D vwCl (tysA cy) s) {s0 s1 s2 s3 s4 s5 s6 s7 s8 s9 s10 : OS} {x : Int32} {i : Int32} (hw : Wd D (cellsC ad cy s0 s1 s2 s3 s4 s5 s6 s7 s8 s9 s10) A H0 H locs) (hi : inb i 662 = true) (he : x = s1.1 3 i.toNatClampNeg) (hdg : decode cc pc = .ok (.iaload, 1)) (kk : W p l e R s m args below meth c H locs cells slots Q (F0 m (pc + 1) ls (.int x :: rest))) : W p l e R s m args below meth c H locs cells slots Q (F0 m pc ls (.int i :: .ref (ad 22) :: rest)) := by
  subst he
  exact va_iald hx hb hK hw.1 22 0 eC_22 rfl (inb_vp hi) hdg kk
theorem aC22 (hx : p.tables.exec = Jvm.exec) (hb : c.code = cc) (hK : va_K D vwCl (tysA cy) s) {s0 s1 s2 s3 s4 s5 s6 s7 s8 s9 s10 : OS} {t : OS} {v : Int32} {i : Int32} (hw : Wd D (cellsC ad cy s0 s1 s2 s3 s4 s5 s6 s7 s8 s9 s10) A H0 H locs) (hi : inb i 662 = true) (he : t = wI s1 3 i.toNatClampNeg v) (hdg : decode cc pc = .ok (.iastore, 1)) (kk : ∀ (H1 : Heap) (locs1 : List Loc), Wd D (cellsC ad cy s0 t s2 s3 s4 s5 s6 s7 s8 s9 s10) A H0 H1 locs1 → W p l e R s m args below meth c H1 locs1 cells slots Q (F0 m (pc + 1) ls rest)) : W p l e R s m args below meth c H locs cells slots Q (F0 m pc ls (.int v :: .int i :: .ref (ad 22) :: rest)) := by
  refine va_iast hx hb hK hw.1 hw.2.1 hw.2.2 22 0 eC_22 rfl (inb_vp hi) hdg (fun H1 locs1 hP hD hS => ?_)
  subst he
  exact kk H1 locs1 ⟨hP, hD, hS⟩
theorem lC23 (hx : p.tables.exec = Jvm.exec) (hb : c.code = cc) (hK : va_K D vwCl (tysA cy) s) {s0 s1 s2 s3 s4 s5 s6 s7 s8 s9 s10 : OS} {x : Int32} {i : Int32} (hw : Wd D (cellsC ad cy s0 s1 s2 s3 s4 s5 s6 s7 s8 s9 s10) A H0 H locs) (hi : inb i 662 = true) (he : x = s1.1 4 i.toNatClampNeg) (hdg : decode cc pc = .ok (.iaload, 1)) (kk : W p l e R s m args below meth c H locs cells slots Q (F0 m (pc + 1) ls (.int x :: rest))) : W p l e R s m args below meth c H locs cells slots Q (F0 m pc ls (.int i :: .ref (ad 23) :: rest)) := by
  subst he
  exact va_iald hx hb hK hw.1 23 0 eC_23 rfl (inb_vp hi) hdg kk
theorem aC23 (hx : p.tables.exec = Jvm.exec) (hb : c.code = cc) (hK : va_K D vwCl (tysA cy) s) {s0 s1 s2 s3 s4 s5 s6 s7 s8 s9 s10 : OS} {t : OS} {v : Int32} {i : Int32} (hw : Wd D (cellsC ad cy s0 s1 s2 s3 s4 s5 s6 s7 s8 s9 s10) A H0 H locs) (hi : inb i 662 = true) (he : t = wI s1 4 i.toNatClampNeg v) (hdg : decode cc pc = .ok (.iastore, 1)) (kk : ∀ (H1 : Heap) (locs1 : List Loc), Wd D (cellsC ad cy s0 t s2 s3 s4 s5 s6 s7 s8 s9 s10) A H0 H1 locs1 → W p l e R s m args below meth c H1 locs1 cells slots Q (F0 m (pc + 1) ls rest)) : W p l e R s m args below meth c H locs cells slots Q (F0 m pc ls (.int v :: .int i :: .ref (ad 23) :: rest)) := by
  refine va_iast hx hb hK hw.1 hw.2.1 hw.2.2 23 0 eC_23 rfl (inb_vp hi) hdg (fun H1 locs1 hP hD hS => ?_)
  subst he
  exact kk H1 locs1 ⟨hP, hD, hS⟩
theorem lC24 (hx : p.tables.exec = Jvm.exec) (hb : c.code = cc) (hK : va_K D vwCl (tysA cy) s) {s0 s1 s2 s3 s4 s5 s6 s7 s8 s9 s10 : OS} {x : Int32} {i : Int32} (hw : Wd D (cellsC ad cy s0 s1 s2 s3 s4 s5 s6 s7 s8 s9 s10) A H0 H locs) (hi : inb i 662 = true) (he : x = s1.1 5 i.toNatClampNeg) (hdg : decode cc pc = .ok (.iaload, 1)) (kk : W p l e R s m args below meth c H locs cells slots Q (F0 m (pc + 1) ls (.int x :: rest))) : W p l e R s m args below meth c H locs cells slots Q (F0 m pc ls (.int i :: .ref (ad 24) :: rest)) := by
  subst he
  exact va_iald hx hb hK hw.1 24 0 eC_24 rfl (inb_vp hi) hdg kk
theorem aC24 (hx : p.tables.exec = Jvm.exec) (hb : c.code = cc) (hK : va_K D vwCl (tysA cy) s) {s0 s1 s2 s3 s4 s5 s6 s7 s8 s9 s10 : OS} {t : OS} {v : Int32} {i : Int32} (hw : Wd D (cellsC ad cy s0 s1 s2 s3 s4 s5 s6 s7 s8 s9 s10) A H0 H locs) (hi : inb i 662 = true) (he : t = wI s1 5 i.toNatClampNeg v) (hdg : decode cc pc = .ok (.iastore, 1)) (kk : ∀ (H1 : Heap) (locs1 : List Loc), Wd D (cellsC ad cy s0 t s2 s3 s4 s5 s6 s7 s8 s9 s10) A H0 H1 locs1 → W p l e R s m args below meth c H1 locs1 cells slots Q (F0 m (pc + 1) ls rest)) : W p l e R s m args below meth c H locs cells slots Q (F0 m pc ls (.int v :: .int i :: .ref (ad 24) :: rest)) := by
  refine va_iast hx hb hK hw.1 hw.2.1 hw.2.2 24 0 eC_24 rfl (inb_vp hi) hdg (fun H1 locs1 hP hD hS => ?_)
  subst he
  exact kk H1 locs1 ⟨hP, hD, hS⟩
theorem lC25 (hx : p.tables.exec = Jvm.exec) (hb : c.code = cc) (hK : va_K D vwCl (tysA cy) s) {s0 s1 s2 s3 s4 s5 s6 s7 s8 s9 s10 : OS} {x : Int32} {i : Int32} (hw : Wd D (cellsC ad cy s0 s1 s2 s3 s4 s5 s6 s7 s8 s9 s10) A H0 H locs) (hi : inb i 20 = true) (he : x = s2.1 1 i.toNatClampNeg) (hdg : decode cc pc = .ok (.iaload, 1)) (kk : W p l e R s m args below meth c H locs cells slots Q (F0 m (pc + 1) ls (.int x :: rest))) : W p l e R s m args below meth c H locs cells slots Q (F0 m pc ls (.int i :: .ref (ad 25) :: rest)) := by
  subst he
  exact va_iald hx hb hK hw.1 25 0 eC_25 rfl (inb_vp hi) hdg kk
theorem aC25 (hx : p.tables.exec = Jvm.exec) (hb : c.code = cc) (hK : va_K D vwCl (tysA cy) s) {s0 s1 s2 s3 s4 s5 s6 s7 s8 s9 s10 : OS} {t : OS} {v : Int32} {i : Int32} (hw : Wd D (cellsC ad cy s0 s1 s2 s3 s4 s5 s6 s7 s8 s9 s10) A H0 H locs) (hi : inb i 20 = true) (he : t = wI s2 1 i.toNatClampNeg v) (hdg : decode cc pc = .ok (.iastore, 1)) (kk : ∀ (H1 : Heap) (locs1 : List Loc), Wd D (cellsC ad cy s0 s1 t s3 s4 s5 s6 s7 s8 s9 s10) A H0 H1 locs1 → W p l e R s m args below meth c H1 locs1 cells slots Q (F0 m (pc + 1) ls rest)) : W p l e R s m args below meth c H locs cells slots Q (F0 m pc ls (.int v :: .int i :: .ref (ad 25) :: rest)) := by
  refine va_iast hx hb hK hw.1 hw.2.1 hw.2.2 25 0 eC_25 rfl (inb_vp hi) hdg (fun H1 locs1 hP hD hS => ?_)
  subst he
  exact kk H1 locs1 ⟨hP, hD, hS⟩
theorem lC26 (hx : p.tables.exec = Jvm.exec) (hb : c.code = cc) (hK : va_K D vwCl (tysA cy) s) {s0 s1 s2 s3 s4 s5 s6 s7 s8 s9 s10 : OS} {x : Int32} {i : Int32} (hw : Wd D (cellsC ad cy s0 s1 s2 s3 s4 s5 s6 s7 s8 s9 s10) A H0 H locs) (hi : inb i 20 = true) (he : x = s2.1 2 i.toNatClampNeg) (hdg : decode cc pc = .ok (.iaload, 1)) (kk : W p l e R s m args below meth c H locs cells slots Q (F0 m (pc + 1) ls (.int x :: rest))) : W p l e R s m args below meth c H locs cells slots Q (F0 m pc ls (.int i :: .ref (ad 26) :: rest)) := by
  subst he
  exact va_iald hx hb hK hw.1 26 0 eC_26 rfl (inb_vp hi) hdg kk
theorem aC26 (hx : p.tables.exec = Jvm.exec) (hb : c.code = cc) (hK : va_K D vwCl (tysA cy) s) {s0 s1 s2 s3 s4 s5 s6 s7 s8 s9 s10 : OS} {t : OS} {v : Int32} {i : Int32} (hw : Wd D (cellsC ad cy s0 s1 s2 s3 s4 s5 s6 s7 s8 s9 s10) A H0 H locs) (hi : inb i 20 = true) (he : t = wI s2 2 i.toNatClampNeg v) (hdg : decode cc pc = .ok (.iastore, 1)) (kk : ∀ (H1 : Heap) (locs1 : List Loc), Wd D (cellsC ad cy s0 s1 t s3 s4 s5 s6 s7 s8 s9 s10) A H0 H1 locs1 → W p l e R s m args below meth c H1 locs1 cells slots Q (F0 m (pc + 1) ls rest)) : W p l e R s m args below meth c H locs cells slots Q (F0 m pc ls (.int v :: .int i :: .ref (ad 26) :: rest)) := by
  refine va_iast hx hb hK hw.1 hw.2.1 hw.2.2 26 0 eC_26 rfl (inb_vp hi) hdg (fun H1 locs1 hP hD hS => ?_)
  subst he
  exact kk H1 locs1 ⟨hP, hD, hS⟩
theorem lC27 (hx : p.tables.exec = Jvm.exec) (hb : c.code = cc) (hK : va_K D vwCl (tysA cy) s) {s0 s1 s2 s3 s4 s5 s6 s7 s8 s9 s10 : OS} {x : Int32} {i : Int32} (hw : Wd D (cellsC ad cy s0 s1 s2 s3 s4 s5 s6 s7 s8 s9 s10) A H0 H locs) (hi : inb i 100 = true) (he : x = s2.1 4 i.toNatClampNeg) (hdg : decode cc pc = .ok (.iaload, 1)) (kk : W p l e R s m args below meth c H locs cells slots Q (F0 m (pc + 1) ls (.int x :: rest))) : W p l e R s m args below meth c H locs cells slots Q (F0 m pc ls (.int i :: .ref (ad 27) :: rest)) := by
  subst he
  exact va_iald hx hb hK hw.1 27 0 eC_27 rfl (inb_vp hi) hdg kk
theorem aC27 (hx : p.tables.exec = Jvm.exec) (hb : c.code = cc) (hK : va_K D vwCl (tysA cy) s) {s0 s1 s2 s3 s4 s5 s6 s7 s8 s9 s10 : OS} {t : OS} {v : Int32} {i : Int32} (hw : Wd D (cellsC ad cy s0 s1 s2 s3 s4 s5 s6 s7 s8 s9 s10) A H0 H locs) (hi : inb i 100 = true) (he : t = wI s2 4 i.toNatClampNeg v) (hdg : decode cc pc = .ok (.iastore, 1)) (kk : ∀ (H1 : Heap) (locs1 : List Loc), Wd D (cellsC ad cy s0 s1 t s3 s4 s5 s6 s7 s8 s9 s10) A H0 H1 locs1 → W p l e R s m args below meth c H1 locs1 cells slots Q (F0 m (pc + 1) ls rest)) : W p l e R s m args below meth c H locs cells slots Q (F0 m pc ls (.int v :: .int i :: .ref (ad 27) :: rest)) := by
  refine va_iast hx hb hK hw.1 hw.2.1 hw.2.2 27 0 eC_27 rfl (inb_vp hi) hdg (fun H1 locs1 hP hD hS => ?_)
  subst he
  exact kk H1 locs1 ⟨hP, hD, hS⟩
theorem lC28 (hx : p.tables.exec = Jvm.exec) (hb : c.code = cc) (hK : va_K D vwCl (tysA cy) s) {s0 s1 s2 s3 s4 s5 s6 s7 s8 s9 s10 : OS} {x : Int32} {i : Int32} (hw : Wd D (cellsC ad cy s0 s1 s2 s3 s4 s5 s6 s7 s8 s9 s10) A H0 H locs) (hi : inb i 100 = true) (he : x = s2.1 5 i.toNatClampNeg) (hdg : decode cc pc = .ok (.iaload, 1)) (kk : W p l e R s m args below meth c H locs cells slots Q (F0 m (pc + 1) ls (.int x :: rest))) : W p l e R s m args below meth c H locs cells slots Q (F0 m pc ls (.int i :: .ref (ad 28) :: rest)) := by
  subst he
  exact va_iald hx hb hK hw.1 28 0 eC_28 rfl (inb_vp hi) hdg kk
theorem aC28 (hx : p.tables.exec = Jvm.exec) (hb : c.code = cc) (hK : va_K D vwCl (tysA cy) s) {s0 s1 s2 s3 s4 s5 s6 s7 s8 s9 s10 : OS} {t : OS} {v : Int32} {i : Int32} (hw : Wd D (cellsC ad cy s0 s1 s2 s3 s4 s5 s6 s7 s8 s9 s10) A H0 H locs) (hi : inb i 100 = true) (he : t = wI s2 5 i.toNatClampNeg v) (hdg : decode cc pc = .ok (.iastore, 1)) (kk : ∀ (H1 : Heap) (locs1 : List Loc), Wd D (cellsC ad cy s0 s1 t s3 s4 s5 s6 s7 s8 s9 s10) A H0 H1 locs1 → W p l e R s m args below meth c H1 locs1 cells slots Q (F0 m (pc + 1) ls rest)) : W p l e R s m args below meth c H locs cells slots Q (F0 m pc ls (.int v :: .int i :: .ref (ad 28) :: rest)) := by
  refine va_iast hx hb hK hw.1 hw.2.1 hw.2.2 28 0 eC_28 rfl (inb_vp hi) hdg (fun H1 locs1 hP hD hS => ?_)
  subst he
  exact kk H1 locs1 ⟨hP, hD, hS⟩
theorem lC29 (hx : p.tables.exec = Jvm.exec) (hb : c.code = cc) (hK : va_K D vwCl (tysA cy) s) {s0 s1 s2 s3 s4 s5 s6 s7 s8 s9 s10 : OS} {x : Int32} {i : Int32} (hw : Wd D (cellsC ad cy s0 s1 s2 s3 s4 s5 s6 s7 s8 s9 s10) A H0 H locs) (hi : inb i 100 = true) (he : x = s2.1 6 i.toNatClampNeg) (hdg : decode cc pc = .ok (.iaload, 1)) (kk : W p l e R s m args below meth c H locs cells slots Q (F0 m (pc + 1) ls (.int x :: rest))) : W p l e R s m args below meth c H locs cells slots Q (F0 m pc ls (.int i :: .ref (ad 29) :: rest)) := by
  subst he
  exact va_iald hx hb hK hw.1 29 0 eC_29 rfl (inb_vp hi) hdg kk
theorem aC29 (hx : p.tables.exec = Jvm.exec) (hb : c.code = cc) (hK : va_K D vwCl (tysA cy) s) {s0 s1 s2 s3 s4 s5 s6 s7 s8 s9 s10 : OS} {t : OS} {v : Int32} {i : Int32} (hw : Wd D (cellsC ad cy s0 s1 s2 s3 s4 s5 s6 s7 s8 s9 s10) A H0 H locs) (hi : inb i 100 = true) (he : t = wI s2 6 i.toNatClampNeg v) (hdg : decode cc pc = .ok (.iastore, 1)) (kk : ∀ (H1 : Heap) (locs1 : List Loc), Wd D (cellsC ad cy s0 s1 t s3 s4 s5 s6 s7 s8 s9 s10) A H0 H1 locs1 → W p l e R s m args below meth c H1 locs1 cells slots Q (F0 m (pc + 1) ls rest)) : W p l e R s m args below meth c H locs cells slots Q (F0 m pc ls (.int v :: .int i :: .ref (ad 29) :: rest)) := by
  refine va_iast hx hb hK hw.1 hw.2.1 hw.2.2 29 0 eC_29 rfl (inb_vp hi) hdg (fun H1 locs1 hP hD hS => ?_)
  subst he
  exact kk H1 locs1 ⟨hP, hD, hS⟩
theorem lC30 (hx : p.tables.exec = Jvm.exec) (hb : c.code = cc) (hK : va_K D vwCl (tysA cy) s) {s0 s1 s2 s3 s4 s5 s6 s7 s8 s9 s10 : OS} {x : Int32} {i : Int32} (hw : Wd D (cellsC ad cy s0 s1 s2 s3 s4 s5 s6 s7 s8 s9 s10) A H0 H locs) (hi : inb i 100 = true) (he : x = s2.1 7 i.toNatClampNeg) (hdg : decode cc pc = .ok (.iaload, 1)) (kk : W p l e R s m args below meth c H locs cells slots Q (F0 m (pc + 1) ls (.int x :: rest))) : W p l e R s m args below meth c H locs cells slots Q (F0 m pc ls (.int i :: .ref (ad 30) :: rest)) := by
  subst he
  exact va_iald hx hb hK hw.1 30 0 eC_30 rfl (inb_vp hi) hdg kk
theorem aC30 (hx : p.tables.exec = Jvm.exec) (hb : c.code = cc) (hK : va_K D vwCl (tysA cy) s) {s0 s1 s2 s3 s4 s5 s6 s7 s8 s9 s10 : OS} {t : OS} {v : Int32} {i : Int32} (hw : Wd D (cellsC ad cy s0 s1 s2 s3 s4 s5 s6 s7 s8 s9 s10) A H0 H locs) (hi : inb i 100 = true) (he : t = wI s2 7 i.toNatClampNeg v) (hdg : decode cc pc = .ok (.iastore, 1)) (kk : ∀ (H1 : Heap) (locs1 : List Loc), Wd D (cellsC ad cy s0 s1 t s3 s4 s5 s6 s7 s8 s9 s10) A H0 H1 locs1 → W p l e R s m args below meth c H1 locs1 cells slots Q (F0 m (pc + 1) ls rest)) : W p l e R s m args below meth c H locs cells slots Q (F0 m pc ls (.int v :: .int i :: .ref (ad 30) :: rest)) := by
  refine va_iast hx hb hK hw.1 hw.2.1 hw.2.2 30 0 eC_30 rfl (inb_vp hi) hdg (fun H1 locs1 hP hD hS => ?_)
  subst he
  exact kk H1 locs1 ⟨hP, hD, hS⟩
theorem lC31 (hx : p.tables.exec = Jvm.exec) (hb : c.code = cc) (hK : va_K D vwCl (tysA cy) s) {s0 s1 s2 s3 s4 s5 s6 s7 s8 s9 s10 : OS} {x : Int32} {i : Int32} (hw : Wd D (cellsC ad cy s0 s1 s2 s3 s4 s5 s6 s7 s8 s9 s10) A H0 H locs) (hi : inb i 100 = true) (he : x = s2.1 8 i.toNatClampNeg) (hdg : decode cc pc = .ok (.iaload, 1)) (kk : W p l e R s m args below meth c H locs cells slots Q (F0 m (pc + 1) ls (.int x :: rest))) : W p l e R s m args below meth c H locs cells slots Q (F0 m pc ls (.int i :: .ref (ad 31) :: rest)) := by
  subst he
  exact va_iald hx hb hK hw.1 31 0 eC_31 rfl (inb_vp hi) hdg kk
theorem aC31 (hx : p.tables.exec = Jvm.exec) (hb : c.code = cc) (hK : va_K D vwCl (tysA cy) s) {s0 s1 s2 s3 s4 s5 s6 s7 s8 s9 s10 : OS} {t : OS} {v : Int32} {i : Int32} (hw : Wd D (cellsC ad cy s0 s1 s2 s3 s4 s5 s6 s7 s8 s9 s10) A H0 H locs) (hi : inb i 100 = true) (he : t = wI s2 8 i.toNatClampNeg v) (hdg : decode cc pc = .ok (.iastore, 1)) (kk : ∀ (H1 : Heap) (locs1 : List Loc), Wd D (cellsC ad cy s0 s1 t s3 s4 s5 s6 s7 s8 s9 s10) A H0 H1 locs1 → W p l e R s m args below meth c H1 locs1 cells slots Q (F0 m (pc + 1) ls rest)) : W p l e R s m args below meth c H locs cells slots Q (F0 m pc ls (.int v :: .int i :: .ref (ad 31) :: rest)) := by
  refine va_iast hx hb hK hw.1 hw.2.1 hw.2.2 31 0 eC_31 rfl (inb_vp hi) hdg (fun H1 locs1 hP hD hS => ?_)
  subst he
  exact kk H1 locs1 ⟨hP, hD, hS⟩
theorem lC32 (hx : p.tables.exec = Jvm.exec) (hb : c.code = cc) (hK : va_K D vwCl (tysA cy) s) {s0 s1 s2 s3 s4 s5 s6 s7 s8 s9 s10 : OS} {x : Int32} {i : Int32} (hw : Wd D (cellsC ad cy s0 s1 s2 s3 s4 s5 s6 s7 s8 s9 s10) A H0 H locs) (hi : inb i 100 = true) (he : x = s2.1 9 i.toNatClampNeg) (hdg : decode cc pc = .ok (.iaload, 1)) (kk : W p l e R s m args below meth c H locs cells slots Q (F0 m (pc + 1) ls (.int x :: rest))) : W p l e R s m args below meth c H locs cells slots Q (F0 m pc ls (.int i :: .ref (ad 32) :: rest)) := by
  subst he
  exact va_iald hx hb hK hw.1 32 0 eC_32 rfl (inb_vp hi) hdg kk
theorem aC32 (hx : p.tables.exec = Jvm.exec) (hb : c.code = cc) (hK : va_K D vwCl (tysA cy) s) {s0 s1 s2 s3 s4 s5 s6 s7 s8 s9 s10 : OS} {t : OS} {v : Int32} {i : Int32} (hw : Wd D (cellsC ad cy s0 s1 s2 s3 s4 s5 s6 s7 s8 s9 s10) A H0 H locs) (hi : inb i 100 = true) (he : t = wI s2 9 i.toNatClampNeg v) (hdg : decode cc pc = .ok (.iastore, 1)) (kk : ∀ (H1 : Heap) (locs1 : List Loc), Wd D (cellsC ad cy s0 s1 t s3 s4 s5 s6 s7 s8 s9 s10) A H0 H1 locs1 → W p l e R s m args below meth c H1 locs1 cells slots Q (F0 m (pc + 1) ls rest)) : W p l e R s m args below meth c H locs cells slots Q (F0 m pc ls (.int v :: .int i :: .ref (ad 32) :: rest)) := by
  refine va_iast hx hb hK hw.1 hw.2.1 hw.2.2 32 0 eC_32 rfl (inb_vp hi) hdg (fun H1 locs1 hP hD hS => ?_)
  subst he
  exact kk H1 locs1 ⟨hP, hD, hS⟩
theorem lC33 (hx : p.tables.exec = Jvm.exec) (hb : c.code = cc) (hK : va_K D vwCl (tysA cy) s) {s0 s1 s2 s3 s4 s5 s6 s7 s8 s9 s10 : OS} {x : Int32} {i : Int32} (hw : Wd D (cellsC ad cy s0 s1 s2 s3 s4 s5 s6 s7 s8 s9 s10) A H0 H locs) (hi : inb i 6 = true) (he : x = s3.1 1 i.toNatClampNeg) (hdg : decode cc pc = .ok (.iaload, 1)) (kk : W p l e R s m args below meth c H locs cells slots Q (F0 m (pc + 1) ls (.int x :: rest))) : W p l e R s m args below meth c H locs cells slots Q (F0 m pc ls (.int i :: .ref (ad 33) :: rest)) := by
  subst he
  exact va_iald hx hb hK hw.1 33 0 eC_33 rfl (inb_vp hi) hdg kk
theorem aC33 (hx : p.tables.exec = Jvm.exec) (hb : c.code = cc) (hK : va_K D vwCl (tysA cy) s) {s0 s1 s2 s3 s4 s5 s6 s7 s8 s9 s10 : OS} {t : OS} {v : Int32} {i : Int32} (hw : Wd D (cellsC ad cy s0 s1 s2 s3 s4 s5 s6 s7 s8 s9 s10) A H0 H locs) (hi : inb i 6 = true) (he : t = wI s3 1 i.toNatClampNeg v) (hdg : decode cc pc = .ok (.iastore, 1)) (kk : ∀ (H1 : Heap) (locs1 : List Loc), Wd D (cellsC ad cy s0 s1 s2 t s4 s5 s6 s7 s8 s9 s10) A H0 H1 locs1 → W p l e R s m args below meth c H1 locs1 cells slots Q (F0 m (pc + 1) ls rest)) : W p l e R s m args below meth c H locs cells slots Q (F0 m pc ls (.int v :: .int i :: .ref (ad 33) :: rest)) := by
  refine va_iast hx hb hK hw.1 hw.2.1 hw.2.2 33 0 eC_33 rfl (inb_vp hi) hdg (fun H1 locs1 hP hD hS => ?_)
  subst he
  exact kk H1 locs1 ⟨hP, hD, hS⟩
theorem lC34 (hx : p.tables.exec = Jvm.exec) (hb : c.code = cc) (hK : va_K D vwCl (tysA cy) s) {s0 s1 s2 s3 s4 s5 s6 s7 s8 s9 s10 : OS} {x : Int32} {i : Int32} (hw : Wd D (cellsC ad cy s0 s1 s2 s3 s4 s5 s6 s7 s8 s9 s10) A H0 H locs) (hi : inb i 6 = true) (he : x = s3.1 2 i.toNatClampNeg) (hdg : decode cc pc = .ok (.iaload, 1)) (kk : W p l e R s m args below meth c H locs cells slots Q (F0 m (pc + 1) ls (.int x :: rest))) : W p l e R s m args below meth c H locs cells slots Q (F0 m pc ls (.int i :: .ref (ad 34) :: rest)) := by
  subst he
  exact va_iald hx hb hK hw.1 34 0 eC_34 rfl (inb_vp hi) hdg kk
theorem aC34 (hx : p.tables.exec = Jvm.exec) (hb : c.code = cc) (hK : va_K D vwCl (tysA cy) s) {s0 s1 s2 s3 s4 s5 s6 s7 s8 s9 s10 : OS} {t : OS} {v : Int32} {i : Int32} (hw : Wd D (cellsC ad cy s0 s1 s2 s3 s4 s5 s6 s7 s8 s9 s10) A H0 H locs) (hi : inb i 6 = true) (he : t = wI s3 2 i.toNatClampNeg v) (hdg : decode cc pc = .ok (.iastore, 1)) (kk : ∀ (H1 : Heap) (locs1 : List Loc), Wd D (cellsC ad cy s0 s1 s2 t s4 s5 s6 s7 s8 s9 s10) A H0 H1 locs1 → W p l e R s m args below meth c H1 locs1 cells slots Q (F0 m (pc + 1) ls rest)) : W p l e R s m args below meth c H locs cells slots Q (F0 m pc ls (.int v :: .int i :: .ref (ad 34) :: rest)) := by
  refine va_iast hx hb hK hw.1 hw.2.1 hw.2.2 34 0 eC_34 rfl (inb_vp hi) hdg (fun H1 locs1 hP hD hS => ?_)
  subst he
  exact kk H1 locs1 ⟨hP, hD, hS⟩
theorem lC35 (hx : p.tables.exec = Jvm.exec) (hb : c.code = cc) (hK : va_K D vwCl (tysA cy) s) {s0 s1 s2 s3 s4 s5 s6 s7 s8 s9 s10 : OS} {x : Int32} {i : Int32} (hw : Wd D (cellsC ad cy s0 s1 s2 s3 s4 s5 s6 s7 s8 s9 s10) A H0 H locs) (hi : inb i 6 = true) (he : x = s3.1 3 i.toNatClampNeg) (hdg : decode cc pc = .ok (.iaload, 1)) (kk : W p l e R s m args below meth c H locs cells slots Q (F0 m (pc + 1) ls (.int x :: rest))) : W p l e R s m args below meth c H locs cells slots Q (F0 m pc ls (.int i :: .ref (ad 35) :: rest)) := by
  subst he
  exact va_iald hx hb hK hw.1 35 0 eC_35 rfl (inb_vp hi) hdg kk
theorem aC35 (hx : p.tables.exec = Jvm.exec) (hb : c.code = cc) (hK : va_K D vwCl (tysA cy) s) {s0 s1 s2 s3 s4 s5 s6 s7 s8 s9 s10 : OS} {t : OS} {v : Int32} {i : Int32} (hw : Wd D (cellsC ad cy s0 s1 s2 s3 s4 s5 s6 s7 s8 s9 s10) A H0 H locs) (hi : inb i 6 = true) (he : t = wI s3 3 i.toNatClampNeg v) (hdg : decode cc pc = .ok (.iastore, 1)) (kk : ∀ (H1 : Heap) (locs1 : List Loc), Wd D (cellsC ad cy s0 s1 s2 t s4 s5 s6 s7 s8 s9 s10) A H0 H1 locs1 → W p l e R s m args below meth c H1 locs1 cells slots Q (F0 m (pc + 1) ls rest)) : W p l e R s m args below meth c H locs cells slots Q (F0 m pc ls (.int v :: .int i :: .ref (ad 35) :: rest)) := by
  refine va_iast hx hb hK hw.1 hw.2.1 hw.2.2 35 0 eC_35 rfl (inb_vp hi) hdg (fun H1 locs1 hP hD hS => ?_)
  subst he
  exact kk H1 locs1 ⟨hP, hD, hS⟩
theorem lC36 (hx : p.tables.exec = Jvm.exec) (hb : c.code = cc) (hK : va_K D vwCl (tysA cy) s) {s0 s1 s2 s3 s4 s5 s6 s7 s8 s9 s10 : OS} {x : Int32} {i : Int32} (hw : Wd D (cellsC ad cy s0 s1 s2 s3 s4 s5 s6 s7 s8 s9 s10) A H0 H locs) (hi : inb i 150 = true) (he : x = s4.1 1 i.toNatClampNeg) (hdg : decode cc pc = .ok (.iaload, 1)) (kk : W p l e R s m args below meth c H locs cells slots Q (F0 m (pc + 1) ls (.int x :: rest))) : W p l e R s m args below meth c H locs cells slots Q (F0 m pc ls (.int i :: .ref (ad 36) :: rest)) := by
  subst he
  exact va_iald hx hb hK hw.1 36 0 eC_36 rfl (inb_vp hi) hdg kk
theorem aC36 (hx : p.tables.exec = Jvm.exec) (hb : c.code = cc) (hK : va_K D vwCl (tysA cy) s) {s0 s1 s2 s3 s4 s5 s6 s7 s8 s9 s10 : OS} {t : OS} {v : Int32} {i : Int32} (hw : Wd D (cellsC ad cy s0 s1 s2 s3 s4 s5 s6 s7 s8 s9 s10) A H0 H locs) (hi : inb i 150 = true) (he : t = wI s4 1 i.toNatClampNeg v) (hdg : decode cc pc = .ok (.iastore, 1)) (kk : ∀ (H1 : Heap) (locs1 : List Loc), Wd D (cellsC ad cy s0 s1 s2 s3 t s5 s6 s7 s8 s9 s10) A H0 H1 locs1 → W p l e R s m args below meth c H1 locs1 cells slots Q (F0 m (pc + 1) ls rest)) : W p l e R s m args below meth c H locs cells slots Q (F0 m pc ls (.int v :: .int i :: .ref (ad 36) :: rest)) := by
  refine va_iast hx hb hK hw.1 hw.2.1 hw.2.2 36 0 eC_36 rfl (inb_vp hi) hdg (fun H1 locs1 hP hD hS => ?_)
  subst he
  exact kk H1 locs1 ⟨hP, hD, hS⟩
theorem lC37 (hx : p.tables.exec = Jvm.exec) (hb : c.code = cc) (hK : va_K D vwCl (tysA cy) s) {s0 s1 s2 s3 s4 s5 s6 s7 s8 s9 s10 : OS} {x : Int32} {i : Int32} (hw : Wd D (cellsC ad cy s0 s1 s2 s3 s4 s5 s6 s7 s8 s9 s10) A H0 H locs) (hi : inb i 150 = true) (he : x = s4.1 2 i.toNatClampNeg) (hdg : decode cc pc = .ok (.iaload, 1)) (kk : W p l e R s m args below meth c H locs cells slots Q (F0 m (pc + 1) ls (.int x :: rest))) : W p l e R s m args below meth c H locs cells slots Q (F0 m pc ls (.int i :: .ref (ad 37) :: rest)) := by
  subst he
  exact va_iald hx hb hK hw.1 37 0 eC_37 rfl (inb_vp hi) hdg kk
theorem aC37 (hx : p.tables.exec = Jvm.exec) (hb : c.code = cc) (hK : va_K D vwCl (tysA cy) s) {s0 s1 s2 s3 s4 s5 s6 s7 s8 s9 s10 : OS} {t : OS} {v : Int32} {i : Int32} (hw : Wd D (cellsC ad cy s0 s1 s2 s3 s4 s5 s6 s7 s8 s9 s10) A H0 H locs) (hi : inb i 150 = true) (he : t = wI s4 2 i.toNatClampNeg v) (hdg : decode cc pc = .ok (.iastore, 1)) (kk : ∀ (H1 : Heap) (locs1 : List Loc), Wd D (cellsC ad cy s0 s1 s2 s3 t s5 s6 s7 s8 s9 s10) A H0 H1 locs1 → W p l e R s m args below meth c H1 locs1 cells slots Q (F0 m (pc + 1) ls rest)) : W p l e R s m args below meth c H locs cells slots Q (F0 m pc ls (.int v :: .int i :: .ref (ad 37) :: rest)) := by
  refine va_iast hx hb hK hw.1 hw.2.1 hw.2.2 37 0 eC_37 rfl (inb_vp hi) hdg (fun H1 locs1 hP hD hS => ?_)
  subst he
  exact kk H1 locs1 ⟨hP, hD, hS⟩
theorem lC38 (hx : p.tables.exec = Jvm.exec) (hb : c.code = cc) (hK : va_K D vwCl (tysA cy) s) {s0 s1 s2 s3 s4 s5 s6 s7 s8 s9 s10 : OS} {x : Int32} {i : Int32} (hw : Wd D (cellsC ad cy s0 s1 s2 s3 s4 s5 s6 s7 s8 s9 s10) A H0 H locs) (hi : inb i 150 = true) (he : x = s4.1 3 i.toNatClampNeg) (hdg : decode cc pc = .ok (.iaload, 1)) (kk : W p l e R s m args below meth c H locs cells slots Q (F0 m (pc + 1) ls (.int x :: rest))) : W p l e R s m args below meth c H locs cells slots Q (F0 m pc ls (.int i :: .ref (ad 38) :: rest)) := by
  subst he
  exact va_iald hx hb hK hw.1 38 0 eC_38 rfl (inb_vp hi) hdg kk
theorem aC38 (hx : p.tables.exec = Jvm.exec) (hb : c.code = cc) (hK : va_K D vwCl (tysA cy) s) {s0 s1 s2 s3 s4 s5 s6 s7 s8 s9 s10 : OS} {t : OS} {v : Int32} {i : Int32} (hw : Wd D (cellsC ad cy s0 s1 s2 s3 s4 s5 s6 s7 s8 s9 s10) A H0 H locs) (hi : inb i 150 = true) (he : t = wI s4 3 i.toNatClampNeg v) (hdg : decode cc pc = .ok (.iastore, 1)) (kk : ∀ (H1 : Heap) (locs1 : List Loc), Wd D (cellsC ad cy s0 s1 s2 s3 t s5 s6 s7 s8 s9 s10) A H0 H1 locs1 → W p l e R s m args below meth c H1 locs1 cells slots Q (F0 m (pc + 1) ls rest)) : W p l e R s m args below meth c H locs cells slots Q (F0 m pc ls (.int v :: .int i :: .ref (ad 38) :: rest)) := by
  refine va_iast hx hb hK hw.1 hw.2.1 hw.2.2 38 0 eC_38 rfl (inb_vp hi) hdg (fun H1 locs1 hP hD hS => ?_)
  subst he
  exact kk H1 locs1 ⟨hP, hD, hS⟩
theorem lC39 (hx : p.tables.exec = Jvm.exec) (hb : c.code = cc) (hK : va_K D vwCl (tysA cy) s) {s0 s1 s2 s3 s4 s5 s6 s7 s8 s9 s10 : OS} {x : Int32} {i : Int32} (hw : Wd D (cellsC ad cy s0 s1 s2 s3 s4 s5 s6 s7 s8 s9 s10) A H0 H locs) (hi : inb i 150 = true) (he : x = s4.1 4 i.toNatClampNeg) (hdg : decode cc pc = .ok (.iaload, 1)) (kk : W p l e R s m args below meth c H locs cells slots Q (F0 m (pc + 1) ls (.int x :: rest))) : W p l e R s m args below meth c H locs cells slots Q (F0 m pc ls (.int i :: .ref (ad 39) :: rest)) := by
  subst he
  exact va_iald hx hb hK hw.1 39 0 eC_39 rfl (inb_vp hi) hdg kk
theorem aC39 (hx : p.tables.exec = Jvm.exec) (hb : c.code = cc) (hK : va_K D vwCl (tysA cy) s) {s0 s1 s2 s3 s4 s5 s6 s7 s8 s9 s10 : OS} {t : OS} {v : Int32} {i : Int32} (hw : Wd D (cellsC ad cy s0 s1 s2 s3 s4 s5 s6 s7 s8 s9 s10) A H0 H locs) (hi : inb i 150 = true) (he : t = wI s4 4 i.toNatClampNeg v) (hdg : decode cc pc = .ok (.iastore, 1)) (kk : ∀ (H1 : Heap) (locs1 : List Loc), Wd D (cellsC ad cy s0 s1 s2 s3 t s5 s6 s7 s8 s9 s10) A H0 H1 locs1 → W p l e R s m args below meth c H1 locs1 cells slots Q (F0 m (pc + 1) ls rest)) : W p l e R s m args below meth c H locs cells slots Q (F0 m pc ls (.int v :: .int i :: .ref (ad 39) :: rest)) := by
  refine va_iast hx hb hK hw.1 hw.2.1 hw.2.2 39 0 eC_39 rfl (inb_vp hi) hdg (fun H1 locs1 hP hD hS => ?_)
  subst he
  exact kk H1 locs1 ⟨hP, hD, hS⟩
theorem lC40 (hx : p.tables.exec = Jvm.exec) (hb : c.code = cc) (hK : va_K D vwCl (tysA cy) s) {s0 s1 s2 s3 s4 s5 s6 s7 s8 s9 s10 : OS} {x : Int32} {i : Int32} (hw : Wd D (cellsC ad cy s0 s1 s2 s3 s4 s5 s6 s7 s8 s9 s10) A H0 H locs) (hi : inb i 150 = true) (he : x = s4.1 5 i.toNatClampNeg) (hdg : decode cc pc = .ok (.iaload, 1)) (kk : W p l e R s m args below meth c H locs cells slots Q (F0 m (pc + 1) ls (.int x :: rest))) : W p l e R s m args below meth c H locs cells slots Q (F0 m pc ls (.int i :: .ref (ad 40) :: rest)) := by
  subst he
  exact va_iald hx hb hK hw.1 40 0 eC_40 rfl (inb_vp hi) hdg kk
theorem aC40 (hx : p.tables.exec = Jvm.exec) (hb : c.code = cc) (hK : va_K D vwCl (tysA cy) s) {s0 s1 s2 s3 s4 s5 s6 s7 s8 s9 s10 : OS} {t : OS} {v : Int32} {i : Int32} (hw : Wd D (cellsC ad cy s0 s1 s2 s3 s4 s5 s6 s7 s8 s9 s10) A H0 H locs) (hi : inb i 150 = true) (he : t = wI s4 5 i.toNatClampNeg v) (hdg : decode cc pc = .ok (.iastore, 1)) (kk : ∀ (H1 : Heap) (locs1 : List Loc), Wd D (cellsC ad cy s0 s1 s2 s3 t s5 s6 s7 s8 s9 s10) A H0 H1 locs1 → W p l e R s m args below meth c H1 locs1 cells slots Q (F0 m (pc + 1) ls rest)) : W p l e R s m args below meth c H locs cells slots Q (F0 m pc ls (.int v :: .int i :: .ref (ad 40) :: rest)) := by
  refine va_iast hx hb hK hw.1 hw.2.1 hw.2.2 40 0 eC_40 rfl (inb_vp hi) hdg (fun H1 locs1 hP hD hS => ?_)
  subst he
  exact kk H1 locs1 ⟨hP, hD, hS⟩
theorem lC41 (hx : p.tables.exec = Jvm.exec) (hb : c.code = cc) (hK : va_K D vwCl (tysA cy) s) {s0 s1 s2 s3 s4 s5 s6 s7 s8 s9 s10 : OS} {x : Int32} {i : Int32} (hw : Wd D (cellsC ad cy s0 s1 s2 s3 s4 s5 s6 s7 s8 s9 s10) A H0 H locs) (hi : inb i 150 = true) (he : x = s4.1 6 i.toNatClampNeg) (hdg : decode cc pc = .ok (.iaload, 1)) (kk : W p l e R s m args below meth c H locs cells slots Q (F0 m (pc + 1) ls (.int x :: rest))) : W p l e R s m args below meth c H locs cells slots Q (F0 m pc ls (.int i :: .ref (ad 41) :: rest)) := by
  subst he
  exact va_iald hx hb hK hw.1 41 0 eC_41 rfl (inb_vp hi) hdg kk
theorem aC41 (hx : p.tables.exec = Jvm.exec) (hb : c.code = cc) (hK : va_K D vwCl (tysA cy) s) {s0 s1 s2 s3 s4 s5 s6 s7 s8 s9 s10 : OS} {t : OS} {v : Int32} {i : Int32} (hw : Wd D (cellsC ad cy s0 s1 s2 s3 s4 s5 s6 s7 s8 s9 s10) A H0 H locs) (hi : inb i 150 = true) (he : t = wI s4 6 i.toNatClampNeg v) (hdg : decode cc pc = .ok (.iastore, 1)) (kk : ∀ (H1 : Heap) (locs1 : List Loc), Wd D (cellsC ad cy s0 s1 s2 s3 t s5 s6 s7 s8 s9 s10) A H0 H1 locs1 → W p l e R s m args below meth c H1 locs1 cells slots Q (F0 m (pc + 1) ls rest)) : W p l e R s m args below meth c H locs cells slots Q (F0 m pc ls (.int v :: .int i :: .ref (ad 41) :: rest)) := by
  refine va_iast hx hb hK hw.1 hw.2.1 hw.2.2 41 0 eC_41 rfl (inb_vp hi) hdg (fun H1 locs1 hP hD hS => ?_)
  subst he
  exact kk H1 locs1 ⟨hP, hD, hS⟩
theorem lC42 (hx : p.tables.exec = Jvm.exec) (hb : c.code = cc) (hK : va_K D vwCl (tysA cy) s) {s0 s1 s2 s3 s4 s5 s6 s7 s8 s9 s10 : OS} {x : Int32} {i : Int32} (hw : Wd D (cellsC ad cy s0 s1 s2 s3 s4 s5 s6 s7 s8 s9 s10) A H0 H locs) (hi : inb i 150 = true) (he : x = s4.1 7 i.toNatClampNeg) (hdg : decode cc pc = .ok (.iaload, 1)) (kk : W p l e R s m args below meth c H locs cells slots Q (F0 m (pc + 1) ls (.int x :: rest))) : W p l e R s m args below meth c H locs cells slots Q (F0 m pc ls (.int i :: .ref (ad 42) :: rest)) := by
  subst he
  exact va_iald hx hb hK hw.1 42 0 eC_42 rfl (inb_vp hi) hdg kk
theorem aC42 (hx : p.tables.exec = Jvm.exec) (hb : c.code = cc) (hK : va_K D vwCl (tysA cy) s) {s0 s1 s2 s3 s4 s5 s6 s7 s8 s9 s10 : OS} {t : OS} {v : Int32} {i : Int32} (hw : Wd D (cellsC ad cy s0 s1 s2 s3 s4 s5 s6 s7 s8 s9 s10) A H0 H locs) (hi : inb i 150 = true) (he : t = wI s4 7 i.toNatClampNeg v) (hdg : decode cc pc = .ok (.iastore, 1)) (kk : ∀ (H1 : Heap) (locs1 : List Loc), Wd D (cellsC ad cy s0 s1 s2 s3 t s5 s6 s7 s8 s9 s10) A H0 H1 locs1 → W p l e R s m args below meth c H1 locs1 cells slots Q (F0 m (pc + 1) ls rest)) : W p l e R s m args below meth c H locs cells slots Q (F0 m pc ls (.int v :: .int i :: .ref (ad 42) :: rest)) := by
  refine va_iast hx hb hK hw.1 hw.2.1 hw.2.2 42 0 eC_42 rfl (inb_vp hi) hdg (fun H1 locs1 hP hD hS => ?_)
  subst he
  exact kk H1 locs1 ⟨hP, hD, hS⟩
theorem lC43 (hx : p.tables.exec = Jvm.exec) (hb : c.code = cc) (hK : va_K D vwCl (tysA cy) s) {s0 s1 s2 s3 s4 s5 s6 s7 s8 s9 s10 : OS} {x : Int32} {i : Int32} (hw : Wd D (cellsC ad cy s0 s1 s2 s3 s4 s5 s6 s7 s8 s9 s10) A H0 H locs) (hi : inb i 150 = true) (he : x = s4.1 8 i.toNatClampNeg) (hdg : decode cc pc = .ok (.baload, 1)) (kk : W p l e R s m args below meth c H locs cells slots Q (F0 m (pc + 1) ls (.int x :: rest))) : W p l e R s m args below meth c H locs cells slots Q (F0 m pc ls (.int i :: .ref (ad 43) :: rest)) := by
  subst he
  exact va_zald hx hb hK hw.1 43 2 eC_43 rfl (inb_vp hi) hdg kk
theorem aC43 (hx : p.tables.exec = Jvm.exec) (hb : c.code = cc) (hK : va_K D vwCl (tysA cy) s) {s0 s1 s2 s3 s4 s5 s6 s7 s8 s9 s10 : OS} {t : OS} {v : Int32} {i : Int32} (hw : Wd D (cellsC ad cy s0 s1 s2 s3 s4 s5 s6 s7 s8 s9 s10) A H0 H locs) (hi : inb i 150 = true) (he : t = wI s4 8 i.toNatClampNeg (vp_nar .boolean v)) (hdg : decode cc pc = .ok (.bastore, 1)) (kk : ∀ (H1 : Heap) (locs1 : List Loc), Wd D (cellsC ad cy s0 s1 s2 s3 t s5 s6 s7 s8 s9 s10) A H0 H1 locs1 → W p l e R s m args below meth c H1 locs1 cells slots Q (F0 m (pc + 1) ls rest)) : W p l e R s m args below meth c H locs cells slots Q (F0 m pc ls (.int v :: .int i :: .ref (ad 43) :: rest)) := by
  refine va_zast hx hb hK hw.1 hw.2.1 hw.2.2 43 2 eC_43 rfl (inb_vp hi) hdg (fun H1 locs1 hP hD hS => ?_)
  subst he
  exact kk H1 locs1 ⟨hP, hD, hS⟩
theorem lC44 (hx : p.tables.exec = Jvm.exec) (hb : c.code = cc) (hK : va_K D vwCl (tysA cy) s) {s0 s1 s2 s3 s4 s5 s6 s7 s8 s9 s10 : OS} {x : Int64} {i : Int32} (hw : Wd D (cellsC ad cy s0 s1 s2 s3 s4 s5 s6 s7 s8 s9 s10) A H0 H locs) (hi : inb i 32 = true) (he : x = s4.2 9 i.toNatClampNeg) (hdg : decode cc pc = .ok (.laload, 1)) (kk : W p l e R s m args below meth c H locs cells slots Q (F0 m (pc + 1) ls (.long x :: rest))) : W p l e R s m args below meth c H locs cells slots Q (F0 m pc ls (.int i :: .ref (ad 44) :: rest)) := by
  subst he
  exact va_lald hx hb hK hw.1 44 1 eC_44 rfl (inb_vp hi) hdg kk
theorem aC44 (hx : p.tables.exec = Jvm.exec) (hb : c.code = cc) (hK : va_K D vwCl (tysA cy) s) {s0 s1 s2 s3 s4 s5 s6 s7 s8 s9 s10 : OS} {t : OS} {v : Int64} {i : Int32} (hw : Wd D (cellsC ad cy s0 s1 s2 s3 s4 s5 s6 s7 s8 s9 s10) A H0 H locs) (hi : inb i 32 = true) (he : t = wL s4 9 i.toNatClampNeg v) (hdg : decode cc pc = .ok (.lastore, 1)) (kk : ∀ (H1 : Heap) (locs1 : List Loc), Wd D (cellsC ad cy s0 s1 s2 s3 t s5 s6 s7 s8 s9 s10) A H0 H1 locs1 → W p l e R s m args below meth c H1 locs1 cells slots Q (F0 m (pc + 1) ls rest)) : W p l e R s m args below meth c H locs cells slots Q (F0 m pc ls (.long v :: .int i :: .ref (ad 44) :: rest)) := by
  refine va_last hx hb hK hw.1 hw.2.1 hw.2.2 44 1 eC_44 rfl (inb_vp hi) hdg (fun H1 locs1 hP hD hS => ?_)
  subst he
  exact kk H1 locs1 ⟨hP, hD, hS⟩
theorem lC45 (hx : p.tables.exec = Jvm.exec) (hb : c.code = cc) (hK : va_K D vwCl (tysA cy) s) {s0 s1 s2 s3 s4 s5 s6 s7 s8 s9 s10 : OS} {x : Int32} {i : Int32} (hw : Wd D (cellsC ad cy s0 s1 s2 s3 s4 s5 s6 s7 s8 s9 s10) A H0 H locs) (hi : inb i 3200 = true) (he : x = s5.1 1 i.toNatClampNeg) (hdg : decode cc pc = .ok (.caload, 1)) (kk : W p l e R s m args below meth c H locs cells slots Q (F0 m (pc + 1) ls (.int x :: rest))) : W p l e R s m args below meth c H locs cells slots Q (F0 m pc ls (.int i :: .ref (ad 45) :: rest)) := by
  subst he
  exact va_cald hx hb hK hw.1 45 3 eC_45 rfl (inb_vp hi) hdg kk
theorem aC45 (hx : p.tables.exec = Jvm.exec) (hb : c.code = cc) (hK : va_K D vwCl (tysA cy) s) {s0 s1 s2 s3 s4 s5 s6 s7 s8 s9 s10 : OS} {t : OS} {v : Int32} {i : Int32} (hw : Wd D (cellsC ad cy s0 s1 s2 s3 s4 s5 s6 s7 s8 s9 s10) A H0 H locs) (hi : inb i 3200 = true) (he : t = wI s5 1 i.toNatClampNeg (vp_nar .char v)) (hdg : decode cc pc = .ok (.castore, 1)) (kk : ∀ (H1 : Heap) (locs1 : List Loc), Wd D (cellsC ad cy s0 s1 s2 s3 s4 t s6 s7 s8 s9 s10) A H0 H1 locs1 → W p l e R s m args below meth c H1 locs1 cells slots Q (F0 m (pc + 1) ls rest)) : W p l e R s m args below meth c H locs cells slots Q (F0 m pc ls (.int v :: .int i :: .ref (ad 45) :: rest)) := by
  refine va_cast hx hb hK hw.1 hw.2.1 hw.2.2 45 3 eC_45 rfl (inb_vp hi) hdg (fun H1 locs1 hP hD hS => ?_)
  subst he
  exact kk H1 locs1 ⟨hP, hD, hS⟩
theorem lC46 (hx : p.tables.exec = Jvm.exec) (hb : c.code = cc) (hK : va_K D vwCl (tysA cy) s) {s0 s1 s2 s3 s4 s5 s6 s7 s8 s9 s10 : OS} {x : Int32} {i : Int32} (hw : Wd D (cellsC ad cy s0 s1 s2 s3 s4 s5 s6 s7 s8 s9 s10) A H0 H locs) (hi : inb i 20 = true) (he : x = s5.1 2 i.toNatClampNeg) (hdg : decode cc pc = .ok (.iaload, 1)) (kk : W p l e R s m args below meth c H locs cells slots Q (F0 m (pc + 1) ls (.int x :: rest))) : W p l e R s m args below meth c H locs cells slots Q (F0 m pc ls (.int i :: .ref (ad 46) :: rest)) := by
  subst he
  exact va_iald hx hb hK hw.1 46 0 eC_46 rfl (inb_vp hi) hdg kk
theorem aC46 (hx : p.tables.exec = Jvm.exec) (hb : c.code = cc) (hK : va_K D vwCl (tysA cy) s) {s0 s1 s2 s3 s4 s5 s6 s7 s8 s9 s10 : OS} {t : OS} {v : Int32} {i : Int32} (hw : Wd D (cellsC ad cy s0 s1 s2 s3 s4 s5 s6 s7 s8 s9 s10) A H0 H locs) (hi : inb i 20 = true) (he : t = wI s5 2 i.toNatClampNeg v) (hdg : decode cc pc = .ok (.iastore, 1)) (kk : ∀ (H1 : Heap) (locs1 : List Loc), Wd D (cellsC ad cy s0 s1 s2 s3 s4 t s6 s7 s8 s9 s10) A H0 H1 locs1 → W p l e R s m args below meth c H1 locs1 cells slots Q (F0 m (pc + 1) ls rest)) : W p l e R s m args below meth c H locs cells slots Q (F0 m pc ls (.int v :: .int i :: .ref (ad 46) :: rest)) := by
  refine va_iast hx hb hK hw.1 hw.2.1 hw.2.2 46 0 eC_46 rfl (inb_vp hi) hdg (fun H1 locs1 hP hD hS => ?_)
  subst he
  exact kk H1 locs1 ⟨hP, hD, hS⟩
theorem lC47 (hx : p.tables.exec = Jvm.exec) (hb : c.code = cc) (hK : va_K D vwCl (tysA cy) s) {s0 s1 s2 s3 s4 s5 s6 s7 s8 s9 s10 : OS} {x : Int32} {i : Int32} (hw : Wd D (cellsC ad cy s0 s1 s2 s3 s4 s5 s6 s7 s8 s9 s10) A H0 H locs) (hi : inb i 20 = true) (he : x = s5.1 3 i.toNatClampNeg) (hdg : decode cc pc = .ok (.iaload, 1)) (kk : W p l e R s m args below meth c H locs cells slots Q (F0 m (pc + 1) ls (.int x :: rest))) : W p l e R s m args below meth c H locs cells slots Q (F0 m pc ls (.int i :: .ref (ad 47) :: rest)) := by
  subst he
  exact va_iald hx hb hK hw.1 47 0 eC_47 rfl (inb_vp hi) hdg kk
theorem aC47 (hx : p.tables.exec = Jvm.exec) (hb : c.code = cc) (hK : va_K D vwCl (tysA cy) s) {s0 s1 s2 s3 s4 s5 s6 s7 s8 s9 s10 : OS} {t : OS} {v : Int32} {i : Int32} (hw : Wd D (cellsC ad cy s0 s1 s2 s3 s4 s5 s6 s7 s8 s9 s10) A H0 H locs) (hi : inb i 20 = true) (he : t = wI s5 3 i.toNatClampNeg v) (hdg : decode cc pc = .ok (.iastore, 1)) (kk : ∀ (H1 : Heap) (locs1 : List Loc), Wd D (cellsC ad cy s0 s1 s2 s3 s4 t s6 s7 s8 s9 s10) A H0 H1 locs1 → W p l e R s m args below meth c H1 locs1 cells slots Q (F0 m (pc + 1) ls rest)) : W p l e R s m args below meth c H locs cells slots Q (F0 m pc ls (.int v :: .int i :: .ref (ad 47) :: rest)) := by
  refine va_iast hx hb hK hw.1 hw.2.1 hw.2.2 47 0 eC_47 rfl (inb_vp hi) hdg (fun H1 locs1 hP hD hS => ?_)
  subst he
  exact kk H1 locs1 ⟨hP, hD, hS⟩
theorem lC48 (hx : p.tables.exec = Jvm.exec) (hb : c.code = cc) (hK : va_K D vwCl (tysA cy) s) {s0 s1 s2 s3 s4 s5 s6 s7 s8 s9 s10 : OS} {x : Int32} {i : Int32} (hw : Wd D (cellsC ad cy s0 s1 s2 s3 s4 s5 s6 s7 s8 s9 s10) A H0 H locs) (hi : inb i 20 = true) (he : x = s5.1 4 i.toNatClampNeg) (hdg : decode cc pc = .ok (.iaload, 1)) (kk : W p l e R s m args below meth c H locs cells slots Q (F0 m (pc + 1) ls (.int x :: rest))) : W p l e R s m args below meth c H locs cells slots Q (F0 m pc ls (.int i :: .ref (ad 48) :: rest)) := by
  subst he
  exact va_iald hx hb hK hw.1 48 0 eC_48 rfl (inb_vp hi) hdg kk
theorem aC48 (hx : p.tables.exec = Jvm.exec) (hb : c.code = cc) (hK : va_K D vwCl (tysA cy) s) {s0 s1 s2 s3 s4 s5 s6 s7 s8 s9 s10 : OS} {t : OS} {v : Int32} {i : Int32} (hw : Wd D (cellsC ad cy s0 s1 s2 s3 s4 s5 s6 s7 s8 s9 s10) A H0 H locs) (hi : inb i 20 = true) (he : t = wI s5 4 i.toNatClampNeg v) (hdg : decode cc pc = .ok (.iastore, 1)) (kk : ∀ (H1 : Heap) (locs1 : List Loc), Wd D (cellsC ad cy s0 s1 s2 s3 s4 t s6 s7 s8 s9 s10) A H0 H1 locs1 → W p l e R s m args below meth c H1 locs1 cells slots Q (F0 m (pc + 1) ls rest)) : W p l e R s m args below meth c H locs cells slots Q (F0 m pc ls (.int v :: .int i :: .ref (ad 48) :: rest)) := by
  refine va_iast hx hb hK hw.1 hw.2.1 hw.2.2 48 0 eC_48 rfl (inb_vp hi) hdg (fun H1 locs1 hP hD hS => ?_)
  subst he
  exact kk H1 locs1 ⟨hP, hD, hS⟩
theorem lC49 (hx : p.tables.exec = Jvm.exec) (hb : c.code = cc) (hK : va_K D vwCl (tysA cy) s) {s0 s1 s2 s3 s4 s5 s6 s7 s8 s9 s10 : OS} {x : Int32} {i : Int32} (hw : Wd D (cellsC ad cy s0 s1 s2 s3 s4 s5 s6 s7 s8 s9 s10) A H0 H locs) (hi : inb i 20 = true) (he : x = s5.1 5 i.toNatClampNeg) (hdg : decode cc pc = .ok (.iaload, 1)) (kk : W p l e R s m args below meth c H locs cells slots Q (F0 m (pc + 1) ls (.int x :: rest))) : W p l e R s m args below meth c H locs cells slots Q (F0 m pc ls (.int i :: .ref (ad 49) :: rest)) := by
  subst he
  exact va_iald hx hb hK hw.1 49 0 eC_49 rfl (inb_vp hi) hdg kk
theorem aC49 (hx : p.tables.exec = Jvm.exec) (hb : c.code = cc) (hK : va_K D vwCl (tysA cy) s) {s0 s1 s2 s3 s4 s5 s6 s7 s8 s9 s10 : OS} {t : OS} {v : Int32} {i : Int32} (hw : Wd D (cellsC ad cy s0 s1 s2 s3 s4 s5 s6 s7 s8 s9 s10) A H0 H locs) (hi : inb i 20 = true) (he : t = wI s5 5 i.toNatClampNeg v) (hdg : decode cc pc = .ok (.iastore, 1)) (kk : ∀ (H1 : Heap) (locs1 : List Loc), Wd D (cellsC ad cy s0 s1 s2 s3 s4 t s6 s7 s8 s9 s10) A H0 H1 locs1 → W p l e R s m args below meth c H1 locs1 cells slots Q (F0 m (pc + 1) ls rest)) : W p l e R s m args below meth c H locs cells slots Q (F0 m pc ls (.int v :: .int i :: .ref (ad 49) :: rest)) := by
  refine va_iast hx hb hK hw.1 hw.2.1 hw.2.2 49 0 eC_49 rfl (inb_vp hi) hdg (fun H1 locs1 hP hD hS => ?_)
  subst he
  exact kk H1 locs1 ⟨hP, hD, hS⟩
theorem lC50 (hx : p.tables.exec = Jvm.exec) (hb : c.code = cc) (hK : va_K D vwCl (tysA cy) s) {s0 s1 s2 s3 s4 s5 s6 s7 s8 s9 s10 : OS} {x : Int32} {i : Int32} (hw : Wd D (cellsC ad cy s0 s1 s2 s3 s4 s5 s6 s7 s8 s9 s10) A H0 H locs) (hi : inb i 240 = true) (he : x = s5.1 6 i.toNatClampNeg) (hdg : decode cc pc = .ok (.iaload, 1)) (kk : W p l e R s m args below meth c H locs cells slots Q (F0 m (pc + 1) ls (.int x :: rest))) : W p l e R s m args below meth c H locs cells slots Q (F0 m pc ls (.int i :: .ref (ad 50) :: rest)) := by
  subst he
  exact va_iald hx hb hK hw.1 50 0 eC_50 rfl (inb_vp hi) hdg kk
theorem aC50 (hx : p.tables.exec = Jvm.exec) (hb : c.code = cc) (hK : va_K D vwCl (tysA cy) s) {s0 s1 s2 s3 s4 s5 s6 s7 s8 s9 s10 : OS} {t : OS} {v : Int32} {i : Int32} (hw : Wd D (cellsC ad cy s0 s1 s2 s3 s4 s5 s6 s7 s8 s9 s10) A H0 H locs) (hi : inb i 240 = true) (he : t = wI s5 6 i.toNatClampNeg v) (hdg : decode cc pc = .ok (.iastore, 1)) (kk : ∀ (H1 : Heap) (locs1 : List Loc), Wd D (cellsC ad cy s0 s1 s2 s3 s4 t s6 s7 s8 s9 s10) A H0 H1 locs1 → W p l e R s m args below meth c H1 locs1 cells slots Q (F0 m (pc + 1) ls rest)) : W p l e R s m args below meth c H locs cells slots Q (F0 m pc ls (.int v :: .int i :: .ref (ad 50) :: rest)) := by
  refine va_iast hx hb hK hw.1 hw.2.1 hw.2.2 50 0 eC_50 rfl (inb_vp hi) hdg (fun H1 locs1 hP hD hS => ?_)
  subst he
  exact kk H1 locs1 ⟨hP, hD, hS⟩
theorem lC51 (hx : p.tables.exec = Jvm.exec) (hb : c.code = cc) (hK : va_K D vwCl (tysA cy) s) {s0 s1 s2 s3 s4 s5 s6 s7 s8 s9 s10 : OS} {x : Int32} {i : Int32} (hw : Wd D (cellsC ad cy s0 s1 s2 s3 s4 s5 s6 s7 s8 s9 s10) A H0 H locs) (hi : inb i 20 = true) (he : x = s5.1 7 i.toNatClampNeg) (hdg : decode cc pc = .ok (.iaload, 1)) (kk : W p l e R s m args below meth c H locs cells slots Q (F0 m (pc + 1) ls (.int x :: rest))) : W p l e R s m args below meth c H locs cells slots Q (F0 m pc ls (.int i :: .ref (ad 51) :: rest)) := by
  subst he
  exact va_iald hx hb hK hw.1 51 0 eC_51 rfl (inb_vp hi) hdg kk
theorem aC51 (hx : p.tables.exec = Jvm.exec) (hb : c.code = cc) (hK : va_K D vwCl (tysA cy) s) {s0 s1 s2 s3 s4 s5 s6 s7 s8 s9 s10 : OS} {t : OS} {v : Int32} {i : Int32} (hw : Wd D (cellsC ad cy s0 s1 s2 s3 s4 s5 s6 s7 s8 s9 s10) A H0 H locs) (hi : inb i 20 = true) (he : t = wI s5 7 i.toNatClampNeg v) (hdg : decode cc pc = .ok (.iastore, 1)) (kk : ∀ (H1 : Heap) (locs1 : List Loc), Wd D (cellsC ad cy s0 s1 s2 s3 s4 t s6 s7 s8 s9 s10) A H0 H1 locs1 → W p l e R s m args below meth c H1 locs1 cells slots Q (F0 m (pc + 1) ls rest)) : W p l e R s m args below meth c H locs cells slots Q (F0 m pc ls (.int v :: .int i :: .ref (ad 51) :: rest)) := by
  refine va_iast hx hb hK hw.1 hw.2.1 hw.2.2 51 0 eC_51 rfl (inb_vp hi) hdg (fun H1 locs1 hP hD hS => ?_)
  subst he
  exact kk H1 locs1 ⟨hP, hD, hS⟩
theorem lC52 (hx : p.tables.exec = Jvm.exec) (hb : c.code = cc) (hK : va_K D vwCl (tysA cy) s) {s0 s1 s2 s3 s4 s5 s6 s7 s8 s9 s10 : OS} {x : Int32} {i : Int32} (hw : Wd D (cellsC ad cy s0 s1 s2 s3 s4 s5 s6 s7 s8 s9 s10) A H0 H locs) (hi : inb i 160 = true) (he : x = s6.1 1 i.toNatClampNeg) (hdg : decode cc pc = .ok (.caload, 1)) (kk : W p l e R s m args below meth c H locs cells slots Q (F0 m (pc + 1) ls (.int x :: rest))) : W p l e R s m args below meth c H locs cells slots Q (F0 m pc ls (.int i :: .ref (ad 52) :: rest)) := by
  subst he
  exact va_cald hx hb hK hw.1 52 3 eC_52 rfl (inb_vp hi) hdg kk
theorem aC52 (hx : p.tables.exec = Jvm.exec) (hb : c.code = cc) (hK : va_K D vwCl (tysA cy) s) {s0 s1 s2 s3 s4 s5 s6 s7 s8 s9 s10 : OS} {t : OS} {v : Int32} {i : Int32} (hw : Wd D (cellsC ad cy s0 s1 s2 s3 s4 s5 s6 s7 s8 s9 s10) A H0 H locs) (hi : inb i 160 = true) (he : t = wI s6 1 i.toNatClampNeg (vp_nar .char v)) (hdg : decode cc pc = .ok (.castore, 1)) (kk : ∀ (H1 : Heap) (locs1 : List Loc), Wd D (cellsC ad cy s0 s1 s2 s3 s4 s5 t s7 s8 s9 s10) A H0 H1 locs1 → W p l e R s m args below meth c H1 locs1 cells slots Q (F0 m (pc + 1) ls rest)) : W p l e R s m args below meth c H locs cells slots Q (F0 m pc ls (.int v :: .int i :: .ref (ad 52) :: rest)) := by
  refine va_cast hx hb hK hw.1 hw.2.1 hw.2.2 52 3 eC_52 rfl (inb_vp hi) hdg (fun H1 locs1 hP hD hS => ?_)
  subst he
  exact kk H1 locs1 ⟨hP, hD, hS⟩
theorem lC53 (hx : p.tables.exec = Jvm.exec) (hb : c.code = cc) (hK : va_K D vwCl (tysA cy) s) {s0 s1 s2 s3 s4 s5 s6 s7 s8 s9 s10 : OS} {x : Int32} {i : Int32} (hw : Wd D (cellsC ad cy s0 s1 s2 s3 s4 s5 s6 s7 s8 s9 s10) A H0 H locs) (hi : inb i 12 = true) (he : x = s6.1 2 i.toNatClampNeg) (hdg : decode cc pc = .ok (.iaload, 1)) (kk : W p l e R s m args below meth c H locs cells slots Q (F0 m (pc + 1) ls (.int x :: rest))) : W p l e R s m args below meth c H locs cells slots Q (F0 m pc ls (.int i :: .ref (ad 53) :: rest)) := by
  subst he
  exact va_iald hx hb hK hw.1 53 0 eC_53 rfl (inb_vp hi) hdg kk
theorem aC53 (hx : p.tables.exec = Jvm.exec) (hb : c.code = cc) (hK : va_K D vwCl (tysA cy) s) {s0 s1 s2 s3 s4 s5 s6 s7 s8 s9 s10 : OS} {t : OS} {v : Int32} {i : Int32} (hw : Wd D (cellsC ad cy s0 s1 s2 s3 s4 s5 s6 s7 s8 s9 s10) A H0 H locs) (hi : inb i 12 = true) (he : t = wI s6 2 i.toNatClampNeg v) (hdg : decode cc pc = .ok (.iastore, 1)) (kk : ∀ (H1 : Heap) (locs1 : List Loc), Wd D (cellsC ad cy s0 s1 s2 s3 s4 s5 t s7 s8 s9 s10) A H0 H1 locs1 → W p l e R s m args below meth c H1 locs1 cells slots Q (F0 m (pc + 1) ls rest)) : W p l e R s m args below meth c H locs cells slots Q (F0 m pc ls (.int v :: .int i :: .ref (ad 53) :: rest)) := by
  refine va_iast hx hb hK hw.1 hw.2.1 hw.2.2 53 0 eC_53 rfl (inb_vp hi) hdg (fun H1 locs1 hP hD hS => ?_)
  subst he
  exact kk H1 locs1 ⟨hP, hD, hS⟩
theorem lC54 (hx : p.tables.exec = Jvm.exec) (hb : c.code = cc) (hK : va_K D vwCl (tysA cy) s) {s0 s1 s2 s3 s4 s5 s6 s7 s8 s9 s10 : OS} {x : Int64} {i : Int32} (hw : Wd D (cellsC ad cy s0 s1 s2 s3 s4 s5 s6 s7 s8 s9 s10) A H0 H locs) (hi : inb i 9 = true) (he : x = s6.2 3 i.toNatClampNeg) (hdg : decode cc pc = .ok (.laload, 1)) (kk : W p l e R s m args below meth c H locs cells slots Q (F0 m (pc + 1) ls (.long x :: rest))) : W p l e R s m args below meth c H locs cells slots Q (F0 m pc ls (.int i :: .ref (ad 54) :: rest)) := by
  subst he
  exact va_lald hx hb hK hw.1 54 1 eC_54 rfl (inb_vp hi) hdg kk
theorem aC54 (hx : p.tables.exec = Jvm.exec) (hb : c.code = cc) (hK : va_K D vwCl (tysA cy) s) {s0 s1 s2 s3 s4 s5 s6 s7 s8 s9 s10 : OS} {t : OS} {v : Int64} {i : Int32} (hw : Wd D (cellsC ad cy s0 s1 s2 s3 s4 s5 s6 s7 s8 s9 s10) A H0 H locs) (hi : inb i 9 = true) (he : t = wL s6 3 i.toNatClampNeg v) (hdg : decode cc pc = .ok (.lastore, 1)) (kk : ∀ (H1 : Heap) (locs1 : List Loc), Wd D (cellsC ad cy s0 s1 s2 s3 s4 s5 t s7 s8 s9 s10) A H0 H1 locs1 → W p l e R s m args below meth c H1 locs1 cells slots Q (F0 m (pc + 1) ls rest)) : W p l e R s m args below meth c H locs cells slots Q (F0 m pc ls (.long v :: .int i :: .ref (ad 54) :: rest)) := by
  refine va_last hx hb hK hw.1 hw.2.1 hw.2.2 54 1 eC_54 rfl (inb_vp hi) hdg (fun H1 locs1 hP hD hS => ?_)
  subst he
  exact kk H1 locs1 ⟨hP, hD, hS⟩
theorem lC55 (hx : p.tables.exec = Jvm.exec) (hb : c.code = cc) (hK : va_K D vwCl (tysA cy) s) {s0 s1 s2 s3 s4 s5 s6 s7 s8 s9 s10 : OS} {x : Int32} {i : Int32} (hw : Wd D (cellsC ad cy s0 s1 s2 s3 s4 s5 s6 s7 s8 s9 s10) A H0 H locs) (hi : inb i 200 = true) (he : x = s7.1 1 i.toNatClampNeg) (hdg : decode cc pc = .ok (.iaload, 1)) (kk : W p l e R s m args below meth c H locs cells slots Q (F0 m (pc + 1) ls (.int x :: rest))) : W p l e R s m args below meth c H locs cells slots Q (F0 m pc ls (.int i :: .ref (ad 55) :: rest)) := by
  subst he
  exact va_iald hx hb hK hw.1 55 0 eC_55 rfl (inb_vp hi) hdg kk
theorem aC55 (hx : p.tables.exec = Jvm.exec) (hb : c.code = cc) (hK : va_K D vwCl (tysA cy) s) {s0 s1 s2 s3 s4 s5 s6 s7 s8 s9 s10 : OS} {t : OS} {v : Int32} {i : Int32} (hw : Wd D (cellsC ad cy s0 s1 s2 s3 s4 s5 s6 s7 s8 s9 s10) A H0 H locs) (hi : inb i 200 = true) (he : t = wI s7 1 i.toNatClampNeg v) (hdg : decode cc pc = .ok (.iastore, 1)) (kk : ∀ (H1 : Heap) (locs1 : List Loc), Wd D (cellsC ad cy s0 s1 s2 s3 s4 s5 s6 t s8 s9 s10) A H0 H1 locs1 → W p l e R s m args below meth c H1 locs1 cells slots Q (F0 m (pc + 1) ls rest)) : W p l e R s m args below meth c H locs cells slots Q (F0 m pc ls (.int v :: .int i :: .ref (ad 55) :: rest)) := by
  refine va_iast hx hb hK hw.1 hw.2.1 hw.2.2 55 0 eC_55 rfl (inb_vp hi) hdg (fun H1 locs1 hP hD hS => ?_)
  subst he
  exact kk H1 locs1 ⟨hP, hD, hS⟩
theorem lC56 (hx : p.tables.exec = Jvm.exec) (hb : c.code = cc) (hK : va_K D vwCl (tysA cy) s) {s0 s1 s2 s3 s4 s5 s6 s7 s8 s9 s10 : OS} {x : Int32} {i : Int32} (hw : Wd D (cellsC ad cy s0 s1 s2 s3 s4 s5 s6 s7 s8 s9 s10) A H0 H locs) (hi : inb i 200 = true) (he : x = s7.1 2 i.toNatClampNeg) (hdg : decode cc pc = .ok (.iaload, 1)) (kk : W p l e R s m args below meth c H locs cells slots Q (F0 m (pc + 1) ls (.int x :: rest))) : W p l e R s m args below meth c H locs cells slots Q (F0 m pc ls (.int i :: .ref (ad 56) :: rest)) := by
  subst he
  exact va_iald hx hb hK hw.1 56 0 eC_56 rfl (inb_vp hi) hdg kk
theorem aC56 (hx : p.tables.exec = Jvm.exec) (hb : c.code = cc) (hK : va_K D vwCl (tysA cy) s) {s0 s1 s2 s3 s4 s5 s6 s7 s8 s9 s10 : OS} {t : OS} {v : Int32} {i : Int32} (hw : Wd D (cellsC ad cy s0 s1 s2 s3 s4 s5 s6 s7 s8 s9 s10) A H0 H locs) (hi : inb i 200 = true) (he : t = wI s7 2 i.toNatClampNeg v) (hdg : decode cc pc = .ok (.iastore, 1)) (kk : ∀ (H1 : Heap) (locs1 : List Loc), Wd D (cellsC ad cy s0 s1 s2 s3 s4 s5 s6 t s8 s9 s10) A H0 H1 locs1 → W p l e R s m args below meth c H1 locs1 cells slots Q (F0 m (pc + 1) ls rest)) : W p l e R s m args below meth c H locs cells slots Q (F0 m pc ls (.int v :: .int i :: .ref (ad 56) :: rest)) := by
  refine va_iast hx hb hK hw.1 hw.2.1 hw.2.2 56 0 eC_56 rfl (inb_vp hi) hdg (fun H1 locs1 hP hD hS => ?_)
  subst he
  exact kk H1 locs1 ⟨hP, hD, hS⟩
theorem lC57 (hx : p.tables.exec = Jvm.exec) (hb : c.code = cc) (hK : va_K D vwCl (tysA cy) s) {s0 s1 s2 s3 s4 s5 s6 s7 s8 s9 s10 : OS} {x : Int32} {i : Int32} (hw : Wd D (cellsC ad cy s0 s1 s2 s3 s4 s5 s6 s7 s8 s9 s10) A H0 H locs) (hi : inb i 200 = true) (he : x = s7.1 3 i.toNatClampNeg) (hdg : decode cc pc = .ok (.iaload, 1)) (kk : W p l e R s m args below meth c H locs cells slots Q (F0 m (pc + 1) ls (.int x :: rest))) : W p l e R s m args below meth c H locs cells slots Q (F0 m pc ls (.int i :: .ref (ad 57) :: rest)) := by
  subst he
  exact va_iald hx hb hK hw.1 57 0 eC_57 rfl (inb_vp hi) hdg kk
theorem aC57 (hx : p.tables.exec = Jvm.exec) (hb : c.code = cc) (hK : va_K D vwCl (tysA cy) s) {s0 s1 s2 s3 s4 s5 s6 s7 s8 s9 s10 : OS} {t : OS} {v : Int32} {i : Int32} (hw : Wd D (cellsC ad cy s0 s1 s2 s3 s4 s5 s6 s7 s8 s9 s10) A H0 H locs) (hi : inb i 200 = true) (he : t = wI s7 3 i.toNatClampNeg v) (hdg : decode cc pc = .ok (.iastore, 1)) (kk : ∀ (H1 : Heap) (locs1 : List Loc), Wd D (cellsC ad cy s0 s1 s2 s3 s4 s5 s6 t s8 s9 s10) A H0 H1 locs1 → W p l e R s m args below meth c H1 locs1 cells slots Q (F0 m (pc + 1) ls rest)) : W p l e R s m args below meth c H locs cells slots Q (F0 m pc ls (.int v :: .int i :: .ref (ad 57) :: rest)) := by
  refine va_iast hx hb hK hw.1 hw.2.1 hw.2.2 57 0 eC_57 rfl (inb_vp hi) hdg (fun H1 locs1 hP hD hS => ?_)
  subst he
  exact kk H1 locs1 ⟨hP, hD, hS⟩
theorem lC58 (hx : p.tables.exec = Jvm.exec) (hb : c.code = cc) (hK : va_K D vwCl (tysA cy) s) {s0 s1 s2 s3 s4 s5 s6 s7 s8 s9 s10 : OS} {x : Int32} {i : Int32} (hw : Wd D (cellsC ad cy s0 s1 s2 s3 s4 s5 s6 s7 s8 s9 s10) A H0 H locs) (hi : inb i 200 = true) (he : x = s7.1 4 i.toNatClampNeg) (hdg : decode cc pc = .ok (.iaload, 1)) (kk : W p l e R s m args below meth c H locs cells slots Q (F0 m (pc + 1) ls (.int x :: rest))) : W p l e R s m args below meth c H locs cells slots Q (F0 m pc ls (.int i :: .ref (ad 58) :: rest)) := by
  subst he
  exact va_iald hx hb hK hw.1 58 0 eC_58 rfl (inb_vp hi) hdg kk
theorem aC58 (hx : p.tables.exec = Jvm.exec) (hb : c.code = cc) (hK : va_K D vwCl (tysA cy) s) {s0 s1 s2 s3 s4 s5 s6 s7 s8 s9 s10 : OS} {t : OS} {v : Int32} {i : Int32} (hw : Wd D (cellsC ad cy s0 s1 s2 s3 s4 s5 s6 s7 s8 s9 s10) A H0 H locs) (hi : inb i 200 = true) (he : t = wI s7 4 i.toNatClampNeg v) (hdg : decode cc pc = .ok (.iastore, 1)) (kk : ∀ (H1 : Heap) (locs1 : List Loc), Wd D (cellsC ad cy s0 s1 s2 s3 s4 s5 s6 t s8 s9 s10) A H0 H1 locs1 → W p l e R s m args below meth c H1 locs1 cells slots Q (F0 m (pc + 1) ls rest)) : W p l e R s m args below meth c H locs cells slots Q (F0 m pc ls (.int v :: .int i :: .ref (ad 58) :: rest)) := by
  refine va_iast hx hb hK hw.1 hw.2.1 hw.2.2 58 0 eC_58 rfl (inb_vp hi) hdg (fun H1 locs1 hP hD hS => ?_)
  subst he
  exact kk H1 locs1 ⟨hP, hD, hS⟩
theorem lC59 (hx : p.tables.exec = Jvm.exec) (hb : c.code = cc) (hK : va_K D vwCl (tysA cy) s) {s0 s1 s2 s3 s4 s5 s6 s7 s8 s9 s10 : OS} {x : Int32} {i : Int32} (hw : Wd D (cellsC ad cy s0 s1 s2 s3 s4 s5 s6 s7 s8 s9 s10) A H0 H locs) (hi : inb i 400 = true) (he : x = s8.1 1 i.toNatClampNeg) (hdg : decode cc pc = .ok (.caload, 1)) (kk : W p l e R s m args below meth c H locs cells slots Q (F0 m (pc + 1) ls (.int x :: rest))) : W p l e R s m args below meth c H locs cells slots Q (F0 m pc ls (.int i :: .ref (ad 59) :: rest)) := by
  subst he
  exact va_cald hx hb hK hw.1 59 3 eC_59 rfl (inb_vp hi) hdg kk
theorem aC59 (hx : p.tables.exec = Jvm.exec) (hb : c.code = cc) (hK : va_K D vwCl (tysA cy) s) {s0 s1 s2 s3 s4 s5 s6 s7 s8 s9 s10 : OS} {t : OS} {v : Int32} {i : Int32} (hw : Wd D (cellsC ad cy s0 s1 s2 s3 s4 s5 s6 s7 s8 s9 s10) A H0 H locs) (hi : inb i 400 = true) (he : t = wI s8 1 i.toNatClampNeg (vp_nar .char v)) (hdg : decode cc pc = .ok (.castore, 1)) (kk : ∀ (H1 : Heap) (locs1 : List Loc), Wd D (cellsC ad cy s0 s1 s2 s3 s4 s5 s6 s7 t s9 s10) A H0 H1 locs1 → W p l e R s m args below meth c H1 locs1 cells slots Q (F0 m (pc + 1) ls rest)) : W p l e R s m args below meth c H locs cells slots Q (F0 m pc ls (.int v :: .int i :: .ref (ad 59) :: rest)) := by
  refine va_cast hx hb hK hw.1 hw.2.1 hw.2.2 59 3 eC_59 rfl (inb_vp hi) hdg (fun H1 locs1 hP hD hS => ?_)
  subst he
  exact kk H1 locs1 ⟨hP, hD, hS⟩
theorem lC60 (hx : p.tables.exec = Jvm.exec) (hb : c.code = cc) (hK : va_K D vwCl (tysA cy) s) {s0 s1 s2 s3 s4 s5 s6 s7 s8 s9 s10 : OS} {x : Int32} {i : Int32} (hw : Wd D (cellsC ad cy s0 s1 s2 s3 s4 s5 s6 s7 s8 s9 s10) A H0 H locs) (hi : inb i 256 = true) (he : x = s9.1 1 i.toNatClampNeg) (hdg : decode cc pc = .ok (.iaload, 1)) (kk : W p l e R s m args below meth c H locs cells slots Q (F0 m (pc + 1) ls (.int x :: rest))) : W p l e R s m args below meth c H locs cells slots Q (F0 m pc ls (.int i :: .ref (ad 60) :: rest)) := by
  subst he
  exact va_iald hx hb hK hw.1 60 0 eC_60 rfl (inb_vp hi) hdg kk
theorem aC60 (hx : p.tables.exec = Jvm.exec) (hb : c.code = cc) (hK : va_K D vwCl (tysA cy) s) {s0 s1 s2 s3 s4 s5 s6 s7 s8 s9 s10 : OS} {t : OS} {v : Int32} {i : Int32} (hw : Wd D (cellsC ad cy s0 s1 s2 s3 s4 s5 s6 s7 s8 s9 s10) A H0 H locs) (hi : inb i 256 = true) (he : t = wI s9 1 i.toNatClampNeg v) (hdg : decode cc pc = .ok (.iastore, 1)) (kk : ∀ (H1 : Heap) (locs1 : List Loc), Wd D (cellsC ad cy s0 s1 s2 s3 s4 s5 s6 s7 s8 t s10) A H0 H1 locs1 → W p l e R s m args below meth c H1 locs1 cells slots Q (F0 m (pc + 1) ls rest)) : W p l e R s m args below meth c H locs cells slots Q (F0 m pc ls (.int v :: .int i :: .ref (ad 60) :: rest)) := by
  refine va_iast hx hb hK hw.1 hw.2.1 hw.2.2 60 0 eC_60 rfl (inb_vp hi) hdg (fun H1 locs1 hP hD hS => ?_)
  subst he
  exact kk H1 locs1 ⟨hP, hD, hS⟩
theorem lC61 (hx : p.tables.exec = Jvm.exec) (hb : c.code = cc) (hK : va_K D vwCl (tysA cy) s) {s0 s1 s2 s3 s4 s5 s6 s7 s8 s9 s10 : OS} {x : Int32} {i : Int32} (hw : Wd D (cellsC ad cy s0 s1 s2 s3 s4 s5 s6 s7 s8 s9 s10) A H0 H locs) (hi : inb i 16 = true) (he : x = s9.1 2 i.toNatClampNeg) (hdg : decode cc pc = .ok (.iaload, 1)) (kk : W p l e R s m args below meth c H locs cells slots Q (F0 m (pc + 1) ls (.int x :: rest))) : W p l e R s m args below meth c H locs cells slots Q (F0 m pc ls (.int i :: .ref (ad 61) :: rest)) := by
  subst he
  exact va_iald hx hb hK hw.1 61 0 eC_61 rfl (inb_vp hi) hdg kk
theorem aC61 (hx : p.tables.exec = Jvm.exec) (hb : c.code = cc) (hK : va_K D vwCl (tysA cy) s) {s0 s1 s2 s3 s4 s5 s6 s7 s8 s9 s10 : OS} {t : OS} {v : Int32} {i : Int32} (hw : Wd D (cellsC ad cy s0 s1 s2 s3 s4 s5 s6 s7 s8 s9 s10) A H0 H locs) (hi : inb i 16 = true) (he : t = wI s9 2 i.toNatClampNeg v) (hdg : decode cc pc = .ok (.iastore, 1)) (kk : ∀ (H1 : Heap) (locs1 : List Loc), Wd D (cellsC ad cy s0 s1 s2 s3 s4 s5 s6 s7 s8 t s10) A H0 H1 locs1 → W p l e R s m args below meth c H1 locs1 cells slots Q (F0 m (pc + 1) ls rest)) : W p l e R s m args below meth c H locs cells slots Q (F0 m pc ls (.int v :: .int i :: .ref (ad 61) :: rest)) := by
  refine va_iast hx hb hK hw.1 hw.2.1 hw.2.2 61 0 eC_61 rfl (inb_vp hi) hdg (fun H1 locs1 hP hD hS => ?_)
  subst he
  exact kk H1 locs1 ⟨hP, hD, hS⟩
theorem lC62 (hx : p.tables.exec = Jvm.exec) (hb : c.code = cc) (hK : va_K D vwCl (tysA cy) s) {s0 s1 s2 s3 s4 s5 s6 s7 s8 s9 s10 : OS} {x : Int32} {i : Int32} (hw : Wd D (cellsC ad cy s0 s1 s2 s3 s4 s5 s6 s7 s8 s9 s10) A H0 H locs) (hi : inb i 40 = true) (he : x = s9.1 3 i.toNatClampNeg) (hdg : decode cc pc = .ok (.iaload, 1)) (kk : W p l e R s m args below meth c H locs cells slots Q (F0 m (pc + 1) ls (.int x :: rest))) : W p l e R s m args below meth c H locs cells slots Q (F0 m pc ls (.int i :: .ref (ad 62) :: rest)) := by
  subst he
  exact va_iald hx hb hK hw.1 62 0 eC_62 rfl (inb_vp hi) hdg kk
theorem aC62 (hx : p.tables.exec = Jvm.exec) (hb : c.code = cc) (hK : va_K D vwCl (tysA cy) s) {s0 s1 s2 s3 s4 s5 s6 s7 s8 s9 s10 : OS} {t : OS} {v : Int32} {i : Int32} (hw : Wd D (cellsC ad cy s0 s1 s2 s3 s4 s5 s6 s7 s8 s9 s10) A H0 H locs) (hi : inb i 40 = true) (he : t = wI s9 3 i.toNatClampNeg v) (hdg : decode cc pc = .ok (.iastore, 1)) (kk : ∀ (H1 : Heap) (locs1 : List Loc), Wd D (cellsC ad cy s0 s1 s2 s3 s4 s5 s6 s7 s8 t s10) A H0 H1 locs1 → W p l e R s m args below meth c H1 locs1 cells slots Q (F0 m (pc + 1) ls rest)) : W p l e R s m args below meth c H locs cells slots Q (F0 m pc ls (.int v :: .int i :: .ref (ad 62) :: rest)) := by
  refine va_iast hx hb hK hw.1 hw.2.1 hw.2.2 62 0 eC_62 rfl (inb_vp hi) hdg (fun H1 locs1 hP hD hS => ?_)
  subst he
  exact kk H1 locs1 ⟨hP, hD, hS⟩
theorem lC63 (hx : p.tables.exec = Jvm.exec) (hb : c.code = cc) (hK : va_K D vwCl (tysA cy) s) {s0 s1 s2 s3 s4 s5 s6 s7 s8 s9 s10 : OS} {x : Int32} {i : Int32} (hw : Wd D (cellsC ad cy s0 s1 s2 s3 s4 s5 s6 s7 s8 s9 s10) A H0 H locs) (hi : inb i 140 = true) (he : x = s9.1 4 i.toNatClampNeg) (hdg : decode cc pc = .ok (.iaload, 1)) (kk : W p l e R s m args below meth c H locs cells slots Q (F0 m (pc + 1) ls (.int x :: rest))) : W p l e R s m args below meth c H locs cells slots Q (F0 m pc ls (.int i :: .ref (ad 63) :: rest)) := by
  subst he
  exact va_iald hx hb hK hw.1 63 0 eC_63 rfl (inb_vp hi) hdg kk
theorem aC63 (hx : p.tables.exec = Jvm.exec) (hb : c.code = cc) (hK : va_K D vwCl (tysA cy) s) {s0 s1 s2 s3 s4 s5 s6 s7 s8 s9 s10 : OS} {t : OS} {v : Int32} {i : Int32} (hw : Wd D (cellsC ad cy s0 s1 s2 s3 s4 s5 s6 s7 s8 s9 s10) A H0 H locs) (hi : inb i 140 = true) (he : t = wI s9 4 i.toNatClampNeg v) (hdg : decode cc pc = .ok (.iastore, 1)) (kk : ∀ (H1 : Heap) (locs1 : List Loc), Wd D (cellsC ad cy s0 s1 s2 s3 s4 s5 s6 s7 s8 t s10) A H0 H1 locs1 → W p l e R s m args below meth c H1 locs1 cells slots Q (F0 m (pc + 1) ls rest)) : W p l e R s m args below meth c H locs cells slots Q (F0 m pc ls (.int v :: .int i :: .ref (ad 63) :: rest)) := by
  refine va_iast hx hb hK hw.1 hw.2.1 hw.2.2 63 0 eC_63 rfl (inb_vp hi) hdg (fun H1 locs1 hP hD hS => ?_)
  subst he
  exact kk H1 locs1 ⟨hP, hD, hS⟩
theorem lC64 (hx : p.tables.exec = Jvm.exec) (hb : c.code = cc) (hK : va_K D vwCl (tysA cy) s) {s0 s1 s2 s3 s4 s5 s6 s7 s8 s9 s10 : OS} {x : Int32} {i : Int32} (hw : Wd D (cellsC ad cy s0 s1 s2 s3 s4 s5 s6 s7 s8 s9 s10) A H0 H locs) (hi : inb i 140 = true) (he : x = s9.1 5 i.toNatClampNeg) (hdg : decode cc pc = .ok (.iaload, 1)) (kk : W p l e R s m args below meth c H locs cells slots Q (F0 m (pc + 1) ls (.int x :: rest))) : W p l e R s m args below meth c H locs cells slots Q (F0 m pc ls (.int i :: .ref (ad 64) :: rest)) := by
  subst he
  exact va_iald hx hb hK hw.1 64 0 eC_64 rfl (inb_vp hi) hdg kk
theorem aC64 (hx : p.tables.exec = Jvm.exec) (hb : c.code = cc) (hK : va_K D vwCl (tysA cy) s) {s0 s1 s2 s3 s4 s5 s6 s7 s8 s9 s10 : OS} {t : OS} {v : Int32} {i : Int32} (hw : Wd D (cellsC ad cy s0 s1 s2 s3 s4 s5 s6 s7 s8 s9 s10) A H0 H locs) (hi : inb i 140 = true) (he : t = wI s9 5 i.toNatClampNeg v) (hdg : decode cc pc = .ok (.iastore, 1)) (kk : ∀ (H1 : Heap) (locs1 : List Loc), Wd D (cellsC ad cy s0 s1 s2 s3 s4 s5 s6 s7 s8 t s10) A H0 H1 locs1 → W p l e R s m args below meth c H1 locs1 cells slots Q (F0 m (pc + 1) ls rest)) : W p l e R s m args below meth c H locs cells slots Q (F0 m pc ls (.int v :: .int i :: .ref (ad 64) :: rest)) := by
  refine va_iast hx hb hK hw.1 hw.2.1 hw.2.2 64 0 eC_64 rfl (inb_vp hi) hdg (fun H1 locs1 hP hD hS => ?_)
  subst he
  exact kk H1 locs1 ⟨hP, hD, hS⟩
theorem lC65 (hx : p.tables.exec = Jvm.exec) (hb : c.code = cc) (hK : va_K D vwCl (tysA cy) s) {s0 s1 s2 s3 s4 s5 s6 s7 s8 s9 s10 : OS} {x : Int32} {i : Int32} (hw : Wd D (cellsC ad cy s0 s1 s2 s3 s4 s5 s6 s7 s8 s9 s10) A H0 H locs) (hi : inb i 140 = true) (he : x = s9.1 6 i.toNatClampNeg) (hdg : decode cc pc = .ok (.iaload, 1)) (kk : W p l e R s m args below meth c H locs cells slots Q (F0 m (pc + 1) ls (.int x :: rest))) : W p l e R s m args below meth c H locs cells slots Q (F0 m pc ls (.int i :: .ref (ad 65) :: rest)) := by
  subst he
  exact va_iald hx hb hK hw.1 65 0 eC_65 rfl (inb_vp hi) hdg kk
theorem aC65 (hx : p.tables.exec = Jvm.exec) (hb : c.code = cc) (hK : va_K D vwCl (tysA cy) s) {s0 s1 s2 s3 s4 s5 s6 s7 s8 s9 s10 : OS} {t : OS} {v : Int32} {i : Int32} (hw : Wd D (cellsC ad cy s0 s1 s2 s3 s4 s5 s6 s7 s8 s9 s10) A H0 H locs) (hi : inb i 140 = true) (he : t = wI s9 6 i.toNatClampNeg v) (hdg : decode cc pc = .ok (.iastore, 1)) (kk : ∀ (H1 : Heap) (locs1 : List Loc), Wd D (cellsC ad cy s0 s1 s2 s3 s4 s5 s6 s7 s8 t s10) A H0 H1 locs1 → W p l e R s m args below meth c H1 locs1 cells slots Q (F0 m (pc + 1) ls rest)) : W p l e R s m args below meth c H locs cells slots Q (F0 m pc ls (.int v :: .int i :: .ref (ad 65) :: rest)) := by
  refine va_iast hx hb hK hw.1 hw.2.1 hw.2.2 65 0 eC_65 rfl (inb_vp hi) hdg (fun H1 locs1 hP hD hS => ?_)
  subst he
  exact kk H1 locs1 ⟨hP, hD, hS⟩
theorem lC66 (hx : p.tables.exec = Jvm.exec) (hb : c.code = cc) (hK : va_K D vwCl (tysA cy) s) {s0 s1 s2 s3 s4 s5 s6 s7 s8 s9 s10 : OS} {x : Int32} {i : Int32} (hw : Wd D (cellsC ad cy s0 s1 s2 s3 s4 s5 s6 s7 s8 s9 s10) A H0 H locs) (hi : inb i 10 = true) (he : x = s10.1 1 i.toNatClampNeg) (hdg : decode cc pc = .ok (.iaload, 1)) (kk : W p l e R s m args below meth c H locs cells slots Q (F0 m (pc + 1) ls (.int x :: rest))) : W p l e R s m args below meth c H locs cells slots Q (F0 m pc ls (.int i :: .ref (ad 66) :: rest)) := by
  subst he
  exact va_iald hx hb hK hw.1 66 0 eC_66 rfl (inb_vp hi) hdg kk
theorem aC66 (hx : p.tables.exec = Jvm.exec) (hb : c.code = cc) (hK : va_K D vwCl (tysA cy) s) {s0 s1 s2 s3 s4 s5 s6 s7 s8 s9 s10 : OS} {t : OS} {v : Int32} {i : Int32} (hw : Wd D (cellsC ad cy s0 s1 s2 s3 s4 s5 s6 s7 s8 s9 s10) A H0 H locs) (hi : inb i 10 = true) (he : t = wI s10 1 i.toNatClampNeg v) (hdg : decode cc pc = .ok (.iastore, 1)) (kk : ∀ (H1 : Heap) (locs1 : List Loc), Wd D (cellsC ad cy s0 s1 s2 s3 s4 s5 s6 s7 s8 s9 t) A H0 H1 locs1 → W p l e R s m args below meth c H1 locs1 cells slots Q (F0 m (pc + 1) ls rest)) : W p l e R s m args below meth c H locs cells slots Q (F0 m pc ls (.int v :: .int i :: .ref (ad 66) :: rest)) := by
  refine va_iast hx hb hK hw.1 hw.2.1 hw.2.2 66 0 eC_66 rfl (inb_vp hi) hdg (fun H1 locs1 hP hD hS => ?_)
  subst he
  exact kk H1 locs1 ⟨hP, hD, hS⟩
end
section
variable {p : Program} {l : Launch} {e : Env} {R : Room} {s : State} {m : MethodId} {args : Array Value} {below : List Frame} {meth : Method} {c : Code} {H : Heap} {locs : List Loc} {Q : State → Prop} {cc : ByteArray} {pc : Nat} {ls : Array Slot} {rest : List Value} {A : Nat → Prop} {H0 : Heap} {cells slots : Nat} {D : va_G} {ad : Nat → Nat} {cy : Nat → ClassId}

theorem lM1 (hx : p.tables.exec = Jvm.exec) (hb : c.code = cc) (hK : va_K D vwCl (tysA cy) s) {s11 : OS} {x : Int32} {i : Int32} (hw : Wd D (cellsM ad cy s11) A H0 H locs) (hi : inb i 400 = true) (he : x = s11.1 1 i.toNatClampNeg) (hdg : decode cc pc = .ok (.baload, 1)) (kk : W p l e R s m args below meth c H locs cells slots Q (F0 m (pc + 1) ls (.int x :: rest))) : W p l e R s m args below meth c H locs cells slots Q (F0 m pc ls (.int i :: .ref (ad 1) :: rest)) := by
  subst he
  exact va_bald hx hb hK hw.1 1 4 eM_1 rfl (inb_vp hi) hdg kk
theorem aM1 (hx : p.tables.exec = Jvm.exec) (hb : c.code = cc) (hK : va_K D vwCl (tysA cy) s) {s11 : OS} {t : OS} {v : Int32} {i : Int32} (hw : Wd D (cellsM ad cy s11) A H0 H locs) (hi : inb i 400 = true) (he : t = wI s11 1 i.toNatClampNeg (vp_nar .byte v)) (hdg : decode cc pc = .ok (.bastore, 1)) (kk : ∀ (H1 : Heap) (locs1 : List Loc), Wd D (cellsM ad cy t) A H0 H1 locs1 → W p l e R s m args below meth c H1 locs1 cells slots Q (F0 m (pc + 1) ls rest)) : W p l e R s m args below meth c H locs cells slots Q (F0 m pc ls (.int v :: .int i :: .ref (ad 1) :: rest)) := by
  refine va_bast hx hb hK hw.1 hw.2.1 hw.2.2 1 4 eM_1 rfl (inb_vp hi) hdg (fun H1 locs1 hP hD hS => ?_)
  subst he
  exact kk H1 locs1 ⟨hP, hD, hS⟩
theorem lM2 (hx : p.tables.exec = Jvm.exec) (hb : c.code = cc) (hK : va_K D vwCl (tysA cy) s) {s11 : OS} {x : Int32} {i : Int32} (hw : Wd D (cellsM ad cy s11) A H0 H locs) (hi : inb i 150 = true) (he : x = s11.1 12 i.toNatClampNeg) (hdg : decode cc pc = .ok (.iaload, 1)) (kk : W p l e R s m args below meth c H locs cells slots Q (F0 m (pc + 1) ls (.int x :: rest))) : W p l e R s m args below meth c H locs cells slots Q (F0 m pc ls (.int i :: .ref (ad 2) :: rest)) := by
  subst he
  exact va_iald hx hb hK hw.1 2 0 eM_2 rfl (inb_vp hi) hdg kk
theorem aM2 (hx : p.tables.exec = Jvm.exec) (hb : c.code = cc) (hK : va_K D vwCl (tysA cy) s) {s11 : OS} {t : OS} {v : Int32} {i : Int32} (hw : Wd D (cellsM ad cy s11) A H0 H locs) (hi : inb i 150 = true) (he : t = wI s11 12 i.toNatClampNeg v) (hdg : decode cc pc = .ok (.iastore, 1)) (kk : ∀ (H1 : Heap) (locs1 : List Loc), Wd D (cellsM ad cy t) A H0 H1 locs1 → W p l e R s m args below meth c H1 locs1 cells slots Q (F0 m (pc + 1) ls rest)) : W p l e R s m args below meth c H locs cells slots Q (F0 m pc ls (.int v :: .int i :: .ref (ad 2) :: rest)) := by
  refine va_iast hx hb hK hw.1 hw.2.1 hw.2.2 2 0 eM_2 rfl (inb_vp hi) hdg (fun H1 locs1 hP hD hS => ?_)
  subst he
  exact kk H1 locs1 ⟨hP, hD, hS⟩
theorem lM3 (hx : p.tables.exec = Jvm.exec) (hb : c.code = cc) (hK : va_K D vwCl (tysA cy) s) {s11 : OS} {x : Int32} {i : Int32} (hw : Wd D (cellsM ad cy s11) A H0 H locs) (hi : inb i 150 = true) (he : x = s11.1 13 i.toNatClampNeg) (hdg : decode cc pc = .ok (.iaload, 1)) (kk : W p l e R s m args below meth c H locs cells slots Q (F0 m (pc + 1) ls (.int x :: rest))) : W p l e R s m args below meth c H locs cells slots Q (F0 m pc ls (.int i :: .ref (ad 3) :: rest)) := by
  subst he
  exact va_iald hx hb hK hw.1 3 0 eM_3 rfl (inb_vp hi) hdg kk
theorem aM3 (hx : p.tables.exec = Jvm.exec) (hb : c.code = cc) (hK : va_K D vwCl (tysA cy) s) {s11 : OS} {t : OS} {v : Int32} {i : Int32} (hw : Wd D (cellsM ad cy s11) A H0 H locs) (hi : inb i 150 = true) (he : t = wI s11 13 i.toNatClampNeg v) (hdg : decode cc pc = .ok (.iastore, 1)) (kk : ∀ (H1 : Heap) (locs1 : List Loc), Wd D (cellsM ad cy t) A H0 H1 locs1 → W p l e R s m args below meth c H1 locs1 cells slots Q (F0 m (pc + 1) ls rest)) : W p l e R s m args below meth c H locs cells slots Q (F0 m pc ls (.int v :: .int i :: .ref (ad 3) :: rest)) := by
  refine va_iast hx hb hK hw.1 hw.2.1 hw.2.2 3 0 eM_3 rfl (inb_vp hi) hdg (fun H1 locs1 hP hD hS => ?_)
  subst he
  exact kk H1 locs1 ⟨hP, hD, hS⟩
theorem lM4 (hx : p.tables.exec = Jvm.exec) (hb : c.code = cc) (hK : va_K D vwCl (tysA cy) s) {s11 : OS} {x : Int32} {i : Int32} (hw : Wd D (cellsM ad cy s11) A H0 H locs) (hi : inb i 150 = true) (he : x = s11.1 14 i.toNatClampNeg) (hdg : decode cc pc = .ok (.iaload, 1)) (kk : W p l e R s m args below meth c H locs cells slots Q (F0 m (pc + 1) ls (.int x :: rest))) : W p l e R s m args below meth c H locs cells slots Q (F0 m pc ls (.int i :: .ref (ad 4) :: rest)) := by
  subst he
  exact va_iald hx hb hK hw.1 4 0 eM_4 rfl (inb_vp hi) hdg kk
theorem aM4 (hx : p.tables.exec = Jvm.exec) (hb : c.code = cc) (hK : va_K D vwCl (tysA cy) s) {s11 : OS} {t : OS} {v : Int32} {i : Int32} (hw : Wd D (cellsM ad cy s11) A H0 H locs) (hi : inb i 150 = true) (he : t = wI s11 14 i.toNatClampNeg v) (hdg : decode cc pc = .ok (.iastore, 1)) (kk : ∀ (H1 : Heap) (locs1 : List Loc), Wd D (cellsM ad cy t) A H0 H1 locs1 → W p l e R s m args below meth c H1 locs1 cells slots Q (F0 m (pc + 1) ls rest)) : W p l e R s m args below meth c H locs cells slots Q (F0 m pc ls (.int v :: .int i :: .ref (ad 4) :: rest)) := by
  refine va_iast hx hb hK hw.1 hw.2.1 hw.2.2 4 0 eM_4 rfl (inb_vp hi) hdg (fun H1 locs1 hP hD hS => ?_)
  subst he
  exact kk H1 locs1 ⟨hP, hD, hS⟩
theorem lM5 (hx : p.tables.exec = Jvm.exec) (hb : c.code = cc) (hK : va_K D vwCl (tysA cy) s) {s11 : OS} {x : Int32} {i : Int32} (hw : Wd D (cellsM ad cy s11) A H0 H locs) (hi : inb i 150 = true) (he : x = s11.1 15 i.toNatClampNeg) (hdg : decode cc pc = .ok (.iaload, 1)) (kk : W p l e R s m args below meth c H locs cells slots Q (F0 m (pc + 1) ls (.int x :: rest))) : W p l e R s m args below meth c H locs cells slots Q (F0 m pc ls (.int i :: .ref (ad 5) :: rest)) := by
  subst he
  exact va_iald hx hb hK hw.1 5 0 eM_5 rfl (inb_vp hi) hdg kk
theorem aM5 (hx : p.tables.exec = Jvm.exec) (hb : c.code = cc) (hK : va_K D vwCl (tysA cy) s) {s11 : OS} {t : OS} {v : Int32} {i : Int32} (hw : Wd D (cellsM ad cy s11) A H0 H locs) (hi : inb i 150 = true) (he : t = wI s11 15 i.toNatClampNeg v) (hdg : decode cc pc = .ok (.iastore, 1)) (kk : ∀ (H1 : Heap) (locs1 : List Loc), Wd D (cellsM ad cy t) A H0 H1 locs1 → W p l e R s m args below meth c H1 locs1 cells slots Q (F0 m (pc + 1) ls rest)) : W p l e R s m args below meth c H locs cells slots Q (F0 m pc ls (.int v :: .int i :: .ref (ad 5) :: rest)) := by
  refine va_iast hx hb hK hw.1 hw.2.1 hw.2.2 5 0 eM_5 rfl (inb_vp hi) hdg (fun H1 locs1 hP hD hS => ?_)
  subst he
  exact kk H1 locs1 ⟨hP, hD, hS⟩
theorem lM6 (hx : p.tables.exec = Jvm.exec) (hb : c.code = cc) (hK : va_K D vwCl (tysA cy) s) {s11 : OS} {x : Int32} {i : Int32} (hw : Wd D (cellsM ad cy s11) A H0 H locs) (hi : inb i 150 = true) (he : x = s11.1 16 i.toNatClampNeg) (hdg : decode cc pc = .ok (.iaload, 1)) (kk : W p l e R s m args below meth c H locs cells slots Q (F0 m (pc + 1) ls (.int x :: rest))) : W p l e R s m args below meth c H locs cells slots Q (F0 m pc ls (.int i :: .ref (ad 6) :: rest)) := by
  subst he
  exact va_iald hx hb hK hw.1 6 0 eM_6 rfl (inb_vp hi) hdg kk
theorem aM6 (hx : p.tables.exec = Jvm.exec) (hb : c.code = cc) (hK : va_K D vwCl (tysA cy) s) {s11 : OS} {t : OS} {v : Int32} {i : Int32} (hw : Wd D (cellsM ad cy s11) A H0 H locs) (hi : inb i 150 = true) (he : t = wI s11 16 i.toNatClampNeg v) (hdg : decode cc pc = .ok (.iastore, 1)) (kk : ∀ (H1 : Heap) (locs1 : List Loc), Wd D (cellsM ad cy t) A H0 H1 locs1 → W p l e R s m args below meth c H1 locs1 cells slots Q (F0 m (pc + 1) ls rest)) : W p l e R s m args below meth c H locs cells slots Q (F0 m pc ls (.int v :: .int i :: .ref (ad 6) :: rest)) := by
  refine va_iast hx hb hK hw.1 hw.2.1 hw.2.2 6 0 eM_6 rfl (inb_vp hi) hdg (fun H1 locs1 hP hD hS => ?_)
  subst he
  exact kk H1 locs1 ⟨hP, hD, hS⟩
theorem lM7 (hx : p.tables.exec = Jvm.exec) (hb : c.code = cc) (hK : va_K D vwCl (tysA cy) s) {s11 : OS} {x : Int32} {i : Int32} (hw : Wd D (cellsM ad cy s11) A H0 H locs) (hi : inb i 150 = true) (he : x = s11.1 17 i.toNatClampNeg) (hdg : decode cc pc = .ok (.iaload, 1)) (kk : W p l e R s m args below meth c H locs cells slots Q (F0 m (pc + 1) ls (.int x :: rest))) : W p l e R s m args below meth c H locs cells slots Q (F0 m pc ls (.int i :: .ref (ad 7) :: rest)) := by
  subst he
  exact va_iald hx hb hK hw.1 7 0 eM_7 rfl (inb_vp hi) hdg kk
theorem aM7 (hx : p.tables.exec = Jvm.exec) (hb : c.code = cc) (hK : va_K D vwCl (tysA cy) s) {s11 : OS} {t : OS} {v : Int32} {i : Int32} (hw : Wd D (cellsM ad cy s11) A H0 H locs) (hi : inb i 150 = true) (he : t = wI s11 17 i.toNatClampNeg v) (hdg : decode cc pc = .ok (.iastore, 1)) (kk : ∀ (H1 : Heap) (locs1 : List Loc), Wd D (cellsM ad cy t) A H0 H1 locs1 → W p l e R s m args below meth c H1 locs1 cells slots Q (F0 m (pc + 1) ls rest)) : W p l e R s m args below meth c H locs cells slots Q (F0 m pc ls (.int v :: .int i :: .ref (ad 7) :: rest)) := by
  refine va_iast hx hb hK hw.1 hw.2.1 hw.2.2 7 0 eM_7 rfl (inb_vp hi) hdg (fun H1 locs1 hP hD hS => ?_)
  subst he
  exact kk H1 locs1 ⟨hP, hD, hS⟩
theorem lM8 (hx : p.tables.exec = Jvm.exec) (hb : c.code = cc) (hK : va_K D vwCl (tysA cy) s) {s11 : OS} {x : Int32} {i : Int32} (hw : Wd D (cellsM ad cy s11) A H0 H locs) (hi : inb i 150 = true) (he : x = s11.1 18 i.toNatClampNeg) (hdg : decode cc pc = .ok (.iaload, 1)) (kk : W p l e R s m args below meth c H locs cells slots Q (F0 m (pc + 1) ls (.int x :: rest))) : W p l e R s m args below meth c H locs cells slots Q (F0 m pc ls (.int i :: .ref (ad 8) :: rest)) := by
  subst he
  exact va_iald hx hb hK hw.1 8 0 eM_8 rfl (inb_vp hi) hdg kk
theorem aM8 (hx : p.tables.exec = Jvm.exec) (hb : c.code = cc) (hK : va_K D vwCl (tysA cy) s) {s11 : OS} {t : OS} {v : Int32} {i : Int32} (hw : Wd D (cellsM ad cy s11) A H0 H locs) (hi : inb i 150 = true) (he : t = wI s11 18 i.toNatClampNeg v) (hdg : decode cc pc = .ok (.iastore, 1)) (kk : ∀ (H1 : Heap) (locs1 : List Loc), Wd D (cellsM ad cy t) A H0 H1 locs1 → W p l e R s m args below meth c H1 locs1 cells slots Q (F0 m (pc + 1) ls rest)) : W p l e R s m args below meth c H locs cells slots Q (F0 m pc ls (.int v :: .int i :: .ref (ad 8) :: rest)) := by
  refine va_iast hx hb hK hw.1 hw.2.1 hw.2.2 8 0 eM_8 rfl (inb_vp hi) hdg (fun H1 locs1 hP hD hS => ?_)
  subst he
  exact kk H1 locs1 ⟨hP, hD, hS⟩
theorem lM9 (hx : p.tables.exec = Jvm.exec) (hb : c.code = cc) (hK : va_K D vwCl (tysA cy) s) {s11 : OS} {x : Int32} {i : Int32} (hw : Wd D (cellsM ad cy s11) A H0 H locs) (hi : inb i 150 = true) (he : x = s11.1 19 i.toNatClampNeg) (hdg : decode cc pc = .ok (.baload, 1)) (kk : W p l e R s m args below meth c H locs cells slots Q (F0 m (pc + 1) ls (.int x :: rest))) : W p l e R s m args below meth c H locs cells slots Q (F0 m pc ls (.int i :: .ref (ad 9) :: rest)) := by
  subst he
  exact va_zald hx hb hK hw.1 9 2 eM_9 rfl (inb_vp hi) hdg kk
theorem aM9 (hx : p.tables.exec = Jvm.exec) (hb : c.code = cc) (hK : va_K D vwCl (tysA cy) s) {s11 : OS} {t : OS} {v : Int32} {i : Int32} (hw : Wd D (cellsM ad cy s11) A H0 H locs) (hi : inb i 150 = true) (he : t = wI s11 19 i.toNatClampNeg (vp_nar .boolean v)) (hdg : decode cc pc = .ok (.bastore, 1)) (kk : ∀ (H1 : Heap) (locs1 : List Loc), Wd D (cellsM ad cy t) A H0 H1 locs1 → W p l e R s m args below meth c H1 locs1 cells slots Q (F0 m (pc + 1) ls rest)) : W p l e R s m args below meth c H locs cells slots Q (F0 m pc ls (.int v :: .int i :: .ref (ad 9) :: rest)) := by
  refine va_zast hx hb hK hw.1 hw.2.1 hw.2.2 9 2 eM_9 rfl (inb_vp hi) hdg (fun H1 locs1 hP hD hS => ?_)
  subst he
  exact kk H1 locs1 ⟨hP, hD, hS⟩
theorem lM10 (hx : p.tables.exec = Jvm.exec) (hb : c.code = cc) (hK : va_K D vwCl (tysA cy) s) {s11 : OS} {x : Int32} {i : Int32} (hw : Wd D (cellsM ad cy s11) A H0 H locs) (hi : inb i 10 = true) (he : x = s11.1 20 i.toNatClampNeg) (hdg : decode cc pc = .ok (.iaload, 1)) (kk : W p l e R s m args below meth c H locs cells slots Q (F0 m (pc + 1) ls (.int x :: rest))) : W p l e R s m args below meth c H locs cells slots Q (F0 m pc ls (.int i :: .ref (ad 10) :: rest)) := by
  subst he
  exact va_iald hx hb hK hw.1 10 0 eM_10 rfl (inb_vp hi) hdg kk
theorem aM10 (hx : p.tables.exec = Jvm.exec) (hb : c.code = cc) (hK : va_K D vwCl (tysA cy) s) {s11 : OS} {t : OS} {v : Int32} {i : Int32} (hw : Wd D (cellsM ad cy s11) A H0 H locs) (hi : inb i 10 = true) (he : t = wI s11 20 i.toNatClampNeg v) (hdg : decode cc pc = .ok (.iastore, 1)) (kk : ∀ (H1 : Heap) (locs1 : List Loc), Wd D (cellsM ad cy t) A H0 H1 locs1 → W p l e R s m args below meth c H1 locs1 cells slots Q (F0 m (pc + 1) ls rest)) : W p l e R s m args below meth c H locs cells slots Q (F0 m pc ls (.int v :: .int i :: .ref (ad 10) :: rest)) := by
  refine va_iast hx hb hK hw.1 hw.2.1 hw.2.2 10 0 eM_10 rfl (inb_vp hi) hdg (fun H1 locs1 hP hD hS => ?_)
  subst he
  exact kk H1 locs1 ⟨hP, hD, hS⟩
theorem lM11 (hx : p.tables.exec = Jvm.exec) (hb : c.code = cc) (hK : va_K D vwCl (tysA cy) s) {s11 : OS} {x : Int64} {i : Int32} (hw : Wd D (cellsM ad cy s11) A H0 H locs) (hi : inb i 8 = true) (he : x = s11.2 21 i.toNatClampNeg) (hdg : decode cc pc = .ok (.laload, 1)) (kk : W p l e R s m args below meth c H locs cells slots Q (F0 m (pc + 1) ls (.long x :: rest))) : W p l e R s m args below meth c H locs cells slots Q (F0 m pc ls (.int i :: .ref (ad 11) :: rest)) := by
  subst he
  exact va_lald hx hb hK hw.1 11 1 eM_11 rfl (inb_vp hi) hdg kk
theorem aM11 (hx : p.tables.exec = Jvm.exec) (hb : c.code = cc) (hK : va_K D vwCl (tysA cy) s) {s11 : OS} {t : OS} {v : Int64} {i : Int32} (hw : Wd D (cellsM ad cy s11) A H0 H locs) (hi : inb i 8 = true) (he : t = wL s11 21 i.toNatClampNeg v) (hdg : decode cc pc = .ok (.lastore, 1)) (kk : ∀ (H1 : Heap) (locs1 : List Loc), Wd D (cellsM ad cy t) A H0 H1 locs1 → W p l e R s m args below meth c H1 locs1 cells slots Q (F0 m (pc + 1) ls rest)) : W p l e R s m args below meth c H locs cells slots Q (F0 m pc ls (.long v :: .int i :: .ref (ad 11) :: rest)) := by
  refine va_last hx hb hK hw.1 hw.2.1 hw.2.2 11 1 eM_11 rfl (inb_vp hi) hdg (fun H1 locs1 hP hD hS => ?_)
  subst he
  exact kk H1 locs1 ⟨hP, hD, hS⟩
theorem lM12 (hx : p.tables.exec = Jvm.exec) (hb : c.code = cc) (hK : va_K D vwCl (tysA cy) s) {s11 : OS} {x : Int64} {i : Int32} (hw : Wd D (cellsM ad cy s11) A H0 H locs) (hi : inb i 8 = true) (he : x = s11.2 22 i.toNatClampNeg) (hdg : decode cc pc = .ok (.laload, 1)) (kk : W p l e R s m args below meth c H locs cells slots Q (F0 m (pc + 1) ls (.long x :: rest))) : W p l e R s m args below meth c H locs cells slots Q (F0 m pc ls (.int i :: .ref (ad 12) :: rest)) := by
  subst he
  exact va_lald hx hb hK hw.1 12 1 eM_12 rfl (inb_vp hi) hdg kk
theorem aM12 (hx : p.tables.exec = Jvm.exec) (hb : c.code = cc) (hK : va_K D vwCl (tysA cy) s) {s11 : OS} {t : OS} {v : Int64} {i : Int32} (hw : Wd D (cellsM ad cy s11) A H0 H locs) (hi : inb i 8 = true) (he : t = wL s11 22 i.toNatClampNeg v) (hdg : decode cc pc = .ok (.lastore, 1)) (kk : ∀ (H1 : Heap) (locs1 : List Loc), Wd D (cellsM ad cy t) A H0 H1 locs1 → W p l e R s m args below meth c H1 locs1 cells slots Q (F0 m (pc + 1) ls rest)) : W p l e R s m args below meth c H locs cells slots Q (F0 m pc ls (.long v :: .int i :: .ref (ad 12) :: rest)) := by
  refine va_last hx hb hK hw.1 hw.2.1 hw.2.2 12 1 eM_12 rfl (inb_vp hi) hdg (fun H1 locs1 hP hD hS => ?_)
  subst he
  exact kk H1 locs1 ⟨hP, hD, hS⟩
theorem lM13 (hx : p.tables.exec = Jvm.exec) (hb : c.code = cc) (hK : va_K D vwCl (tysA cy) s) {s11 : OS} {x : Int64} {i : Int32} (hw : Wd D (cellsM ad cy s11) A H0 H locs) (hi : inb i 8 = true) (he : x = s11.2 23 i.toNatClampNeg) (hdg : decode cc pc = .ok (.laload, 1)) (kk : W p l e R s m args below meth c H locs cells slots Q (F0 m (pc + 1) ls (.long x :: rest))) : W p l e R s m args below meth c H locs cells slots Q (F0 m pc ls (.int i :: .ref (ad 13) :: rest)) := by
  subst he
  exact va_lald hx hb hK hw.1 13 1 eM_13 rfl (inb_vp hi) hdg kk
theorem aM13 (hx : p.tables.exec = Jvm.exec) (hb : c.code = cc) (hK : va_K D vwCl (tysA cy) s) {s11 : OS} {t : OS} {v : Int64} {i : Int32} (hw : Wd D (cellsM ad cy s11) A H0 H locs) (hi : inb i 8 = true) (he : t = wL s11 23 i.toNatClampNeg v) (hdg : decode cc pc = .ok (.lastore, 1)) (kk : ∀ (H1 : Heap) (locs1 : List Loc), Wd D (cellsM ad cy t) A H0 H1 locs1 → W p l e R s m args below meth c H1 locs1 cells slots Q (F0 m (pc + 1) ls rest)) : W p l e R s m args below meth c H locs cells slots Q (F0 m pc ls (.long v :: .int i :: .ref (ad 13) :: rest)) := by
  refine va_last hx hb hK hw.1 hw.2.1 hw.2.2 13 1 eM_13 rfl (inb_vp hi) hdg (fun H1 locs1 hP hD hS => ?_)
  subst he
  exact kk H1 locs1 ⟨hP, hD, hS⟩
theorem lM14 (hx : p.tables.exec = Jvm.exec) (hb : c.code = cc) (hK : va_K D vwCl (tysA cy) s) {s11 : OS} {x : Int64} {i : Int32} (hw : Wd D (cellsM ad cy s11) A H0 H locs) (hi : inb i 8 = true) (he : x = s11.2 24 i.toNatClampNeg) (hdg : decode cc pc = .ok (.laload, 1)) (kk : W p l e R s m args below meth c H locs cells slots Q (F0 m (pc + 1) ls (.long x :: rest))) : W p l e R s m args below meth c H locs cells slots Q (F0 m pc ls (.int i :: .ref (ad 14) :: rest)) := by
  subst he
  exact va_lald hx hb hK hw.1 14 1 eM_14 rfl (inb_vp hi) hdg kk
theorem aM14 (hx : p.tables.exec = Jvm.exec) (hb : c.code = cc) (hK : va_K D vwCl (tysA cy) s) {s11 : OS} {t : OS} {v : Int64} {i : Int32} (hw : Wd D (cellsM ad cy s11) A H0 H locs) (hi : inb i 8 = true) (he : t = wL s11 24 i.toNatClampNeg v) (hdg : decode cc pc = .ok (.lastore, 1)) (kk : ∀ (H1 : Heap) (locs1 : List Loc), Wd D (cellsM ad cy t) A H0 H1 locs1 → W p l e R s m args below meth c H1 locs1 cells slots Q (F0 m (pc + 1) ls rest)) : W p l e R s m args below meth c H locs cells slots Q (F0 m pc ls (.long v :: .int i :: .ref (ad 14) :: rest)) := by
  refine va_last hx hb hK hw.1 hw.2.1 hw.2.2 14 1 eM_14 rfl (inb_vp hi) hdg (fun H1 locs1 hP hD hS => ?_)
  subst he
  exact kk H1 locs1 ⟨hP, hD, hS⟩
theorem lM15 (hx : p.tables.exec = Jvm.exec) (hb : c.code = cc) (hK : va_K D vwCl (tysA cy) s) {s11 : OS} {x : Int32} {i : Int32} (hw : Wd D (cellsM ad cy s11) A H0 H locs) (hi : inb i 4800 = true) (he : x = s11.1 26 i.toNatClampNeg) (hdg : decode cc pc = .ok (.iaload, 1)) (kk : W p l e R s m args below meth c H locs cells slots Q (F0 m (pc + 1) ls (.int x :: rest))) : W p l e R s m args below meth c H locs cells slots Q (F0 m pc ls (.int i :: .ref (ad 15) :: rest)) := by
  subst he
  exact va_iald hx hb hK hw.1 15 0 eM_15 rfl (inb_vp hi) hdg kk
theorem aM15 (hx : p.tables.exec = Jvm.exec) (hb : c.code = cc) (hK : va_K D vwCl (tysA cy) s) {s11 : OS} {t : OS} {v : Int32} {i : Int32} (hw : Wd D (cellsM ad cy s11) A H0 H locs) (hi : inb i 4800 = true) (he : t = wI s11 26 i.toNatClampNeg v) (hdg : decode cc pc = .ok (.iastore, 1)) (kk : ∀ (H1 : Heap) (locs1 : List Loc), Wd D (cellsM ad cy t) A H0 H1 locs1 → W p l e R s m args below meth c H1 locs1 cells slots Q (F0 m (pc + 1) ls rest)) : W p l e R s m args below meth c H locs cells slots Q (F0 m pc ls (.int v :: .int i :: .ref (ad 15) :: rest)) := by
  refine va_iast hx hb hK hw.1 hw.2.1 hw.2.2 15 0 eM_15 rfl (inb_vp hi) hdg (fun H1 locs1 hP hD hS => ?_)
  subst he
  exact kk H1 locs1 ⟨hP, hD, hS⟩
theorem lM16 (hx : p.tables.exec = Jvm.exec) (hb : c.code = cc) (hK : va_K D vwCl (tysA cy) s) {s11 : OS} {x : Int32} {i : Int32} (hw : Wd D (cellsM ad cy s11) A H0 H locs) (hi : inb i 4800 = true) (he : x = s11.1 27 i.toNatClampNeg) (hdg : decode cc pc = .ok (.iaload, 1)) (kk : W p l e R s m args below meth c H locs cells slots Q (F0 m (pc + 1) ls (.int x :: rest))) : W p l e R s m args below meth c H locs cells slots Q (F0 m pc ls (.int i :: .ref (ad 16) :: rest)) := by
  subst he
  exact va_iald hx hb hK hw.1 16 0 eM_16 rfl (inb_vp hi) hdg kk
theorem aM16 (hx : p.tables.exec = Jvm.exec) (hb : c.code = cc) (hK : va_K D vwCl (tysA cy) s) {s11 : OS} {t : OS} {v : Int32} {i : Int32} (hw : Wd D (cellsM ad cy s11) A H0 H locs) (hi : inb i 4800 = true) (he : t = wI s11 27 i.toNatClampNeg v) (hdg : decode cc pc = .ok (.iastore, 1)) (kk : ∀ (H1 : Heap) (locs1 : List Loc), Wd D (cellsM ad cy t) A H0 H1 locs1 → W p l e R s m args below meth c H1 locs1 cells slots Q (F0 m (pc + 1) ls rest)) : W p l e R s m args below meth c H locs cells slots Q (F0 m pc ls (.int v :: .int i :: .ref (ad 16) :: rest)) := by
  refine va_iast hx hb hK hw.1 hw.2.1 hw.2.2 16 0 eM_16 rfl (inb_vp hi) hdg (fun H1 locs1 hP hD hS => ?_)
  subst he
  exact kk H1 locs1 ⟨hP, hD, hS⟩
theorem lM17 (hx : p.tables.exec = Jvm.exec) (hb : c.code = cc) (hK : va_K D vwCl (tysA cy) s) {s11 : OS} {x : Int32} {i : Int32} (hw : Wd D (cellsM ad cy s11) A H0 H locs) (hi : inb i 4800 = true) (he : x = s11.1 28 i.toNatClampNeg) (hdg : decode cc pc = .ok (.iaload, 1)) (kk : W p l e R s m args below meth c H locs cells slots Q (F0 m (pc + 1) ls (.int x :: rest))) : W p l e R s m args below meth c H locs cells slots Q (F0 m pc ls (.int i :: .ref (ad 17) :: rest)) := by
  subst he
  exact va_iald hx hb hK hw.1 17 0 eM_17 rfl (inb_vp hi) hdg kk
theorem aM17 (hx : p.tables.exec = Jvm.exec) (hb : c.code = cc) (hK : va_K D vwCl (tysA cy) s) {s11 : OS} {t : OS} {v : Int32} {i : Int32} (hw : Wd D (cellsM ad cy s11) A H0 H locs) (hi : inb i 4800 = true) (he : t = wI s11 28 i.toNatClampNeg v) (hdg : decode cc pc = .ok (.iastore, 1)) (kk : ∀ (H1 : Heap) (locs1 : List Loc), Wd D (cellsM ad cy t) A H0 H1 locs1 → W p l e R s m args below meth c H1 locs1 cells slots Q (F0 m (pc + 1) ls rest)) : W p l e R s m args below meth c H locs cells slots Q (F0 m pc ls (.int v :: .int i :: .ref (ad 17) :: rest)) := by
  refine va_iast hx hb hK hw.1 hw.2.1 hw.2.2 17 0 eM_17 rfl (inb_vp hi) hdg (fun H1 locs1 hP hD hS => ?_)
  subst he
  exact kk H1 locs1 ⟨hP, hD, hS⟩
theorem lM18 (hx : p.tables.exec = Jvm.exec) (hb : c.code = cc) (hK : va_K D vwCl (tysA cy) s) {s11 : OS} {x : Int32} {i : Int32} (hw : Wd D (cellsM ad cy s11) A H0 H locs) (hi : inb i 4800 = true) (he : x = s11.1 29 i.toNatClampNeg) (hdg : decode cc pc = .ok (.iaload, 1)) (kk : W p l e R s m args below meth c H locs cells slots Q (F0 m (pc + 1) ls (.int x :: rest))) : W p l e R s m args below meth c H locs cells slots Q (F0 m pc ls (.int i :: .ref (ad 18) :: rest)) := by
  subst he
  exact va_iald hx hb hK hw.1 18 0 eM_18 rfl (inb_vp hi) hdg kk
theorem aM18 (hx : p.tables.exec = Jvm.exec) (hb : c.code = cc) (hK : va_K D vwCl (tysA cy) s) {s11 : OS} {t : OS} {v : Int32} {i : Int32} (hw : Wd D (cellsM ad cy s11) A H0 H locs) (hi : inb i 4800 = true) (he : t = wI s11 29 i.toNatClampNeg v) (hdg : decode cc pc = .ok (.iastore, 1)) (kk : ∀ (H1 : Heap) (locs1 : List Loc), Wd D (cellsM ad cy t) A H0 H1 locs1 → W p l e R s m args below meth c H1 locs1 cells slots Q (F0 m (pc + 1) ls rest)) : W p l e R s m args below meth c H locs cells slots Q (F0 m pc ls (.int v :: .int i :: .ref (ad 18) :: rest)) := by
  refine va_iast hx hb hK hw.1 hw.2.1 hw.2.2 18 0 eM_18 rfl (inb_vp hi) hdg (fun H1 locs1 hP hD hS => ?_)
  subst he
  exact kk H1 locs1 ⟨hP, hD, hS⟩
theorem lM19 (hx : p.tables.exec = Jvm.exec) (hb : c.code = cc) (hK : va_K D vwCl (tysA cy) s) {s11 : OS} {x : Int32} {i : Int32} (hw : Wd D (cellsM ad cy s11) A H0 H locs) (hi : inb i 4800 = true) (he : x = s11.1 30 i.toNatClampNeg) (hdg : decode cc pc = .ok (.iaload, 1)) (kk : W p l e R s m args below meth c H locs cells slots Q (F0 m (pc + 1) ls (.int x :: rest))) : W p l e R s m args below meth c H locs cells slots Q (F0 m pc ls (.int i :: .ref (ad 19) :: rest)) := by
  subst he
  exact va_iald hx hb hK hw.1 19 0 eM_19 rfl (inb_vp hi) hdg kk
theorem aM19 (hx : p.tables.exec = Jvm.exec) (hb : c.code = cc) (hK : va_K D vwCl (tysA cy) s) {s11 : OS} {t : OS} {v : Int32} {i : Int32} (hw : Wd D (cellsM ad cy s11) A H0 H locs) (hi : inb i 4800 = true) (he : t = wI s11 30 i.toNatClampNeg v) (hdg : decode cc pc = .ok (.iastore, 1)) (kk : ∀ (H1 : Heap) (locs1 : List Loc), Wd D (cellsM ad cy t) A H0 H1 locs1 → W p l e R s m args below meth c H1 locs1 cells slots Q (F0 m (pc + 1) ls rest)) : W p l e R s m args below meth c H locs cells slots Q (F0 m pc ls (.int v :: .int i :: .ref (ad 19) :: rest)) := by
  refine va_iast hx hb hK hw.1 hw.2.1 hw.2.2 19 0 eM_19 rfl (inb_vp hi) hdg (fun H1 locs1 hP hD hS => ?_)
  subst he
  exact kk H1 locs1 ⟨hP, hD, hS⟩
theorem lM20 (hx : p.tables.exec = Jvm.exec) (hb : c.code = cc) (hK : va_K D vwCl (tysA cy) s) {s11 : OS} {x : Int32} {i : Int32} (hw : Wd D (cellsM ad cy s11) A H0 H locs) (hi : inb i 20 = true) (he : x = s11.1 31 i.toNatClampNeg) (hdg : decode cc pc = .ok (.iaload, 1)) (kk : W p l e R s m args below meth c H locs cells slots Q (F0 m (pc + 1) ls (.int x :: rest))) : W p l e R s m args below meth c H locs cells slots Q (F0 m pc ls (.int i :: .ref (ad 20) :: rest)) := by
  subst he
  exact va_iald hx hb hK hw.1 20 0 eM_20 rfl (inb_vp hi) hdg kk
theorem aM20 (hx : p.tables.exec = Jvm.exec) (hb : c.code = cc) (hK : va_K D vwCl (tysA cy) s) {s11 : OS} {t : OS} {v : Int32} {i : Int32} (hw : Wd D (cellsM ad cy s11) A H0 H locs) (hi : inb i 20 = true) (he : t = wI s11 31 i.toNatClampNeg v) (hdg : decode cc pc = .ok (.iastore, 1)) (kk : ∀ (H1 : Heap) (locs1 : List Loc), Wd D (cellsM ad cy t) A H0 H1 locs1 → W p l e R s m args below meth c H1 locs1 cells slots Q (F0 m (pc + 1) ls rest)) : W p l e R s m args below meth c H locs cells slots Q (F0 m pc ls (.int v :: .int i :: .ref (ad 20) :: rest)) := by
  refine va_iast hx hb hK hw.1 hw.2.1 hw.2.2 20 0 eM_20 rfl (inb_vp hi) hdg (fun H1 locs1 hP hD hS => ?_)
  subst he
  exact kk H1 locs1 ⟨hP, hD, hS⟩
theorem lM21 (hx : p.tables.exec = Jvm.exec) (hb : c.code = cc) (hK : va_K D vwCl (tysA cy) s) {s11 : OS} {x : Int32} {i : Int32} (hw : Wd D (cellsM ad cy s11) A H0 H locs) (hi : inb i 20 = true) (he : x = s11.1 32 i.toNatClampNeg) (hdg : decode cc pc = .ok (.iaload, 1)) (kk : W p l e R s m args below meth c H locs cells slots Q (F0 m (pc + 1) ls (.int x :: rest))) : W p l e R s m args below meth c H locs cells slots Q (F0 m pc ls (.int i :: .ref (ad 21) :: rest)) := by
  subst he
  exact va_iald hx hb hK hw.1 21 0 eM_21 rfl (inb_vp hi) hdg kk
theorem aM21 (hx : p.tables.exec = Jvm.exec) (hb : c.code = cc) (hK : va_K D vwCl (tysA cy) s) {s11 : OS} {t : OS} {v : Int32} {i : Int32} (hw : Wd D (cellsM ad cy s11) A H0 H locs) (hi : inb i 20 = true) (he : t = wI s11 32 i.toNatClampNeg v) (hdg : decode cc pc = .ok (.iastore, 1)) (kk : ∀ (H1 : Heap) (locs1 : List Loc), Wd D (cellsM ad cy t) A H0 H1 locs1 → W p l e R s m args below meth c H1 locs1 cells slots Q (F0 m (pc + 1) ls rest)) : W p l e R s m args below meth c H locs cells slots Q (F0 m pc ls (.int v :: .int i :: .ref (ad 21) :: rest)) := by
  refine va_iast hx hb hK hw.1 hw.2.1 hw.2.2 21 0 eM_21 rfl (inb_vp hi) hdg (fun H1 locs1 hP hD hS => ?_)
  subst he
  exact kk H1 locs1 ⟨hP, hD, hS⟩
theorem lM22 (hx : p.tables.exec = Jvm.exec) (hb : c.code = cc) (hK : va_K D vwCl (tysA cy) s) {s11 : OS} {x : Int64} {i : Int32} (hw : Wd D (cellsM ad cy s11) A H0 H locs) (hi : inb i 20 = true) (he : x = s11.2 33 i.toNatClampNeg) (hdg : decode cc pc = .ok (.laload, 1)) (kk : W p l e R s m args below meth c H locs cells slots Q (F0 m (pc + 1) ls (.long x :: rest))) : W p l e R s m args below meth c H locs cells slots Q (F0 m pc ls (.int i :: .ref (ad 22) :: rest)) := by
  subst he
  exact va_lald hx hb hK hw.1 22 1 eM_22 rfl (inb_vp hi) hdg kk
theorem aM22 (hx : p.tables.exec = Jvm.exec) (hb : c.code = cc) (hK : va_K D vwCl (tysA cy) s) {s11 : OS} {t : OS} {v : Int64} {i : Int32} (hw : Wd D (cellsM ad cy s11) A H0 H locs) (hi : inb i 20 = true) (he : t = wL s11 33 i.toNatClampNeg v) (hdg : decode cc pc = .ok (.lastore, 1)) (kk : ∀ (H1 : Heap) (locs1 : List Loc), Wd D (cellsM ad cy t) A H0 H1 locs1 → W p l e R s m args below meth c H1 locs1 cells slots Q (F0 m (pc + 1) ls rest)) : W p l e R s m args below meth c H locs cells slots Q (F0 m pc ls (.long v :: .int i :: .ref (ad 22) :: rest)) := by
  refine va_last hx hb hK hw.1 hw.2.1 hw.2.2 22 1 eM_22 rfl (inb_vp hi) hdg (fun H1 locs1 hP hD hS => ?_)
  subst he
  exact kk H1 locs1 ⟨hP, hD, hS⟩
theorem lM23 (hx : p.tables.exec = Jvm.exec) (hb : c.code = cc) (hK : va_K D vwCl (tysA cy) s) {s11 : OS} {x : Int32} {i : Int32} (hw : Wd D (cellsM ad cy s11) A H0 H locs) (hi : inb i 20 = true) (he : x = s11.1 34 i.toNatClampNeg) (hdg : decode cc pc = .ok (.iaload, 1)) (kk : W p l e R s m args below meth c H locs cells slots Q (F0 m (pc + 1) ls (.int x :: rest))) : W p l e R s m args below meth c H locs cells slots Q (F0 m pc ls (.int i :: .ref (ad 23) :: rest)) := by
  subst he
  exact va_iald hx hb hK hw.1 23 0 eM_23 rfl (inb_vp hi) hdg kk
theorem aM23 (hx : p.tables.exec = Jvm.exec) (hb : c.code = cc) (hK : va_K D vwCl (tysA cy) s) {s11 : OS} {t : OS} {v : Int32} {i : Int32} (hw : Wd D (cellsM ad cy s11) A H0 H locs) (hi : inb i 20 = true) (he : t = wI s11 34 i.toNatClampNeg v) (hdg : decode cc pc = .ok (.iastore, 1)) (kk : ∀ (H1 : Heap) (locs1 : List Loc), Wd D (cellsM ad cy t) A H0 H1 locs1 → W p l e R s m args below meth c H1 locs1 cells slots Q (F0 m (pc + 1) ls rest)) : W p l e R s m args below meth c H locs cells slots Q (F0 m pc ls (.int v :: .int i :: .ref (ad 23) :: rest)) := by
  refine va_iast hx hb hK hw.1 hw.2.1 hw.2.2 23 0 eM_23 rfl (inb_vp hi) hdg (fun H1 locs1 hP hD hS => ?_)
  subst he
  exact kk H1 locs1 ⟨hP, hD, hS⟩
theorem lM24 (hx : p.tables.exec = Jvm.exec) (hb : c.code = cc) (hK : va_K D vwCl (tysA cy) s) {s11 : OS} {x : Int32} {i : Int32} (hw : Wd D (cellsM ad cy s11) A H0 H locs) (hi : inb i 20 = true) (he : x = s11.1 35 i.toNatClampNeg) (hdg : decode cc pc = .ok (.iaload, 1)) (kk : W p l e R s m args below meth c H locs cells slots Q (F0 m (pc + 1) ls (.int x :: rest))) : W p l e R s m args below meth c H locs cells slots Q (F0 m pc ls (.int i :: .ref (ad 24) :: rest)) := by
  subst he
  exact va_iald hx hb hK hw.1 24 0 eM_24 rfl (inb_vp hi) hdg kk
theorem aM24 (hx : p.tables.exec = Jvm.exec) (hb : c.code = cc) (hK : va_K D vwCl (tysA cy) s) {s11 : OS} {t : OS} {v : Int32} {i : Int32} (hw : Wd D (cellsM ad cy s11) A H0 H locs) (hi : inb i 20 = true) (he : t = wI s11 35 i.toNatClampNeg v) (hdg : decode cc pc = .ok (.iastore, 1)) (kk : ∀ (H1 : Heap) (locs1 : List Loc), Wd D (cellsM ad cy t) A H0 H1 locs1 → W p l e R s m args below meth c H1 locs1 cells slots Q (F0 m (pc + 1) ls rest)) : W p l e R s m args below meth c H locs cells slots Q (F0 m pc ls (.int v :: .int i :: .ref (ad 24) :: rest)) := by
  refine va_iast hx hb hK hw.1 hw.2.1 hw.2.2 24 0 eM_24 rfl (inb_vp hi) hdg (fun H1 locs1 hP hD hS => ?_)
  subst he
  exact kk H1 locs1 ⟨hP, hD, hS⟩
theorem lM25 (hx : p.tables.exec = Jvm.exec) (hb : c.code = cc) (hK : va_K D vwCl (tysA cy) s) {s11 : OS} {x : Int32} {i : Int32} (hw : Wd D (cellsM ad cy s11) A H0 H locs) (hi : inb i 20 = true) (he : x = s11.1 36 i.toNatClampNeg) (hdg : decode cc pc = .ok (.iaload, 1)) (kk : W p l e R s m args below meth c H locs cells slots Q (F0 m (pc + 1) ls (.int x :: rest))) : W p l e R s m args below meth c H locs cells slots Q (F0 m pc ls (.int i :: .ref (ad 25) :: rest)) := by
  subst he
  exact va_iald hx hb hK hw.1 25 0 eM_25 rfl (inb_vp hi) hdg kk
theorem aM25 (hx : p.tables.exec = Jvm.exec) (hb : c.code = cc) (hK : va_K D vwCl (tysA cy) s) {s11 : OS} {t : OS} {v : Int32} {i : Int32} (hw : Wd D (cellsM ad cy s11) A H0 H locs) (hi : inb i 20 = true) (he : t = wI s11 36 i.toNatClampNeg v) (hdg : decode cc pc = .ok (.iastore, 1)) (kk : ∀ (H1 : Heap) (locs1 : List Loc), Wd D (cellsM ad cy t) A H0 H1 locs1 → W p l e R s m args below meth c H1 locs1 cells slots Q (F0 m (pc + 1) ls rest)) : W p l e R s m args below meth c H locs cells slots Q (F0 m pc ls (.int v :: .int i :: .ref (ad 25) :: rest)) := by
  refine va_iast hx hb hK hw.1 hw.2.1 hw.2.2 25 0 eM_25 rfl (inb_vp hi) hdg (fun H1 locs1 hP hD hS => ?_)
  subst he
  exact kk H1 locs1 ⟨hP, hD, hS⟩
theorem lM26 (hx : p.tables.exec = Jvm.exec) (hb : c.code = cc) (hK : va_K D vwCl (tysA cy) s) {s11 : OS} {x : Int32} {i : Int32} (hw : Wd D (cellsM ad cy s11) A H0 H locs) (hi : inb i 240 = true) (he : x = s11.1 37 i.toNatClampNeg) (hdg : decode cc pc = .ok (.iaload, 1)) (kk : W p l e R s m args below meth c H locs cells slots Q (F0 m (pc + 1) ls (.int x :: rest))) : W p l e R s m args below meth c H locs cells slots Q (F0 m pc ls (.int i :: .ref (ad 26) :: rest)) := by
  subst he
  exact va_iald hx hb hK hw.1 26 0 eM_26 rfl (inb_vp hi) hdg kk
theorem aM26 (hx : p.tables.exec = Jvm.exec) (hb : c.code = cc) (hK : va_K D vwCl (tysA cy) s) {s11 : OS} {t : OS} {v : Int32} {i : Int32} (hw : Wd D (cellsM ad cy s11) A H0 H locs) (hi : inb i 240 = true) (he : t = wI s11 37 i.toNatClampNeg v) (hdg : decode cc pc = .ok (.iastore, 1)) (kk : ∀ (H1 : Heap) (locs1 : List Loc), Wd D (cellsM ad cy t) A H0 H1 locs1 → W p l e R s m args below meth c H1 locs1 cells slots Q (F0 m (pc + 1) ls rest)) : W p l e R s m args below meth c H locs cells slots Q (F0 m pc ls (.int v :: .int i :: .ref (ad 26) :: rest)) := by
  refine va_iast hx hb hK hw.1 hw.2.1 hw.2.2 26 0 eM_26 rfl (inb_vp hi) hdg (fun H1 locs1 hP hD hS => ?_)
  subst he
  exact kk H1 locs1 ⟨hP, hD, hS⟩
theorem lM27 (hx : p.tables.exec = Jvm.exec) (hb : c.code = cc) (hK : va_K D vwCl (tysA cy) s) {s11 : OS} {x : Int32} {i : Int32} (hw : Wd D (cellsM ad cy s11) A H0 H locs) (hi : inb i 240 = true) (he : x = s11.1 38 i.toNatClampNeg) (hdg : decode cc pc = .ok (.iaload, 1)) (kk : W p l e R s m args below meth c H locs cells slots Q (F0 m (pc + 1) ls (.int x :: rest))) : W p l e R s m args below meth c H locs cells slots Q (F0 m pc ls (.int i :: .ref (ad 27) :: rest)) := by
  subst he
  exact va_iald hx hb hK hw.1 27 0 eM_27 rfl (inb_vp hi) hdg kk
theorem aM27 (hx : p.tables.exec = Jvm.exec) (hb : c.code = cc) (hK : va_K D vwCl (tysA cy) s) {s11 : OS} {t : OS} {v : Int32} {i : Int32} (hw : Wd D (cellsM ad cy s11) A H0 H locs) (hi : inb i 240 = true) (he : t = wI s11 38 i.toNatClampNeg v) (hdg : decode cc pc = .ok (.iastore, 1)) (kk : ∀ (H1 : Heap) (locs1 : List Loc), Wd D (cellsM ad cy t) A H0 H1 locs1 → W p l e R s m args below meth c H1 locs1 cells slots Q (F0 m (pc + 1) ls rest)) : W p l e R s m args below meth c H locs cells slots Q (F0 m pc ls (.int v :: .int i :: .ref (ad 27) :: rest)) := by
  refine va_iast hx hb hK hw.1 hw.2.1 hw.2.2 27 0 eM_27 rfl (inb_vp hi) hdg (fun H1 locs1 hP hD hS => ?_)
  subst he
  exact kk H1 locs1 ⟨hP, hD, hS⟩
theorem lM28 (hx : p.tables.exec = Jvm.exec) (hb : c.code = cc) (hK : va_K D vwCl (tysA cy) s) {s11 : OS} {x : Int32} {i : Int32} (hw : Wd D (cellsM ad cy s11) A H0 H locs) (hi : inb i 240 = true) (he : x = s11.1 39 i.toNatClampNeg) (hdg : decode cc pc = .ok (.iaload, 1)) (kk : W p l e R s m args below meth c H locs cells slots Q (F0 m (pc + 1) ls (.int x :: rest))) : W p l e R s m args below meth c H locs cells slots Q (F0 m pc ls (.int i :: .ref (ad 28) :: rest)) := by
  subst he
  exact va_iald hx hb hK hw.1 28 0 eM_28 rfl (inb_vp hi) hdg kk
theorem aM28 (hx : p.tables.exec = Jvm.exec) (hb : c.code = cc) (hK : va_K D vwCl (tysA cy) s) {s11 : OS} {t : OS} {v : Int32} {i : Int32} (hw : Wd D (cellsM ad cy s11) A H0 H locs) (hi : inb i 240 = true) (he : t = wI s11 39 i.toNatClampNeg v) (hdg : decode cc pc = .ok (.iastore, 1)) (kk : ∀ (H1 : Heap) (locs1 : List Loc), Wd D (cellsM ad cy t) A H0 H1 locs1 → W p l e R s m args below meth c H1 locs1 cells slots Q (F0 m (pc + 1) ls rest)) : W p l e R s m args below meth c H locs cells slots Q (F0 m pc ls (.int v :: .int i :: .ref (ad 28) :: rest)) := by
  refine va_iast hx hb hK hw.1 hw.2.1 hw.2.2 28 0 eM_28 rfl (inb_vp hi) hdg (fun H1 locs1 hP hD hS => ?_)
  subst he
  exact kk H1 locs1 ⟨hP, hD, hS⟩
theorem lM29 (hx : p.tables.exec = Jvm.exec) (hb : c.code = cc) (hK : va_K D vwCl (tysA cy) s) {s11 : OS} {x : Int32} {i : Int32} (hw : Wd D (cellsM ad cy s11) A H0 H locs) (hi : inb i 240 = true) (he : x = s11.1 40 i.toNatClampNeg) (hdg : decode cc pc = .ok (.iaload, 1)) (kk : W p l e R s m args below meth c H locs cells slots Q (F0 m (pc + 1) ls (.int x :: rest))) : W p l e R s m args below meth c H locs cells slots Q (F0 m pc ls (.int i :: .ref (ad 29) :: rest)) := by
  subst he
  exact va_iald hx hb hK hw.1 29 0 eM_29 rfl (inb_vp hi) hdg kk
theorem aM29 (hx : p.tables.exec = Jvm.exec) (hb : c.code = cc) (hK : va_K D vwCl (tysA cy) s) {s11 : OS} {t : OS} {v : Int32} {i : Int32} (hw : Wd D (cellsM ad cy s11) A H0 H locs) (hi : inb i 240 = true) (he : t = wI s11 40 i.toNatClampNeg v) (hdg : decode cc pc = .ok (.iastore, 1)) (kk : ∀ (H1 : Heap) (locs1 : List Loc), Wd D (cellsM ad cy t) A H0 H1 locs1 → W p l e R s m args below meth c H1 locs1 cells slots Q (F0 m (pc + 1) ls rest)) : W p l e R s m args below meth c H locs cells slots Q (F0 m pc ls (.int v :: .int i :: .ref (ad 29) :: rest)) := by
  refine va_iast hx hb hK hw.1 hw.2.1 hw.2.2 29 0 eM_29 rfl (inb_vp hi) hdg (fun H1 locs1 hP hD hS => ?_)
  subst he
  exact kk H1 locs1 ⟨hP, hD, hS⟩
theorem lM30 (hx : p.tables.exec = Jvm.exec) (hb : c.code = cc) (hK : va_K D vwCl (tysA cy) s) {s11 : OS} {x : Int32} {i : Int32} (hw : Wd D (cellsM ad cy s11) A H0 H locs) (hi : inb i 240 = true) (he : x = s11.1 41 i.toNatClampNeg) (hdg : decode cc pc = .ok (.iaload, 1)) (kk : W p l e R s m args below meth c H locs cells slots Q (F0 m (pc + 1) ls (.int x :: rest))) : W p l e R s m args below meth c H locs cells slots Q (F0 m pc ls (.int i :: .ref (ad 30) :: rest)) := by
  subst he
  exact va_iald hx hb hK hw.1 30 0 eM_30 rfl (inb_vp hi) hdg kk
theorem aM30 (hx : p.tables.exec = Jvm.exec) (hb : c.code = cc) (hK : va_K D vwCl (tysA cy) s) {s11 : OS} {t : OS} {v : Int32} {i : Int32} (hw : Wd D (cellsM ad cy s11) A H0 H locs) (hi : inb i 240 = true) (he : t = wI s11 41 i.toNatClampNeg v) (hdg : decode cc pc = .ok (.iastore, 1)) (kk : ∀ (H1 : Heap) (locs1 : List Loc), Wd D (cellsM ad cy t) A H0 H1 locs1 → W p l e R s m args below meth c H1 locs1 cells slots Q (F0 m (pc + 1) ls rest)) : W p l e R s m args below meth c H locs cells slots Q (F0 m pc ls (.int v :: .int i :: .ref (ad 30) :: rest)) := by
  refine va_iast hx hb hK hw.1 hw.2.1 hw.2.2 30 0 eM_30 rfl (inb_vp hi) hdg (fun H1 locs1 hP hD hS => ?_)
  subst he
  exact kk H1 locs1 ⟨hP, hD, hS⟩
theorem lM31 (hx : p.tables.exec = Jvm.exec) (hb : c.code = cc) (hK : va_K D vwCl (tysA cy) s) {s11 : OS} {x : Int32} {i : Int32} (hw : Wd D (cellsM ad cy s11) A H0 H locs) (hi : inb i 3200 = true) (he : x = s11.1 42 i.toNatClampNeg) (hdg : decode cc pc = .ok (.iaload, 1)) (kk : W p l e R s m args below meth c H locs cells slots Q (F0 m (pc + 1) ls (.int x :: rest))) : W p l e R s m args below meth c H locs cells slots Q (F0 m pc ls (.int i :: .ref (ad 31) :: rest)) := by
  subst he
  exact va_iald hx hb hK hw.1 31 0 eM_31 rfl (inb_vp hi) hdg kk
theorem aM31 (hx : p.tables.exec = Jvm.exec) (hb : c.code = cc) (hK : va_K D vwCl (tysA cy) s) {s11 : OS} {t : OS} {v : Int32} {i : Int32} (hw : Wd D (cellsM ad cy s11) A H0 H locs) (hi : inb i 3200 = true) (he : t = wI s11 42 i.toNatClampNeg v) (hdg : decode cc pc = .ok (.iastore, 1)) (kk : ∀ (H1 : Heap) (locs1 : List Loc), Wd D (cellsM ad cy t) A H0 H1 locs1 → W p l e R s m args below meth c H1 locs1 cells slots Q (F0 m (pc + 1) ls rest)) : W p l e R s m args below meth c H locs cells slots Q (F0 m pc ls (.int v :: .int i :: .ref (ad 31) :: rest)) := by
  refine va_iast hx hb hK hw.1 hw.2.1 hw.2.2 31 0 eM_31 rfl (inb_vp hi) hdg (fun H1 locs1 hP hD hS => ?_)
  subst he
  exact kk H1 locs1 ⟨hP, hD, hS⟩
theorem lM32 (hx : p.tables.exec = Jvm.exec) (hb : c.code = cc) (hK : va_K D vwCl (tysA cy) s) {s11 : OS} {x : Int32} {i : Int32} (hw : Wd D (cellsM ad cy s11) A H0 H locs) (hi : inb i 3200 = true) (he : x = s11.1 43 i.toNatClampNeg) (hdg : decode cc pc = .ok (.iaload, 1)) (kk : W p l e R s m args below meth c H locs cells slots Q (F0 m (pc + 1) ls (.int x :: rest))) : W p l e R s m args below meth c H locs cells slots Q (F0 m pc ls (.int i :: .ref (ad 32) :: rest)) := by
  subst he
  exact va_iald hx hb hK hw.1 32 0 eM_32 rfl (inb_vp hi) hdg kk
theorem aM32 (hx : p.tables.exec = Jvm.exec) (hb : c.code = cc) (hK : va_K D vwCl (tysA cy) s) {s11 : OS} {t : OS} {v : Int32} {i : Int32} (hw : Wd D (cellsM ad cy s11) A H0 H locs) (hi : inb i 3200 = true) (he : t = wI s11 43 i.toNatClampNeg v) (hdg : decode cc pc = .ok (.iastore, 1)) (kk : ∀ (H1 : Heap) (locs1 : List Loc), Wd D (cellsM ad cy t) A H0 H1 locs1 → W p l e R s m args below meth c H1 locs1 cells slots Q (F0 m (pc + 1) ls rest)) : W p l e R s m args below meth c H locs cells slots Q (F0 m pc ls (.int v :: .int i :: .ref (ad 32) :: rest)) := by
  refine va_iast hx hb hK hw.1 hw.2.1 hw.2.2 32 0 eM_32 rfl (inb_vp hi) hdg (fun H1 locs1 hP hD hS => ?_)
  subst he
  exact kk H1 locs1 ⟨hP, hD, hS⟩
theorem lM33 (hx : p.tables.exec = Jvm.exec) (hb : c.code = cc) (hK : va_K D vwCl (tysA cy) s) {s11 : OS} {x : Int32} {i : Int32} (hw : Wd D (cellsM ad cy s11) A H0 H locs) (hi : inb i 200 = true) (he : x = s11.1 53 i.toNatClampNeg) (hdg : decode cc pc = .ok (.iaload, 1)) (kk : W p l e R s m args below meth c H locs cells slots Q (F0 m (pc + 1) ls (.int x :: rest))) : W p l e R s m args below meth c H locs cells slots Q (F0 m pc ls (.int i :: .ref (ad 33) :: rest)) := by
  subst he
  exact va_iald hx hb hK hw.1 33 0 eM_33 rfl (inb_vp hi) hdg kk
theorem aM33 (hx : p.tables.exec = Jvm.exec) (hb : c.code = cc) (hK : va_K D vwCl (tysA cy) s) {s11 : OS} {t : OS} {v : Int32} {i : Int32} (hw : Wd D (cellsM ad cy s11) A H0 H locs) (hi : inb i 200 = true) (he : t = wI s11 53 i.toNatClampNeg v) (hdg : decode cc pc = .ok (.iastore, 1)) (kk : ∀ (H1 : Heap) (locs1 : List Loc), Wd D (cellsM ad cy t) A H0 H1 locs1 → W p l e R s m args below meth c H1 locs1 cells slots Q (F0 m (pc + 1) ls rest)) : W p l e R s m args below meth c H locs cells slots Q (F0 m pc ls (.int v :: .int i :: .ref (ad 33) :: rest)) := by
  refine va_iast hx hb hK hw.1 hw.2.1 hw.2.2 33 0 eM_33 rfl (inb_vp hi) hdg (fun H1 locs1 hP hD hS => ?_)
  subst he
  exact kk H1 locs1 ⟨hP, hD, hS⟩
theorem lM34 (hx : p.tables.exec = Jvm.exec) (hb : c.code = cc) (hK : va_K D vwCl (tysA cy) s) {s11 : OS} {x : Int64} {i : Int32} (hw : Wd D (cellsM ad cy s11) A H0 H locs) (hi : inb i 200 = true) (he : x = s11.2 56 i.toNatClampNeg) (hdg : decode cc pc = .ok (.laload, 1)) (kk : W p l e R s m args below meth c H locs cells slots Q (F0 m (pc + 1) ls (.long x :: rest))) : W p l e R s m args below meth c H locs cells slots Q (F0 m pc ls (.int i :: .ref (ad 34) :: rest)) := by
  subst he
  exact va_lald hx hb hK hw.1 34 1 eM_34 rfl (inb_vp hi) hdg kk
theorem aM34 (hx : p.tables.exec = Jvm.exec) (hb : c.code = cc) (hK : va_K D vwCl (tysA cy) s) {s11 : OS} {t : OS} {v : Int64} {i : Int32} (hw : Wd D (cellsM ad cy s11) A H0 H locs) (hi : inb i 200 = true) (he : t = wL s11 56 i.toNatClampNeg v) (hdg : decode cc pc = .ok (.lastore, 1)) (kk : ∀ (H1 : Heap) (locs1 : List Loc), Wd D (cellsM ad cy t) A H0 H1 locs1 → W p l e R s m args below meth c H1 locs1 cells slots Q (F0 m (pc + 1) ls rest)) : W p l e R s m args below meth c H locs cells slots Q (F0 m pc ls (.long v :: .int i :: .ref (ad 34) :: rest)) := by
  refine va_last hx hb hK hw.1 hw.2.1 hw.2.2 34 1 eM_34 rfl (inb_vp hi) hdg (fun H1 locs1 hP hD hS => ?_)
  subst he
  exact kk H1 locs1 ⟨hP, hD, hS⟩
theorem lM35 (hx : p.tables.exec = Jvm.exec) (hb : c.code = cc) (hK : va_K D vwCl (tysA cy) s) {s11 : OS} {x : Int32} {i : Int32} (hw : Wd D (cellsM ad cy s11) A H0 H locs) (hi : inb i 200 = true) (he : x = s11.1 57 i.toNatClampNeg) (hdg : decode cc pc = .ok (.baload, 1)) (kk : W p l e R s m args below meth c H locs cells slots Q (F0 m (pc + 1) ls (.int x :: rest))) : W p l e R s m args below meth c H locs cells slots Q (F0 m pc ls (.int i :: .ref (ad 35) :: rest)) := by
  subst he
  exact va_zald hx hb hK hw.1 35 2 eM_35 rfl (inb_vp hi) hdg kk
theorem aM35 (hx : p.tables.exec = Jvm.exec) (hb : c.code = cc) (hK : va_K D vwCl (tysA cy) s) {s11 : OS} {t : OS} {v : Int32} {i : Int32} (hw : Wd D (cellsM ad cy s11) A H0 H locs) (hi : inb i 200 = true) (he : t = wI s11 57 i.toNatClampNeg (vp_nar .boolean v)) (hdg : decode cc pc = .ok (.bastore, 1)) (kk : ∀ (H1 : Heap) (locs1 : List Loc), Wd D (cellsM ad cy t) A H0 H1 locs1 → W p l e R s m args below meth c H1 locs1 cells slots Q (F0 m (pc + 1) ls rest)) : W p l e R s m args below meth c H locs cells slots Q (F0 m pc ls (.int v :: .int i :: .ref (ad 35) :: rest)) := by
  refine va_zast hx hb hK hw.1 hw.2.1 hw.2.2 35 2 eM_35 rfl (inb_vp hi) hdg (fun H1 locs1 hP hD hS => ?_)
  subst he
  exact kk H1 locs1 ⟨hP, hD, hS⟩
theorem lM36 (hx : p.tables.exec = Jvm.exec) (hb : c.code = cc) (hK : va_K D vwCl (tysA cy) s) {s11 : OS} {x : Int32} {i : Int32} (hw : Wd D (cellsM ad cy s11) A H0 H locs) (hi : inb i 240 = true) (he : x = s11.1 58 i.toNatClampNeg) (hdg : decode cc pc = .ok (.baload, 1)) (kk : W p l e R s m args below meth c H locs cells slots Q (F0 m (pc + 1) ls (.int x :: rest))) : W p l e R s m args below meth c H locs cells slots Q (F0 m pc ls (.int i :: .ref (ad 36) :: rest)) := by
  subst he
  exact va_zald hx hb hK hw.1 36 2 eM_36 rfl (inb_vp hi) hdg kk
theorem aM36 (hx : p.tables.exec = Jvm.exec) (hb : c.code = cc) (hK : va_K D vwCl (tysA cy) s) {s11 : OS} {t : OS} {v : Int32} {i : Int32} (hw : Wd D (cellsM ad cy s11) A H0 H locs) (hi : inb i 240 = true) (he : t = wI s11 58 i.toNatClampNeg (vp_nar .boolean v)) (hdg : decode cc pc = .ok (.bastore, 1)) (kk : ∀ (H1 : Heap) (locs1 : List Loc), Wd D (cellsM ad cy t) A H0 H1 locs1 → W p l e R s m args below meth c H1 locs1 cells slots Q (F0 m (pc + 1) ls rest)) : W p l e R s m args below meth c H locs cells slots Q (F0 m pc ls (.int v :: .int i :: .ref (ad 36) :: rest)) := by
  refine va_zast hx hb hK hw.1 hw.2.1 hw.2.2 36 2 eM_36 rfl (inb_vp hi) hdg (fun H1 locs1 hP hD hS => ?_)
  subst he
  exact kk H1 locs1 ⟨hP, hD, hS⟩
theorem lM37 (hx : p.tables.exec = Jvm.exec) (hb : c.code = cc) (hK : va_K D vwCl (tysA cy) s) {s11 : OS} {x : Int32} {i : Int32} (hw : Wd D (cellsM ad cy s11) A H0 H locs) (hi : inb i 100 = true) (he : x = s11.1 59 i.toNatClampNeg) (hdg : decode cc pc = .ok (.iaload, 1)) (kk : W p l e R s m args below meth c H locs cells slots Q (F0 m (pc + 1) ls (.int x :: rest))) : W p l e R s m args below meth c H locs cells slots Q (F0 m pc ls (.int i :: .ref (ad 37) :: rest)) := by
  subst he
  exact va_iald hx hb hK hw.1 37 0 eM_37 rfl (inb_vp hi) hdg kk
theorem aM37 (hx : p.tables.exec = Jvm.exec) (hb : c.code = cc) (hK : va_K D vwCl (tysA cy) s) {s11 : OS} {t : OS} {v : Int32} {i : Int32} (hw : Wd D (cellsM ad cy s11) A H0 H locs) (hi : inb i 100 = true) (he : t = wI s11 59 i.toNatClampNeg v) (hdg : decode cc pc = .ok (.iastore, 1)) (kk : ∀ (H1 : Heap) (locs1 : List Loc), Wd D (cellsM ad cy t) A H0 H1 locs1 → W p l e R s m args below meth c H1 locs1 cells slots Q (F0 m (pc + 1) ls rest)) : W p l e R s m args below meth c H locs cells slots Q (F0 m pc ls (.int v :: .int i :: .ref (ad 37) :: rest)) := by
  refine va_iast hx hb hK hw.1 hw.2.1 hw.2.2 37 0 eM_37 rfl (inb_vp hi) hdg (fun H1 locs1 hP hD hS => ?_)
  subst he
  exact kk H1 locs1 ⟨hP, hD, hS⟩
theorem lM38 (hx : p.tables.exec = Jvm.exec) (hb : c.code = cc) (hK : va_K D vwCl (tysA cy) s) {s11 : OS} {x : Int32} {i : Int32} (hw : Wd D (cellsM ad cy s11) A H0 H locs) (hi : inb i 100 = true) (he : x = s11.1 60 i.toNatClampNeg) (hdg : decode cc pc = .ok (.iaload, 1)) (kk : W p l e R s m args below meth c H locs cells slots Q (F0 m (pc + 1) ls (.int x :: rest))) : W p l e R s m args below meth c H locs cells slots Q (F0 m pc ls (.int i :: .ref (ad 38) :: rest)) := by
  subst he
  exact va_iald hx hb hK hw.1 38 0 eM_38 rfl (inb_vp hi) hdg kk
theorem aM38 (hx : p.tables.exec = Jvm.exec) (hb : c.code = cc) (hK : va_K D vwCl (tysA cy) s) {s11 : OS} {t : OS} {v : Int32} {i : Int32} (hw : Wd D (cellsM ad cy s11) A H0 H locs) (hi : inb i 100 = true) (he : t = wI s11 60 i.toNatClampNeg v) (hdg : decode cc pc = .ok (.iastore, 1)) (kk : ∀ (H1 : Heap) (locs1 : List Loc), Wd D (cellsM ad cy t) A H0 H1 locs1 → W p l e R s m args below meth c H1 locs1 cells slots Q (F0 m (pc + 1) ls rest)) : W p l e R s m args below meth c H locs cells slots Q (F0 m pc ls (.int v :: .int i :: .ref (ad 38) :: rest)) := by
  refine va_iast hx hb hK hw.1 hw.2.1 hw.2.2 38 0 eM_38 rfl (inb_vp hi) hdg (fun H1 locs1 hP hD hS => ?_)
  subst he
  exact kk H1 locs1 ⟨hP, hD, hS⟩
theorem lM39 (hx : p.tables.exec = Jvm.exec) (hb : c.code = cc) (hK : va_K D vwCl (tysA cy) s) {s11 : OS} {x : Int32} {i : Int32} (hw : Wd D (cellsM ad cy s11) A H0 H locs) (hi : inb i 100 = true) (he : x = s11.1 61 i.toNatClampNeg) (hdg : decode cc pc = .ok (.iaload, 1)) (kk : W p l e R s m args below meth c H locs cells slots Q (F0 m (pc + 1) ls (.int x :: rest))) : W p l e R s m args below meth c H locs cells slots Q (F0 m pc ls (.int i :: .ref (ad 39) :: rest)) := by
  subst he
  exact va_iald hx hb hK hw.1 39 0 eM_39 rfl (inb_vp hi) hdg kk
theorem aM39 (hx : p.tables.exec = Jvm.exec) (hb : c.code = cc) (hK : va_K D vwCl (tysA cy) s) {s11 : OS} {t : OS} {v : Int32} {i : Int32} (hw : Wd D (cellsM ad cy s11) A H0 H locs) (hi : inb i 100 = true) (he : t = wI s11 61 i.toNatClampNeg v) (hdg : decode cc pc = .ok (.iastore, 1)) (kk : ∀ (H1 : Heap) (locs1 : List Loc), Wd D (cellsM ad cy t) A H0 H1 locs1 → W p l e R s m args below meth c H1 locs1 cells slots Q (F0 m (pc + 1) ls rest)) : W p l e R s m args below meth c H locs cells slots Q (F0 m pc ls (.int v :: .int i :: .ref (ad 39) :: rest)) := by
  refine va_iast hx hb hK hw.1 hw.2.1 hw.2.2 39 0 eM_39 rfl (inb_vp hi) hdg (fun H1 locs1 hP hD hS => ?_)
  subst he
  exact kk H1 locs1 ⟨hP, hD, hS⟩
theorem lM40 (hx : p.tables.exec = Jvm.exec) (hb : c.code = cc) (hK : va_K D vwCl (tysA cy) s) {s11 : OS} {x : Int32} {i : Int32} (hw : Wd D (cellsM ad cy s11) A H0 H locs) (hi : inb i 100 = true) (he : x = s11.1 62 i.toNatClampNeg) (hdg : decode cc pc = .ok (.iaload, 1)) (kk : W p l e R s m args below meth c H locs cells slots Q (F0 m (pc + 1) ls (.int x :: rest))) : W p l e R s m args below meth c H locs cells slots Q (F0 m pc ls (.int i :: .ref (ad 40) :: rest)) := by
  subst he
  exact va_iald hx hb hK hw.1 40 0 eM_40 rfl (inb_vp hi) hdg kk
theorem aM40 (hx : p.tables.exec = Jvm.exec) (hb : c.code = cc) (hK : va_K D vwCl (tysA cy) s) {s11 : OS} {t : OS} {v : Int32} {i : Int32} (hw : Wd D (cellsM ad cy s11) A H0 H locs) (hi : inb i 100 = true) (he : t = wI s11 62 i.toNatClampNeg v) (hdg : decode cc pc = .ok (.iastore, 1)) (kk : ∀ (H1 : Heap) (locs1 : List Loc), Wd D (cellsM ad cy t) A H0 H1 locs1 → W p l e R s m args below meth c H1 locs1 cells slots Q (F0 m (pc + 1) ls rest)) : W p l e R s m args below meth c H locs cells slots Q (F0 m pc ls (.int v :: .int i :: .ref (ad 40) :: rest)) := by
  refine va_iast hx hb hK hw.1 hw.2.1 hw.2.2 40 0 eM_40 rfl (inb_vp hi) hdg (fun H1 locs1 hP hD hS => ?_)
  subst he
  exact kk H1 locs1 ⟨hP, hD, hS⟩
theorem lM41 (hx : p.tables.exec = Jvm.exec) (hb : c.code = cc) (hK : va_K D vwCl (tysA cy) s) {s11 : OS} {x : Int32} {i : Int32} (hw : Wd D (cellsM ad cy s11) A H0 H locs) (hi : inb i 100 = true) (he : x = s11.1 63 i.toNatClampNeg) (hdg : decode cc pc = .ok (.iaload, 1)) (kk : W p l e R s m args below meth c H locs cells slots Q (F0 m (pc + 1) ls (.int x :: rest))) : W p l e R s m args below meth c H locs cells slots Q (F0 m pc ls (.int i :: .ref (ad 41) :: rest)) := by
  subst he
  exact va_iald hx hb hK hw.1 41 0 eM_41 rfl (inb_vp hi) hdg kk
theorem aM41 (hx : p.tables.exec = Jvm.exec) (hb : c.code = cc) (hK : va_K D vwCl (tysA cy) s) {s11 : OS} {t : OS} {v : Int32} {i : Int32} (hw : Wd D (cellsM ad cy s11) A H0 H locs) (hi : inb i 100 = true) (he : t = wI s11 63 i.toNatClampNeg v) (hdg : decode cc pc = .ok (.iastore, 1)) (kk : ∀ (H1 : Heap) (locs1 : List Loc), Wd D (cellsM ad cy t) A H0 H1 locs1 → W p l e R s m args below meth c H1 locs1 cells slots Q (F0 m (pc + 1) ls rest)) : W p l e R s m args below meth c H locs cells slots Q (F0 m pc ls (.int v :: .int i :: .ref (ad 41) :: rest)) := by
  refine va_iast hx hb hK hw.1 hw.2.1 hw.2.2 41 0 eM_41 rfl (inb_vp hi) hdg (fun H1 locs1 hP hD hS => ?_)
  subst he
  exact kk H1 locs1 ⟨hP, hD, hS⟩
theorem lM42 (hx : p.tables.exec = Jvm.exec) (hb : c.code = cc) (hK : va_K D vwCl (tysA cy) s) {s11 : OS} {x : Int32} {i : Int32} (hw : Wd D (cellsM ad cy s11) A H0 H locs) (hi : inb i 100 = true) (he : x = s11.1 64 i.toNatClampNeg) (hdg : decode cc pc = .ok (.iaload, 1)) (kk : W p l e R s m args below meth c H locs cells slots Q (F0 m (pc + 1) ls (.int x :: rest))) : W p l e R s m args below meth c H locs cells slots Q (F0 m pc ls (.int i :: .ref (ad 42) :: rest)) := by
  subst he
  exact va_iald hx hb hK hw.1 42 0 eM_42 rfl (inb_vp hi) hdg kk
theorem aM42 (hx : p.tables.exec = Jvm.exec) (hb : c.code = cc) (hK : va_K D vwCl (tysA cy) s) {s11 : OS} {t : OS} {v : Int32} {i : Int32} (hw : Wd D (cellsM ad cy s11) A H0 H locs) (hi : inb i 100 = true) (he : t = wI s11 64 i.toNatClampNeg v) (hdg : decode cc pc = .ok (.iastore, 1)) (kk : ∀ (H1 : Heap) (locs1 : List Loc), Wd D (cellsM ad cy t) A H0 H1 locs1 → W p l e R s m args below meth c H1 locs1 cells slots Q (F0 m (pc + 1) ls rest)) : W p l e R s m args below meth c H locs cells slots Q (F0 m pc ls (.int v :: .int i :: .ref (ad 42) :: rest)) := by
  refine va_iast hx hb hK hw.1 hw.2.1 hw.2.2 42 0 eM_42 rfl (inb_vp hi) hdg (fun H1 locs1 hP hD hS => ?_)
  subst he
  exact kk H1 locs1 ⟨hP, hD, hS⟩
theorem lM43 (hx : p.tables.exec = Jvm.exec) (hb : c.code = cc) (hK : va_K D vwCl (tysA cy) s) {s11 : OS} {x : Int32} {i : Int32} (hw : Wd D (cellsM ad cy s11) A H0 H locs) (hi : inb i 200 = true) (he : x = s11.1 65 i.toNatClampNeg) (hdg : decode cc pc = .ok (.iaload, 1)) (kk : W p l e R s m args below meth c H locs cells slots Q (F0 m (pc + 1) ls (.int x :: rest))) : W p l e R s m args below meth c H locs cells slots Q (F0 m pc ls (.int i :: .ref (ad 43) :: rest)) := by
  subst he
  exact va_iald hx hb hK hw.1 43 0 eM_43 rfl (inb_vp hi) hdg kk
theorem aM43 (hx : p.tables.exec = Jvm.exec) (hb : c.code = cc) (hK : va_K D vwCl (tysA cy) s) {s11 : OS} {t : OS} {v : Int32} {i : Int32} (hw : Wd D (cellsM ad cy s11) A H0 H locs) (hi : inb i 200 = true) (he : t = wI s11 65 i.toNatClampNeg v) (hdg : decode cc pc = .ok (.iastore, 1)) (kk : ∀ (H1 : Heap) (locs1 : List Loc), Wd D (cellsM ad cy t) A H0 H1 locs1 → W p l e R s m args below meth c H1 locs1 cells slots Q (F0 m (pc + 1) ls rest)) : W p l e R s m args below meth c H locs cells slots Q (F0 m pc ls (.int v :: .int i :: .ref (ad 43) :: rest)) := by
  refine va_iast hx hb hK hw.1 hw.2.1 hw.2.2 43 0 eM_43 rfl (inb_vp hi) hdg (fun H1 locs1 hP hD hS => ?_)
  subst he
  exact kk H1 locs1 ⟨hP, hD, hS⟩
theorem lM44 (hx : p.tables.exec = Jvm.exec) (hb : c.code = cc) (hK : va_K D vwCl (tysA cy) s) {s11 : OS} {x : Int32} {i : Int32} (hw : Wd D (cellsM ad cy s11) A H0 H locs) (hi : inb i 200 = true) (he : x = s11.1 66 i.toNatClampNeg) (hdg : decode cc pc = .ok (.iaload, 1)) (kk : W p l e R s m args below meth c H locs cells slots Q (F0 m (pc + 1) ls (.int x :: rest))) : W p l e R s m args below meth c H locs cells slots Q (F0 m pc ls (.int i :: .ref (ad 44) :: rest)) := by
  subst he
  exact va_iald hx hb hK hw.1 44 0 eM_44 rfl (inb_vp hi) hdg kk
theorem aM44 (hx : p.tables.exec = Jvm.exec) (hb : c.code = cc) (hK : va_K D vwCl (tysA cy) s) {s11 : OS} {t : OS} {v : Int32} {i : Int32} (hw : Wd D (cellsM ad cy s11) A H0 H locs) (hi : inb i 200 = true) (he : t = wI s11 66 i.toNatClampNeg v) (hdg : decode cc pc = .ok (.iastore, 1)) (kk : ∀ (H1 : Heap) (locs1 : List Loc), Wd D (cellsM ad cy t) A H0 H1 locs1 → W p l e R s m args below meth c H1 locs1 cells slots Q (F0 m (pc + 1) ls rest)) : W p l e R s m args below meth c H locs cells slots Q (F0 m pc ls (.int v :: .int i :: .ref (ad 44) :: rest)) := by
  refine va_iast hx hb hK hw.1 hw.2.1 hw.2.2 44 0 eM_44 rfl (inb_vp hi) hdg (fun H1 locs1 hP hD hS => ?_)
  subst he
  exact kk H1 locs1 ⟨hP, hD, hS⟩
theorem lM45 (hx : p.tables.exec = Jvm.exec) (hb : c.code = cc) (hK : va_K D vwCl (tysA cy) s) {s11 : OS} {x : Int32} {i : Int32} (hw : Wd D (cellsM ad cy s11) A H0 H locs) (hi : inb i 200 = true) (he : x = s11.1 67 i.toNatClampNeg) (hdg : decode cc pc = .ok (.iaload, 1)) (kk : W p l e R s m args below meth c H locs cells slots Q (F0 m (pc + 1) ls (.int x :: rest))) : W p l e R s m args below meth c H locs cells slots Q (F0 m pc ls (.int i :: .ref (ad 45) :: rest)) := by
  subst he
  exact va_iald hx hb hK hw.1 45 0 eM_45 rfl (inb_vp hi) hdg kk
theorem aM45 (hx : p.tables.exec = Jvm.exec) (hb : c.code = cc) (hK : va_K D vwCl (tysA cy) s) {s11 : OS} {t : OS} {v : Int32} {i : Int32} (hw : Wd D (cellsM ad cy s11) A H0 H locs) (hi : inb i 200 = true) (he : t = wI s11 67 i.toNatClampNeg v) (hdg : decode cc pc = .ok (.iastore, 1)) (kk : ∀ (H1 : Heap) (locs1 : List Loc), Wd D (cellsM ad cy t) A H0 H1 locs1 → W p l e R s m args below meth c H1 locs1 cells slots Q (F0 m (pc + 1) ls rest)) : W p l e R s m args below meth c H locs cells slots Q (F0 m pc ls (.int v :: .int i :: .ref (ad 45) :: rest)) := by
  refine va_iast hx hb hK hw.1 hw.2.1 hw.2.2 45 0 eM_45 rfl (inb_vp hi) hdg (fun H1 locs1 hP hD hS => ?_)
  subst he
  exact kk H1 locs1 ⟨hP, hD, hS⟩
theorem lM46 (hx : p.tables.exec = Jvm.exec) (hb : c.code = cc) (hK : va_K D vwCl (tysA cy) s) {s11 : OS} {x : Int32} {i : Int32} (hw : Wd D (cellsM ad cy s11) A H0 H locs) (hi : inb i 200 = true) (he : x = s11.1 68 i.toNatClampNeg) (hdg : decode cc pc = .ok (.iaload, 1)) (kk : W p l e R s m args below meth c H locs cells slots Q (F0 m (pc + 1) ls (.int x :: rest))) : W p l e R s m args below meth c H locs cells slots Q (F0 m pc ls (.int i :: .ref (ad 46) :: rest)) := by
  subst he
  exact va_iald hx hb hK hw.1 46 0 eM_46 rfl (inb_vp hi) hdg kk
theorem aM46 (hx : p.tables.exec = Jvm.exec) (hb : c.code = cc) (hK : va_K D vwCl (tysA cy) s) {s11 : OS} {t : OS} {v : Int32} {i : Int32} (hw : Wd D (cellsM ad cy s11) A H0 H locs) (hi : inb i 200 = true) (he : t = wI s11 68 i.toNatClampNeg v) (hdg : decode cc pc = .ok (.iastore, 1)) (kk : ∀ (H1 : Heap) (locs1 : List Loc), Wd D (cellsM ad cy t) A H0 H1 locs1 → W p l e R s m args below meth c H1 locs1 cells slots Q (F0 m (pc + 1) ls rest)) : W p l e R s m args below meth c H locs cells slots Q (F0 m pc ls (.int v :: .int i :: .ref (ad 46) :: rest)) := by
  refine va_iast hx hb hK hw.1 hw.2.1 hw.2.2 46 0 eM_46 rfl (inb_vp hi) hdg (fun H1 locs1 hP hD hS => ?_)
  subst he
  exact kk H1 locs1 ⟨hP, hD, hS⟩
theorem lM47 (hx : p.tables.exec = Jvm.exec) (hb : c.code = cc) (hK : va_K D vwCl (tysA cy) s) {s11 : OS} {x : Int32} {i : Int32} (hw : Wd D (cellsM ad cy s11) A H0 H locs) (hi : inb i 6 = true) (he : x = s11.1 71 i.toNatClampNeg) (hdg : decode cc pc = .ok (.iaload, 1)) (kk : W p l e R s m args below meth c H locs cells slots Q (F0 m (pc + 1) ls (.int x :: rest))) : W p l e R s m args below meth c H locs cells slots Q (F0 m pc ls (.int i :: .ref (ad 47) :: rest)) := by
  subst he
  exact va_iald hx hb hK hw.1 47 0 eM_47 rfl (inb_vp hi) hdg kk
theorem aM47 (hx : p.tables.exec = Jvm.exec) (hb : c.code = cc) (hK : va_K D vwCl (tysA cy) s) {s11 : OS} {t : OS} {v : Int32} {i : Int32} (hw : Wd D (cellsM ad cy s11) A H0 H locs) (hi : inb i 6 = true) (he : t = wI s11 71 i.toNatClampNeg v) (hdg : decode cc pc = .ok (.iastore, 1)) (kk : ∀ (H1 : Heap) (locs1 : List Loc), Wd D (cellsM ad cy t) A H0 H1 locs1 → W p l e R s m args below meth c H1 locs1 cells slots Q (F0 m (pc + 1) ls rest)) : W p l e R s m args below meth c H locs cells slots Q (F0 m pc ls (.int v :: .int i :: .ref (ad 47) :: rest)) := by
  refine va_iast hx hb hK hw.1 hw.2.1 hw.2.2 47 0 eM_47 rfl (inb_vp hi) hdg (fun H1 locs1 hP hD hS => ?_)
  subst he
  exact kk H1 locs1 ⟨hP, hD, hS⟩
theorem lM48 (hx : p.tables.exec = Jvm.exec) (hb : c.code = cc) (hK : va_K D vwCl (tysA cy) s) {s11 : OS} {x : Int32} {i : Int32} (hw : Wd D (cellsM ad cy s11) A H0 H locs) (hi : inb i 6 = true) (he : x = s11.1 72 i.toNatClampNeg) (hdg : decode cc pc = .ok (.iaload, 1)) (kk : W p l e R s m args below meth c H locs cells slots Q (F0 m (pc + 1) ls (.int x :: rest))) : W p l e R s m args below meth c H locs cells slots Q (F0 m pc ls (.int i :: .ref (ad 48) :: rest)) := by
  subst he
  exact va_iald hx hb hK hw.1 48 0 eM_48 rfl (inb_vp hi) hdg kk
theorem aM48 (hx : p.tables.exec = Jvm.exec) (hb : c.code = cc) (hK : va_K D vwCl (tysA cy) s) {s11 : OS} {t : OS} {v : Int32} {i : Int32} (hw : Wd D (cellsM ad cy s11) A H0 H locs) (hi : inb i 6 = true) (he : t = wI s11 72 i.toNatClampNeg v) (hdg : decode cc pc = .ok (.iastore, 1)) (kk : ∀ (H1 : Heap) (locs1 : List Loc), Wd D (cellsM ad cy t) A H0 H1 locs1 → W p l e R s m args below meth c H1 locs1 cells slots Q (F0 m (pc + 1) ls rest)) : W p l e R s m args below meth c H locs cells slots Q (F0 m pc ls (.int v :: .int i :: .ref (ad 48) :: rest)) := by
  refine va_iast hx hb hK hw.1 hw.2.1 hw.2.2 48 0 eM_48 rfl (inb_vp hi) hdg (fun H1 locs1 hP hD hS => ?_)
  subst he
  exact kk H1 locs1 ⟨hP, hD, hS⟩
theorem lM49 (hx : p.tables.exec = Jvm.exec) (hb : c.code = cc) (hK : va_K D vwCl (tysA cy) s) {s11 : OS} {x : Int32} {i : Int32} (hw : Wd D (cellsM ad cy s11) A H0 H locs) (hi : inb i 6 = true) (he : x = s11.1 73 i.toNatClampNeg) (hdg : decode cc pc = .ok (.iaload, 1)) (kk : W p l e R s m args below meth c H locs cells slots Q (F0 m (pc + 1) ls (.int x :: rest))) : W p l e R s m args below meth c H locs cells slots Q (F0 m pc ls (.int i :: .ref (ad 49) :: rest)) := by
  subst he
  exact va_iald hx hb hK hw.1 49 0 eM_49 rfl (inb_vp hi) hdg kk
theorem aM49 (hx : p.tables.exec = Jvm.exec) (hb : c.code = cc) (hK : va_K D vwCl (tysA cy) s) {s11 : OS} {t : OS} {v : Int32} {i : Int32} (hw : Wd D (cellsM ad cy s11) A H0 H locs) (hi : inb i 6 = true) (he : t = wI s11 73 i.toNatClampNeg v) (hdg : decode cc pc = .ok (.iastore, 1)) (kk : ∀ (H1 : Heap) (locs1 : List Loc), Wd D (cellsM ad cy t) A H0 H1 locs1 → W p l e R s m args below meth c H1 locs1 cells slots Q (F0 m (pc + 1) ls rest)) : W p l e R s m args below meth c H locs cells slots Q (F0 m pc ls (.int v :: .int i :: .ref (ad 49) :: rest)) := by
  refine va_iast hx hb hK hw.1 hw.2.1 hw.2.2 49 0 eM_49 rfl (inb_vp hi) hdg (fun H1 locs1 hP hD hS => ?_)
  subst he
  exact kk H1 locs1 ⟨hP, hD, hS⟩
theorem lM50 (hx : p.tables.exec = Jvm.exec) (hb : c.code = cc) (hK : va_K D vwCl (tysA cy) s) {s11 : OS} {x : Int32} {i : Int32} (hw : Wd D (cellsM ad cy s11) A H0 H locs) (hi : inb i 6 = true) (he : x = s11.1 74 i.toNatClampNeg) (hdg : decode cc pc = .ok (.iaload, 1)) (kk : W p l e R s m args below meth c H locs cells slots Q (F0 m (pc + 1) ls (.int x :: rest))) : W p l e R s m args below meth c H locs cells slots Q (F0 m pc ls (.int i :: .ref (ad 50) :: rest)) := by
  subst he
  exact va_iald hx hb hK hw.1 50 0 eM_50 rfl (inb_vp hi) hdg kk
theorem aM50 (hx : p.tables.exec = Jvm.exec) (hb : c.code = cc) (hK : va_K D vwCl (tysA cy) s) {s11 : OS} {t : OS} {v : Int32} {i : Int32} (hw : Wd D (cellsM ad cy s11) A H0 H locs) (hi : inb i 6 = true) (he : t = wI s11 74 i.toNatClampNeg v) (hdg : decode cc pc = .ok (.iastore, 1)) (kk : ∀ (H1 : Heap) (locs1 : List Loc), Wd D (cellsM ad cy t) A H0 H1 locs1 → W p l e R s m args below meth c H1 locs1 cells slots Q (F0 m (pc + 1) ls rest)) : W p l e R s m args below meth c H locs cells slots Q (F0 m pc ls (.int v :: .int i :: .ref (ad 50) :: rest)) := by
  refine va_iast hx hb hK hw.1 hw.2.1 hw.2.2 50 0 eM_50 rfl (inb_vp hi) hdg (fun H1 locs1 hP hD hS => ?_)
  subst he
  exact kk H1 locs1 ⟨hP, hD, hS⟩
theorem lM51 (hx : p.tables.exec = Jvm.exec) (hb : c.code = cc) (hK : va_K D vwCl (tysA cy) s) {s11 : OS} {x : Int32} {i : Int32} (hw : Wd D (cellsM ad cy s11) A H0 H locs) (hi : inb i 6 = true) (he : x = s11.1 75 i.toNatClampNeg) (hdg : decode cc pc = .ok (.iaload, 1)) (kk : W p l e R s m args below meth c H locs cells slots Q (F0 m (pc + 1) ls (.int x :: rest))) : W p l e R s m args below meth c H locs cells slots Q (F0 m pc ls (.int i :: .ref (ad 51) :: rest)) := by
  subst he
  exact va_iald hx hb hK hw.1 51 0 eM_51 rfl (inb_vp hi) hdg kk
theorem aM51 (hx : p.tables.exec = Jvm.exec) (hb : c.code = cc) (hK : va_K D vwCl (tysA cy) s) {s11 : OS} {t : OS} {v : Int32} {i : Int32} (hw : Wd D (cellsM ad cy s11) A H0 H locs) (hi : inb i 6 = true) (he : t = wI s11 75 i.toNatClampNeg v) (hdg : decode cc pc = .ok (.iastore, 1)) (kk : ∀ (H1 : Heap) (locs1 : List Loc), Wd D (cellsM ad cy t) A H0 H1 locs1 → W p l e R s m args below meth c H1 locs1 cells slots Q (F0 m (pc + 1) ls rest)) : W p l e R s m args below meth c H locs cells slots Q (F0 m pc ls (.int v :: .int i :: .ref (ad 51) :: rest)) := by
  refine va_iast hx hb hK hw.1 hw.2.1 hw.2.2 51 0 eM_51 rfl (inb_vp hi) hdg (fun H1 locs1 hP hD hS => ?_)
  subst he
  exact kk H1 locs1 ⟨hP, hD, hS⟩
theorem lM52 (hx : p.tables.exec = Jvm.exec) (hb : c.code = cc) (hK : va_K D vwCl (tysA cy) s) {s11 : OS} {x : Int32} {i : Int32} (hw : Wd D (cellsM ad cy s11) A H0 H locs) (hi : inb i 6 = true) (he : x = s11.1 76 i.toNatClampNeg) (hdg : decode cc pc = .ok (.iaload, 1)) (kk : W p l e R s m args below meth c H locs cells slots Q (F0 m (pc + 1) ls (.int x :: rest))) : W p l e R s m args below meth c H locs cells slots Q (F0 m pc ls (.int i :: .ref (ad 52) :: rest)) := by
  subst he
  exact va_iald hx hb hK hw.1 52 0 eM_52 rfl (inb_vp hi) hdg kk
theorem aM52 (hx : p.tables.exec = Jvm.exec) (hb : c.code = cc) (hK : va_K D vwCl (tysA cy) s) {s11 : OS} {t : OS} {v : Int32} {i : Int32} (hw : Wd D (cellsM ad cy s11) A H0 H locs) (hi : inb i 6 = true) (he : t = wI s11 76 i.toNatClampNeg v) (hdg : decode cc pc = .ok (.iastore, 1)) (kk : ∀ (H1 : Heap) (locs1 : List Loc), Wd D (cellsM ad cy t) A H0 H1 locs1 → W p l e R s m args below meth c H1 locs1 cells slots Q (F0 m (pc + 1) ls rest)) : W p l e R s m args below meth c H locs cells slots Q (F0 m pc ls (.int v :: .int i :: .ref (ad 52) :: rest)) := by
  refine va_iast hx hb hK hw.1 hw.2.1 hw.2.2 52 0 eM_52 rfl (inb_vp hi) hdg (fun H1 locs1 hP hD hS => ?_)
  subst he
  exact kk H1 locs1 ⟨hP, hD, hS⟩
theorem lM53 (hx : p.tables.exec = Jvm.exec) (hb : c.code = cc) (hK : va_K D vwCl (tysA cy) s) {s11 : OS} {x : Int32} {i : Int32} (hw : Wd D (cellsM ad cy s11) A H0 H locs) (hi : inb i 6 = true) (he : x = s11.1 77 i.toNatClampNeg) (hdg : decode cc pc = .ok (.iaload, 1)) (kk : W p l e R s m args below meth c H locs cells slots Q (F0 m (pc + 1) ls (.int x :: rest))) : W p l e R s m args below meth c H locs cells slots Q (F0 m pc ls (.int i :: .ref (ad 53) :: rest)) := by
  subst he
  exact va_iald hx hb hK hw.1 53 0 eM_53 rfl (inb_vp hi) hdg kk
theorem aM53 (hx : p.tables.exec = Jvm.exec) (hb : c.code = cc) (hK : va_K D vwCl (tysA cy) s) {s11 : OS} {t : OS} {v : Int32} {i : Int32} (hw : Wd D (cellsM ad cy s11) A H0 H locs) (hi : inb i 6 = true) (he : t = wI s11 77 i.toNatClampNeg v) (hdg : decode cc pc = .ok (.iastore, 1)) (kk : ∀ (H1 : Heap) (locs1 : List Loc), Wd D (cellsM ad cy t) A H0 H1 locs1 → W p l e R s m args below meth c H1 locs1 cells slots Q (F0 m (pc + 1) ls rest)) : W p l e R s m args below meth c H locs cells slots Q (F0 m pc ls (.int v :: .int i :: .ref (ad 53) :: rest)) := by
  refine va_iast hx hb hK hw.1 hw.2.1 hw.2.2 53 0 eM_53 rfl (inb_vp hi) hdg (fun H1 locs1 hP hD hS => ?_)
  subst he
  exact kk H1 locs1 ⟨hP, hD, hS⟩
theorem lM54 (hx : p.tables.exec = Jvm.exec) (hb : c.code = cc) (hK : va_K D vwCl (tysA cy) s) {s11 : OS} {x : Int32} {i : Int32} (hw : Wd D (cellsM ad cy s11) A H0 H locs) (hi : inb i 256 = true) (he : x = s11.1 78 i.toNatClampNeg) (hdg : decode cc pc = .ok (.iaload, 1)) (kk : W p l e R s m args below meth c H locs cells slots Q (F0 m (pc + 1) ls (.int x :: rest))) : W p l e R s m args below meth c H locs cells slots Q (F0 m pc ls (.int i :: .ref (ad 54) :: rest)) := by
  subst he
  exact va_iald hx hb hK hw.1 54 0 eM_54 rfl (inb_vp hi) hdg kk
theorem aM54 (hx : p.tables.exec = Jvm.exec) (hb : c.code = cc) (hK : va_K D vwCl (tysA cy) s) {s11 : OS} {t : OS} {v : Int32} {i : Int32} (hw : Wd D (cellsM ad cy s11) A H0 H locs) (hi : inb i 256 = true) (he : t = wI s11 78 i.toNatClampNeg v) (hdg : decode cc pc = .ok (.iastore, 1)) (kk : ∀ (H1 : Heap) (locs1 : List Loc), Wd D (cellsM ad cy t) A H0 H1 locs1 → W p l e R s m args below meth c H1 locs1 cells slots Q (F0 m (pc + 1) ls rest)) : W p l e R s m args below meth c H locs cells slots Q (F0 m pc ls (.int v :: .int i :: .ref (ad 54) :: rest)) := by
  refine va_iast hx hb hK hw.1 hw.2.1 hw.2.2 54 0 eM_54 rfl (inb_vp hi) hdg (fun H1 locs1 hP hD hS => ?_)
  subst he
  exact kk H1 locs1 ⟨hP, hD, hS⟩
theorem lM55 (hx : p.tables.exec = Jvm.exec) (hb : c.code = cc) (hK : va_K D vwCl (tysA cy) s) {s11 : OS} {x : Int32} {i : Int32} (hw : Wd D (cellsM ad cy s11) A H0 H locs) (hi : inb i 256 = true) (he : x = s11.1 79 i.toNatClampNeg) (hdg : decode cc pc = .ok (.iaload, 1)) (kk : W p l e R s m args below meth c H locs cells slots Q (F0 m (pc + 1) ls (.int x :: rest))) : W p l e R s m args below meth c H locs cells slots Q (F0 m pc ls (.int i :: .ref (ad 55) :: rest)) := by
  subst he
  exact va_iald hx hb hK hw.1 55 0 eM_55 rfl (inb_vp hi) hdg kk
theorem aM55 (hx : p.tables.exec = Jvm.exec) (hb : c.code = cc) (hK : va_K D vwCl (tysA cy) s) {s11 : OS} {t : OS} {v : Int32} {i : Int32} (hw : Wd D (cellsM ad cy s11) A H0 H locs) (hi : inb i 256 = true) (he : t = wI s11 79 i.toNatClampNeg v) (hdg : decode cc pc = .ok (.iastore, 1)) (kk : ∀ (H1 : Heap) (locs1 : List Loc), Wd D (cellsM ad cy t) A H0 H1 locs1 → W p l e R s m args below meth c H1 locs1 cells slots Q (F0 m (pc + 1) ls rest)) : W p l e R s m args below meth c H locs cells slots Q (F0 m pc ls (.int v :: .int i :: .ref (ad 55) :: rest)) := by
  refine va_iast hx hb hK hw.1 hw.2.1 hw.2.2 55 0 eM_55 rfl (inb_vp hi) hdg (fun H1 locs1 hP hD hS => ?_)
  subst he
  exact kk H1 locs1 ⟨hP, hD, hS⟩
theorem lM56 (hx : p.tables.exec = Jvm.exec) (hb : c.code = cc) (hK : va_K D vwCl (tysA cy) s) {s11 : OS} {x : Int32} {i : Int32} (hw : Wd D (cellsM ad cy s11) A H0 H locs) (hi : inb i 40 = true) (he : x = s11.1 80 i.toNatClampNeg) (hdg : decode cc pc = .ok (.iaload, 1)) (kk : W p l e R s m args below meth c H locs cells slots Q (F0 m (pc + 1) ls (.int x :: rest))) : W p l e R s m args below meth c H locs cells slots Q (F0 m pc ls (.int i :: .ref (ad 56) :: rest)) := by
  subst he
  exact va_iald hx hb hK hw.1 56 0 eM_56 rfl (inb_vp hi) hdg kk
theorem aM56 (hx : p.tables.exec = Jvm.exec) (hb : c.code = cc) (hK : va_K D vwCl (tysA cy) s) {s11 : OS} {t : OS} {v : Int32} {i : Int32} (hw : Wd D (cellsM ad cy s11) A H0 H locs) (hi : inb i 40 = true) (he : t = wI s11 80 i.toNatClampNeg v) (hdg : decode cc pc = .ok (.iastore, 1)) (kk : ∀ (H1 : Heap) (locs1 : List Loc), Wd D (cellsM ad cy t) A H0 H1 locs1 → W p l e R s m args below meth c H1 locs1 cells slots Q (F0 m (pc + 1) ls rest)) : W p l e R s m args below meth c H locs cells slots Q (F0 m pc ls (.int v :: .int i :: .ref (ad 56) :: rest)) := by
  refine va_iast hx hb hK hw.1 hw.2.1 hw.2.2 56 0 eM_56 rfl (inb_vp hi) hdg (fun H1 locs1 hP hD hS => ?_)
  subst he
  exact kk H1 locs1 ⟨hP, hD, hS⟩
theorem lM57 (hx : p.tables.exec = Jvm.exec) (hb : c.code = cc) (hK : va_K D vwCl (tysA cy) s) {s11 : OS} {x : Int32} {i : Int32} (hw : Wd D (cellsM ad cy s11) A H0 H locs) (hi : inb i 40 = true) (he : x = s11.1 81 i.toNatClampNeg) (hdg : decode cc pc = .ok (.iaload, 1)) (kk : W p l e R s m args below meth c H locs cells slots Q (F0 m (pc + 1) ls (.int x :: rest))) : W p l e R s m args below meth c H locs cells slots Q (F0 m pc ls (.int i :: .ref (ad 57) :: rest)) := by
  subst he
  exact va_iald hx hb hK hw.1 57 0 eM_57 rfl (inb_vp hi) hdg kk
theorem aM57 (hx : p.tables.exec = Jvm.exec) (hb : c.code = cc) (hK : va_K D vwCl (tysA cy) s) {s11 : OS} {t : OS} {v : Int32} {i : Int32} (hw : Wd D (cellsM ad cy s11) A H0 H locs) (hi : inb i 40 = true) (he : t = wI s11 81 i.toNatClampNeg v) (hdg : decode cc pc = .ok (.iastore, 1)) (kk : ∀ (H1 : Heap) (locs1 : List Loc), Wd D (cellsM ad cy t) A H0 H1 locs1 → W p l e R s m args below meth c H1 locs1 cells slots Q (F0 m (pc + 1) ls rest)) : W p l e R s m args below meth c H locs cells slots Q (F0 m pc ls (.int v :: .int i :: .ref (ad 57) :: rest)) := by
  refine va_iast hx hb hK hw.1 hw.2.1 hw.2.2 57 0 eM_57 rfl (inb_vp hi) hdg (fun H1 locs1 hP hD hS => ?_)
  subst he
  exact kk H1 locs1 ⟨hP, hD, hS⟩
theorem lM58 (hx : p.tables.exec = Jvm.exec) (hb : c.code = cc) (hK : va_K D vwCl (tysA cy) s) {s11 : OS} {x : Int32} {i : Int32} (hw : Wd D (cellsM ad cy s11) A H0 H locs) (hi : inb i 100 = true) (he : x = s11.1 82 i.toNatClampNeg) (hdg : decode cc pc = .ok (.iaload, 1)) (kk : W p l e R s m args below meth c H locs cells slots Q (F0 m (pc + 1) ls (.int x :: rest))) : W p l e R s m args below meth c H locs cells slots Q (F0 m pc ls (.int i :: .ref (ad 58) :: rest)) := by
  subst he
  exact va_iald hx hb hK hw.1 58 0 eM_58 rfl (inb_vp hi) hdg kk
theorem aM58 (hx : p.tables.exec = Jvm.exec) (hb : c.code = cc) (hK : va_K D vwCl (tysA cy) s) {s11 : OS} {t : OS} {v : Int32} {i : Int32} (hw : Wd D (cellsM ad cy s11) A H0 H locs) (hi : inb i 100 = true) (he : t = wI s11 82 i.toNatClampNeg v) (hdg : decode cc pc = .ok (.iastore, 1)) (kk : ∀ (H1 : Heap) (locs1 : List Loc), Wd D (cellsM ad cy t) A H0 H1 locs1 → W p l e R s m args below meth c H1 locs1 cells slots Q (F0 m (pc + 1) ls rest)) : W p l e R s m args below meth c H locs cells slots Q (F0 m pc ls (.int v :: .int i :: .ref (ad 58) :: rest)) := by
  refine va_iast hx hb hK hw.1 hw.2.1 hw.2.2 58 0 eM_58 rfl (inb_vp hi) hdg (fun H1 locs1 hP hD hS => ?_)
  subst he
  exact kk H1 locs1 ⟨hP, hD, hS⟩
theorem lM59 (hx : p.tables.exec = Jvm.exec) (hb : c.code = cc) (hK : va_K D vwCl (tysA cy) s) {s11 : OS} {x : Int32} {i : Int32} (hw : Wd D (cellsM ad cy s11) A H0 H locs) (hi : inb i 100 = true) (he : x = s11.1 83 i.toNatClampNeg) (hdg : decode cc pc = .ok (.iaload, 1)) (kk : W p l e R s m args below meth c H locs cells slots Q (F0 m (pc + 1) ls (.int x :: rest))) : W p l e R s m args below meth c H locs cells slots Q (F0 m pc ls (.int i :: .ref (ad 59) :: rest)) := by
  subst he
  exact va_iald hx hb hK hw.1 59 0 eM_59 rfl (inb_vp hi) hdg kk
theorem aM59 (hx : p.tables.exec = Jvm.exec) (hb : c.code = cc) (hK : va_K D vwCl (tysA cy) s) {s11 : OS} {t : OS} {v : Int32} {i : Int32} (hw : Wd D (cellsM ad cy s11) A H0 H locs) (hi : inb i 100 = true) (he : t = wI s11 83 i.toNatClampNeg v) (hdg : decode cc pc = .ok (.iastore, 1)) (kk : ∀ (H1 : Heap) (locs1 : List Loc), Wd D (cellsM ad cy t) A H0 H1 locs1 → W p l e R s m args below meth c H1 locs1 cells slots Q (F0 m (pc + 1) ls rest)) : W p l e R s m args below meth c H locs cells slots Q (F0 m pc ls (.int v :: .int i :: .ref (ad 59) :: rest)) := by
  refine va_iast hx hb hK hw.1 hw.2.1 hw.2.2 59 0 eM_59 rfl (inb_vp hi) hdg (fun H1 locs1 hP hD hS => ?_)
  subst he
  exact kk H1 locs1 ⟨hP, hD, hS⟩
theorem lM60 (hx : p.tables.exec = Jvm.exec) (hb : c.code = cc) (hK : va_K D vwCl (tysA cy) s) {s11 : OS} {x : Int32} {i : Int32} (hw : Wd D (cellsM ad cy s11) A H0 H locs) (hi : inb i 100 = true) (he : x = s11.1 84 i.toNatClampNeg) (hdg : decode cc pc = .ok (.iaload, 1)) (kk : W p l e R s m args below meth c H locs cells slots Q (F0 m (pc + 1) ls (.int x :: rest))) : W p l e R s m args below meth c H locs cells slots Q (F0 m pc ls (.int i :: .ref (ad 60) :: rest)) := by
  subst he
  exact va_iald hx hb hK hw.1 60 0 eM_60 rfl (inb_vp hi) hdg kk
theorem aM60 (hx : p.tables.exec = Jvm.exec) (hb : c.code = cc) (hK : va_K D vwCl (tysA cy) s) {s11 : OS} {t : OS} {v : Int32} {i : Int32} (hw : Wd D (cellsM ad cy s11) A H0 H locs) (hi : inb i 100 = true) (he : t = wI s11 84 i.toNatClampNeg v) (hdg : decode cc pc = .ok (.iastore, 1)) (kk : ∀ (H1 : Heap) (locs1 : List Loc), Wd D (cellsM ad cy t) A H0 H1 locs1 → W p l e R s m args below meth c H1 locs1 cells slots Q (F0 m (pc + 1) ls rest)) : W p l e R s m args below meth c H locs cells slots Q (F0 m pc ls (.int v :: .int i :: .ref (ad 60) :: rest)) := by
  refine va_iast hx hb hK hw.1 hw.2.1 hw.2.2 60 0 eM_60 rfl (inb_vp hi) hdg (fun H1 locs1 hP hD hS => ?_)
  subst he
  exact kk H1 locs1 ⟨hP, hD, hS⟩
theorem lM61 (hx : p.tables.exec = Jvm.exec) (hb : c.code = cc) (hK : va_K D vwCl (tysA cy) s) {s11 : OS} {x : Int32} {i : Int32} (hw : Wd D (cellsM ad cy s11) A H0 H locs) (hi : inb i 6 = true) (he : x = s11.1 85 i.toNatClampNeg) (hdg : decode cc pc = .ok (.iaload, 1)) (kk : W p l e R s m args below meth c H locs cells slots Q (F0 m (pc + 1) ls (.int x :: rest))) : W p l e R s m args below meth c H locs cells slots Q (F0 m pc ls (.int i :: .ref (ad 61) :: rest)) := by
  subst he
  exact va_iald hx hb hK hw.1 61 0 eM_61 rfl (inb_vp hi) hdg kk
theorem aM61 (hx : p.tables.exec = Jvm.exec) (hb : c.code = cc) (hK : va_K D vwCl (tysA cy) s) {s11 : OS} {t : OS} {v : Int32} {i : Int32} (hw : Wd D (cellsM ad cy s11) A H0 H locs) (hi : inb i 6 = true) (he : t = wI s11 85 i.toNatClampNeg v) (hdg : decode cc pc = .ok (.iastore, 1)) (kk : ∀ (H1 : Heap) (locs1 : List Loc), Wd D (cellsM ad cy t) A H0 H1 locs1 → W p l e R s m args below meth c H1 locs1 cells slots Q (F0 m (pc + 1) ls rest)) : W p l e R s m args below meth c H locs cells slots Q (F0 m pc ls (.int v :: .int i :: .ref (ad 61) :: rest)) := by
  refine va_iast hx hb hK hw.1 hw.2.1 hw.2.2 61 0 eM_61 rfl (inb_vp hi) hdg (fun H1 locs1 hP hD hS => ?_)
  subst he
  exact kk H1 locs1 ⟨hP, hD, hS⟩
theorem lM62 (hx : p.tables.exec = Jvm.exec) (hb : c.code = cc) (hK : va_K D vwCl (tysA cy) s) {s11 : OS} {x : Int32} {i : Int32} (hw : Wd D (cellsM ad cy s11) A H0 H locs) (hi : inb i 6 = true) (he : x = s11.1 86 i.toNatClampNeg) (hdg : decode cc pc = .ok (.iaload, 1)) (kk : W p l e R s m args below meth c H locs cells slots Q (F0 m (pc + 1) ls (.int x :: rest))) : W p l e R s m args below meth c H locs cells slots Q (F0 m pc ls (.int i :: .ref (ad 62) :: rest)) := by
  subst he
  exact va_iald hx hb hK hw.1 62 0 eM_62 rfl (inb_vp hi) hdg kk
theorem aM62 (hx : p.tables.exec = Jvm.exec) (hb : c.code = cc) (hK : va_K D vwCl (tysA cy) s) {s11 : OS} {t : OS} {v : Int32} {i : Int32} (hw : Wd D (cellsM ad cy s11) A H0 H locs) (hi : inb i 6 = true) (he : t = wI s11 86 i.toNatClampNeg v) (hdg : decode cc pc = .ok (.iastore, 1)) (kk : ∀ (H1 : Heap) (locs1 : List Loc), Wd D (cellsM ad cy t) A H0 H1 locs1 → W p l e R s m args below meth c H1 locs1 cells slots Q (F0 m (pc + 1) ls rest)) : W p l e R s m args below meth c H locs cells slots Q (F0 m pc ls (.int v :: .int i :: .ref (ad 62) :: rest)) := by
  refine va_iast hx hb hK hw.1 hw.2.1 hw.2.2 62 0 eM_62 rfl (inb_vp hi) hdg (fun H1 locs1 hP hD hS => ?_)
  subst he
  exact kk H1 locs1 ⟨hP, hD, hS⟩
theorem lM63 (hx : p.tables.exec = Jvm.exec) (hb : c.code = cc) (hK : va_K D vwCl (tysA cy) s) {s11 : OS} {x : Int32} {i : Int32} (hw : Wd D (cellsM ad cy s11) A H0 H locs) (hi : inb i 6 = true) (he : x = s11.1 87 i.toNatClampNeg) (hdg : decode cc pc = .ok (.iaload, 1)) (kk : W p l e R s m args below meth c H locs cells slots Q (F0 m (pc + 1) ls (.int x :: rest))) : W p l e R s m args below meth c H locs cells slots Q (F0 m pc ls (.int i :: .ref (ad 63) :: rest)) := by
  subst he
  exact va_iald hx hb hK hw.1 63 0 eM_63 rfl (inb_vp hi) hdg kk
theorem aM63 (hx : p.tables.exec = Jvm.exec) (hb : c.code = cc) (hK : va_K D vwCl (tysA cy) s) {s11 : OS} {t : OS} {v : Int32} {i : Int32} (hw : Wd D (cellsM ad cy s11) A H0 H locs) (hi : inb i 6 = true) (he : t = wI s11 87 i.toNatClampNeg v) (hdg : decode cc pc = .ok (.iastore, 1)) (kk : ∀ (H1 : Heap) (locs1 : List Loc), Wd D (cellsM ad cy t) A H0 H1 locs1 → W p l e R s m args below meth c H1 locs1 cells slots Q (F0 m (pc + 1) ls rest)) : W p l e R s m args below meth c H locs cells slots Q (F0 m pc ls (.int v :: .int i :: .ref (ad 63) :: rest)) := by
  refine va_iast hx hb hK hw.1 hw.2.1 hw.2.2 63 0 eM_63 rfl (inb_vp hi) hdg (fun H1 locs1 hP hD hS => ?_)
  subst he
  exact kk H1 locs1 ⟨hP, hD, hS⟩
theorem lM64 (hx : p.tables.exec = Jvm.exec) (hb : c.code = cc) (hK : va_K D vwCl (tysA cy) s) {s11 : OS} {x : Int32} {i : Int32} (hw : Wd D (cellsM ad cy s11) A H0 H locs) (hi : inb i 4 = true) (he : x = s11.1 88 i.toNatClampNeg) (hdg : decode cc pc = .ok (.iaload, 1)) (kk : W p l e R s m args below meth c H locs cells slots Q (F0 m (pc + 1) ls (.int x :: rest))) : W p l e R s m args below meth c H locs cells slots Q (F0 m pc ls (.int i :: .ref (ad 64) :: rest)) := by
  subst he
  exact va_iald hx hb hK hw.1 64 0 eM_64 rfl (inb_vp hi) hdg kk
theorem aM64 (hx : p.tables.exec = Jvm.exec) (hb : c.code = cc) (hK : va_K D vwCl (tysA cy) s) {s11 : OS} {t : OS} {v : Int32} {i : Int32} (hw : Wd D (cellsM ad cy s11) A H0 H locs) (hi : inb i 4 = true) (he : t = wI s11 88 i.toNatClampNeg v) (hdg : decode cc pc = .ok (.iastore, 1)) (kk : ∀ (H1 : Heap) (locs1 : List Loc), Wd D (cellsM ad cy t) A H0 H1 locs1 → W p l e R s m args below meth c H1 locs1 cells slots Q (F0 m (pc + 1) ls rest)) : W p l e R s m args below meth c H locs cells slots Q (F0 m pc ls (.int v :: .int i :: .ref (ad 64) :: rest)) := by
  refine va_iast hx hb hK hw.1 hw.2.1 hw.2.2 64 0 eM_64 rfl (inb_vp hi) hdg (fun H1 locs1 hP hD hS => ?_)
  subst he
  exact kk H1 locs1 ⟨hP, hD, hS⟩
theorem lM65 (hx : p.tables.exec = Jvm.exec) (hb : c.code = cc) (hK : va_K D vwCl (tysA cy) s) {s11 : OS} {x : Int32} {i : Int32} (hw : Wd D (cellsM ad cy s11) A H0 H locs) (hi : inb i 6 = true) (he : x = s11.1 89 i.toNatClampNeg) (hdg : decode cc pc = .ok (.iaload, 1)) (kk : W p l e R s m args below meth c H locs cells slots Q (F0 m (pc + 1) ls (.int x :: rest))) : W p l e R s m args below meth c H locs cells slots Q (F0 m pc ls (.int i :: .ref (ad 65) :: rest)) := by
  subst he
  exact va_iald hx hb hK hw.1 65 0 eM_65 rfl (inb_vp hi) hdg kk
theorem aM65 (hx : p.tables.exec = Jvm.exec) (hb : c.code = cc) (hK : va_K D vwCl (tysA cy) s) {s11 : OS} {t : OS} {v : Int32} {i : Int32} (hw : Wd D (cellsM ad cy s11) A H0 H locs) (hi : inb i 6 = true) (he : t = wI s11 89 i.toNatClampNeg v) (hdg : decode cc pc = .ok (.iastore, 1)) (kk : ∀ (H1 : Heap) (locs1 : List Loc), Wd D (cellsM ad cy t) A H0 H1 locs1 → W p l e R s m args below meth c H1 locs1 cells slots Q (F0 m (pc + 1) ls rest)) : W p l e R s m args below meth c H locs cells slots Q (F0 m pc ls (.int v :: .int i :: .ref (ad 65) :: rest)) := by
  refine va_iast hx hb hK hw.1 hw.2.1 hw.2.2 65 0 eM_65 rfl (inb_vp hi) hdg (fun H1 locs1 hP hD hS => ?_)
  subst he
  exact kk H1 locs1 ⟨hP, hD, hS⟩
end
