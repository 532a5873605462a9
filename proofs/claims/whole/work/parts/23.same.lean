-- the reader of rules: what a clause answers, ahead of its last test for refusals
noncomputable def f6_readClauseO_j115 (v1_j115 : Int32) (s6_j115 : OS) : Option (Int32 × OS) := Option.bind (f6_require ((40 : Int32)) s6_j115) fun q_118 => Option.bind (f6_readAny (f6_readSingle 8) ((1 : Int32)) v1_j115 q_118) fun q_124 => Option.bind (f6_require ((41 : Int32)) q_124.2) fun q_131 => some (q_124.1, q_131)
noncomputable def f6_readClauseO_j109 (v1_j109 : Int32) (k2_j109 : Int32) (s6_j109 : OS) : Option (Int32 × OS) := Option.bind (f6_readTold k2_j109 s6_j109) fun q_109 => nm (wI q_109.2 0 9 q_109.1) fun s6_112 => f6_readClauseO_j115 v1_j109 s6_112
noncomputable def f6_readClauseO (a1 : Int32) (s6 : OS) : Option (Int32 × OS) := nm (wI s6 0 11 ((0 : Int32))) fun s6_2 => Option.bind (f6_sign s6_2) fun q_7 => nm (wI s6_2 0 8 q_7) fun s6_10 => Option.bind (f6_isClauseLetter ((s6_10.1 0 8))) fun q_17 => if q_17 = 0 then (Option.bind (f6_fail ((1 : Int32)) ((s6_10.1 0 4)) s6_10) fun q_29 => some ((0 : Int32), q_29)) else (nm (wI s6_10 0 4 (((s6_10.1 0 4) + (1 : Int32)))) fun s6_41 => if (s6_41.1 0 8) = (120 : Int32) then (Option.bind (f6_readTold ((19 : Int32)) s6_41) fun q_57 => nm (wI q_57.2 0 9 q_57.1) fun s6_60 => Option.bind (f6_require ((46 : Int32)) s6_60) fun q_66 => Option.bind (f6_readTold ((11 : Int32)) q_66) fun q_73 => nm (wI q_73.2 0 10 q_73.1) fun s6_76 => some ((0 : Int32), s6_76)) else (if (s6_41.1 0 8) = (98 : Int32) then (f6_readClauseO_j115 a1 s6_41) else (if (s6_41.1 0 8) = (116 : Int32) then (f6_readClauseO_j109 a1 ((1000 : Int32)) s6_41) else (f6_readClauseO_j109 a1 ((999999 : Int32)) s6_41))))
theorem nm_q {α β : Type} (v : α) (k : α → β) : nm v k = k v := Eq.trans (nm_d v k) rfl
theorem b_ite {α β : Type} {c : Prop} [Decidable c] (a b : Option α) (f : α → Option β) : Option.bind (if c then a else b) f = if c then Option.bind a f else Option.bind b f := by
  by_cases h : c
  · rw [if_pos h, if_pos h]
  · rw [if_neg h, if_neg h]
/-- the last test -/
def rcE (q : Int32 × OS) : Option (Int32 × OS) := if q.1 = 0 then some ((0 : Int32), q.2) else (if q.2.1 0 11 = 0 then some ((1 : Int32), q.2) else some ((0 : Int32), q.2))
theorem rcE_0 (s : OS) : rcE ((0 : Int32), s) = some ((0 : Int32), s) := by
  unfold rcE
  rw [if_pos rfl]
theorem rc115 (v : Int32) (s : OS) : f6_readClause_j115 v s = Option.bind (f6_readClauseO_j115 v s) rcE := by
  unfold f6_readClause_j115 f6_readClauseO_j115
  cases f6_require 40 s with
  | none => rfl
  | some s1 =>
    show Option.bind (f6_readAny (f6_readSingle 8) 1 v s1) _ = Option.bind (Option.bind (f6_readAny (f6_readSingle 8) 1 v s1) _) rcE
    cases f6_readAny (f6_readSingle 8) 1 v s1 with
    | none => rfl
    | some q =>
      show Option.bind (f6_require 41 q.2) _ = Option.bind (Option.bind (f6_require 41 q.2) _) rcE
      cases f6_require 41 q.2 with
      | none => rfl
      | some s2 => rfl
theorem rc109 (v k : Int32) (s : OS) : f6_readClause_j109 v k s = Option.bind (f6_readClauseO_j109 v k s) rcE := by
  unfold f6_readClause_j109 f6_readClauseO_j109
  cases f6_readTold k s with
  | none => rfl
  | some q => exact rc115 _ _
theorem rc_eq (v : Int32) (s : OS) : f6_readClause v s = Option.bind (f6_readClauseO v s) rcE := by
  unfold f6_readClause f6_readClauseO
  simp only [nm_q, b_ite, Option.bind_assoc, Option.bind_some, rcE_0, rc109, rc115]
theorem rc_of {v x : Int32} {s s2 : OS} (h : f6_readClauseO v s = some (x, s2)) : ∃ y, f6_readClause v s = some (y, s2) := by
  rw [rc_eq, h, Option.bind_some]
  unfold rcE
  by_cases c : x = 0
  · rw [if_pos c]; exact ⟨_, rfl⟩
  · rw [if_neg c]
    by_cases c2 : s2.1 0 11 = 0
    · rw [if_pos c2]; exact ⟨_, rfl⟩
    · rw [if_neg c2]; exact ⟨_, rfl⟩
/-- a clause at a place -/
noncomputable def f6_asksClause (a : Int32) (s : OS) : Option (Int32 × OS) := nm (wI s 0 4 a) fun s2 => Option.bind (f6_readClauseO 1 s2) rcE
theorem asks_go {α : Type} (a : Int32) (s : OS) (k : Int32 × OS → Option α) : (Option.bind (f6_goTo a s) fun q => Option.bind (f6_readClause 1 q) k) = Option.bind (f6_asksClause a s) k := by
  unfold f6_goTo f6_asksClause
  simp only [nm_q, Option.bind_some, rc_eq]
/-- two sums with a sign between them -/
noncomputable def f6_readComparison (o ask : Int32) (s : OS) : Option (Int32 × OS) := Option.bind (f6_readSum 8 o ask s) fun q => Option.bind (f6_readOrder q.2) fun q2 => Option.bind (f6_readSum 8 o ask q2.2) fun q3 => Option.bind (f6_areSo q.1 q2.1 q3.1) fun x => some (x, q3.2)
