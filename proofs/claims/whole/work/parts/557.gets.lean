section
variable {h : aH} {S : Nat → Nat → Int32} {V : Nat → Nat → Int32} {Z : Nat → Nat → Int64} {D Ln : Nat → Nat} {b : Nat}
theorem faultC_at (X : CW h S V Z D Ln b) : s_X11_fault 0 h = some (.inl (some (.int (S 0 4))), h) := by
  have g : gI h (.ref 0) 11 4 = some (S 0 4) := gI_of (ltE (by decide)) (X.1 0 rfl) rfl
  unfold s_X11_fault
  rw [g, Option.bind_some]
theorem troubleC_at (X : CW h S V Z D Ln b) : s_X11_trouble 0 h = some (.inl (some (.int (S 0 3))), h) := by
  have g : gI h (.ref 0) 11 3 = some (S 0 3) := gI_of (ltE (by decide)) (X.1 0 rfl) rfl
  unfold s_X11_trouble
  rw [g, Option.bind_some]
theorem whereC_at (X : CW h S V Z D Ln b) : s_X11_where 0 h = some (.inl (some (.int (if S 0 3 = 4 then S 0 5 else -1))), h) := by
  have g : gI h (.ref 0) 11 3 = some (S 0 3) := gI_of (ltE (by decide)) (X.1 0 rfl) rfl
  have g5 : gI h (.ref 0) 11 5 = some (S 0 5) := gI_of (ltE (by decide)) (X.1 0 rfl) rfl
  unfold s_X11_where
  rw [g, Option.bind_some]
  by_cases q : S 0 3 = 4
  · rw [if_pos q, if_pos q, g5, Option.bind_some]
  · rw [if_neg q, if_neg q]
end
section
variable {h : aH} {S : Nat → Int32} {wd : Int64} {t f n : Value} {V : Nat → Nat → Int32} {Z : Nat → Nat → Int64}
theorem faultR_at (X : RW h S wd t f n V Z) : ∃ h', s_X14_fault 104 h = some (.inl (some (.int (S 3))), h') ∧ RW h' (upd S 0 0) wd t f n V Z ∧ Ou h h' := by
  obtain ⟨h1, e1, X1, O1⟩ := X.pS (k := 0) rfl 0
  have g : gI h1 (.ref 104) 14 3 = some (S 3) := X1.gS (k := 3) rfl
  refine ⟨h1, ?_, X1, O1⟩
  unfold s_X14_fault
  rw [e1, Option.bind_some, g, Option.bind_some]
theorem whereR_at (X : RW h S wd t f n V Z) : ∃ h', s_X14_where 104 h = some (.inl (some (.int (S 2))), h') ∧ RW h' (upd S 0 0) wd t f n V Z ∧ Ou h h' := by
  obtain ⟨h1, e1, X1, O1⟩ := X.pS (k := 0) rfl 0
  have g : gI h1 (.ref 104) 14 2 = some (S 2) := X1.gS (k := 2) rfl
  refine ⟨h1, ?_, X1, O1⟩
  unfold s_X14_where
  rw [e1, Option.bind_some, g, Option.bind_some]
theorem troubleR_at (X : RW h S wd t f n V Z) : ∃ h', s_X14_trouble 104 h = some (.inl (some (.int (S 1))), h') ∧ RW h' (upd S 0 0) wd t f n V Z ∧ Ou h h' := by
  obtain ⟨h1, e1, X1, O1⟩ := X.pS (k := 0) rfl 0
  have g : gI h1 (.ref 104) 14 1 = some (S 1) := X1.gS (k := 1) rfl
  refine ⟨h1, ?_, X1, O1⟩
  unfold s_X14_trouble
  rw [e1, Option.bind_some, g, Option.bind_some]
end
