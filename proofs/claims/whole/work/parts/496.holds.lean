/-! the class has looked: linear or not, and the form -/
def linB (A : Nat → Nat → Int32) (m F : Nat → Nat) : Bool := (lin false A m F).any fun x => nrM x.1 x.2
def okLk (S V : Nat → Nat → Int32) (Z : Nat → Nat → Int64) (A : Nat → Nat → Int32) (m F : Nat → Nat) : Prop :=
  S 81 1 = 1 → S 81 2 = b01 (linB A m F) ∧ (∀ a c, lin false A m F = some (a, c) → okLn V a c) ∧ ∀ j, j < 4 → Z 85 j = fmW (m 0) (trV (V 82)).toInt64 (miV (V 82)).toInt64 (deV (V 82)) j
section
variable {D Ln : Nat → Nat} {b : Nat} {A : Nat → Nat → Int32} {N : Nat → Int64} {m F : Nat → Nat}
theorem CC.flag81 {h : aH} {S V : Nat → Nat → Int32} {Z : Nat → Nat → Int64} (C : CC h S V Z D Ln b A N m F) {k : Nat} (hk : k = 1 ∨ k = 2) (q : Bool) :
    ∃ h', pZ h (.ref 81) 1 k (b01 q) = some h' ∧ CC h' (upd2 S 81 (upd (S 81) k (b01 q))) V Z D Ln b A N m F ∧ Oc D h h' := by
  have r2 := C.1.obj (a := 81) (g := upd (S 81) k (b01 q)) rfl
  refine ⟨_, ?_, C.to r2.1 r2.2 (by rw [upd2_ne (by decide)]), r2.2⟩
  rcases hk with rfl | rfl
  · rw [pZ_of (ltE (by decide)) (C.1.1 81 rfl) (show 1 < 14 by decide) (by cases q <;> decide)]
    rfl
  · rw [pZ_of (ltE (by decide)) (C.1.1 81 rfl) (show 2 < 14 by decide) (by cases q <;> decide)]
    rfl
theorem CC.holds {h : aH} {S V : Nat → Nat → Int32} {Z : Nat → Nat → Int64} (C : CC h S V Z D Ln b A N m F) (hfl : S 81 1 = 0 ∨ S 81 1 = 1) (O : okLk S V Z A m F) (hS : okSt A m F) :
    ∃ h' S' V' Z', s_X1_holds 81 h = some (.inl (some (.int (b01 (linB A m F)))), h') ∧ CC h' S' V' Z' D Ln b A N m F ∧ Oc D h h' ∧ Sm [82, 83, 84] V V' ∧ SmZ [85, 86] Z Z' ∧ (∀ k, k ≠ 81 → S' k = S k) ∧ (∀ k, k ≠ 1 → k ≠ 2 → S' 81 k = S 81 k) ∧ S' 81 1 = 1 ∧ okLk S' V' Z' A m F := by
  have g1 : gI h (.ref 81) 1 1 = some (S 81 1) := gI_of (ltE (by decide)) (C.1.1 81 rfl) rfl
  have fin : ∀ {h : aH} {S V : Nat → Nat → Int32} {Z : Nat → Nat → Int64}, CC h S V Z D Ln b A N m F → S 81 2 = b01 (linB A m F) → s_X1_holds_24 81 h = some (.inl (some (.int (b01 (linB A m F)))), h) := by
    intro h S V Z C e
    have g2 : gI h (.ref 81) 1 2 = some (S 81 2) := gI_of (ltE (by decide)) (C.1.1 81 rfl) rfl
    unfold s_X1_holds_24
    rw [g2, Option.bind_some, e]
    exact rtZ_b _ h
  rcases hfl with z | z
  · obtain ⟨h1, e1, C1, O1⟩ := C.flag81 (k := 1) (Or.inl rfl) true
    obtain ⟨h2, V2, e2, C2, O2, s2, l2⟩ := C1.look hS
    obtain ⟨h3, e3, C3, O3⟩ := C2.flag81 (k := 2) (Or.inr rfl) (linB A m F)
    obtain ⟨h4, Z4, e4, C4, O4, s4, f4⟩ := C3.findForm
    have v1 : upd2 (upd2 S 81 (upd (S 81) 1 (b01 true))) 81 (upd (upd2 S 81 (upd (S 81) 1 (b01 true)) 81) 2 (b01 (linB A m F))) 81 1 = 1 := by rw [upd2_eq, upd_ne (by decide), upd2_eq, upd_eq]; rfl
    have v2 : upd2 (upd2 S 81 (upd (S 81) 1 (b01 true))) 81 (upd (upd2 S 81 (upd (S 81) 1 (b01 true)) 81) 2 (b01 (linB A m F))) 81 2 = b01 (linB A m F) := by rw [upd2_eq, upd_eq]
    refine ⟨h4, _, V2, Z4, ?_, C4, ((O1.trans O2).trans O3).trans O4, s2, s4, fun k hk => by rw [upd2_ne hk, upd2_ne hk], fun k k1 k2 => by rw [upd2_eq, upd_ne k2, upd2_eq, upd_ne k1], v1, fun _ => ⟨v2, l2, f4⟩⟩
    unfold s_X1_holds
    have e1' : pZ h (.ref 81) 1 1 1 = some h1 := e1
    rw [g1, Option.bind_some, if_pos z, e1', Option.bind_some, kO_of (ltE (by decide)) (C1.1.1 81 rfl), e2]
    simp only [cI]
    have e3' : pZ h2 (.ref 81) 1 2 (b01 ((lin false A m F).any fun x => nrM x.1 x.2)) = some h3 := e3
    rw [e3', Option.bind_some, kO_of (ltE (by decide)) (C3.1.1 81 rfl), e4]
    exact fin C4 v2
  · refine ⟨h, S, V, Z, ?_, C, Oc.refl, Sm.refl, SmZ.refl, fun _ _ => rfl, fun _ _ _ => rfl, z, O⟩
    unfold s_X1_holds
    rw [g1, Option.bind_some, if_neg (by rw [z]; decide)]
    exact fin C (O z).1
end
