section
variable {wd : Int64} {t f n : Value} {Z : Nat → Nat → Int64} {h : aH} {S : Nat → Int32} {V : Nat → Nat → Int32}
theorem feedR_full {k : Nat} (hk : k ≤ 400) (h20 : 400 < k + 20) (X : RW h S wd t f n V Z) (hS : S 9 = jI k) (a1 a2 a3 a4 a5 : Int32) : ∃ h', s_X14_feed 104 a1 a2 a3 a4 a5 h = some (.inl (some (.int (-1))), h') ∧ RW h' (upd S 0 0) wd t f n V Z ∧ Ou h h' := by
  obtain ⟨h1, e1, X1, O1⟩ := X.pS (k := 0) rfl 0
  have g : gI h1 (.ref 104) 14 9 = some (jI k) := by rw [← hS]; exact X1.gS (k := 9) rfl
  have q : ¬ jI k + 20 ≤ (400 : Int32) := fun z => by
    have z' : jI k + jI 20 ≤ jI 400 := z
    rw [jI_add] at z'
    have := (jI_le (by omega) (by omega)).mp z'
    omega
  refine ⟨h1, ?_, X1, O1⟩
  unfold s_X14_feed
  rw [e1, Option.bind_some, g, Option.bind_some, if_neg q]
theorem feedR_at {k : Nat} (hk : k + 20 ≤ 400) (X : RW h S wd t f n V Z) (hS : S 9 = jI k) (a1 a2 a3 a4 a5 : Int32) : ∃ h' S' V', s_X14_feed 104 a1 a2 a3 a4 a5 h = some (.inl (some (.int (jI (k + 20)))), h') ∧ RW h' S' wd t f n V' Z ∧ Ou h h' ∧ S' 9 = jI (k + 20) ∧ (∀ q, q ≠ 9 → q ≠ 0 → S' q = S q) ∧ (∀ q, q ≠ 119 → V' q = V q) ∧ (∀ j, j < k → V' 119 j = V 119 j) ∧ (∀ j, k + 20 ≤ j → V' 119 j = V 119 j) ∧ ∀ j, j < 20 → V' 119 (k + j) = byR (aS5 a1 a2 a3 a4 a5 j) j := by
  obtain ⟨h1, e1, X1, O1⟩ := X.pS (k := 0) rfl 0
  have g : gI h1 (.ref 104) 14 9 = some (jI k) := by rw [← hS]; exact X1.gS (k := 9) rfl
  have q : jI k + 20 ≤ (400 : Int32) := by
    show jI k + jI 20 ≤ jI 400
    rw [jI_add]
    exact (jI_le (by omega) (by omega)).mpr hk
  obtain ⟨h2, S2, V2, e2, X2, O2, s9, sq, vq, vl, vu, vh⟩ := fd23_go hk a1 a2 a3 a4 a5 20 0 FU h1 _ V rfl (by unfold FU; omega) X1 (by rw [upd_ne (by decide)]; exact hS)
  refine ⟨h2, S2, V2, ?_, X2, O1.trans O2, s9, fun q q1 q2 => by rw [sq q q1, upd_ne q2], vq, vl, vu, fun j hj => vh j (Nat.zero_le _) hj⟩
  have e2' : s_X14_feed_23 FU 104 a1 a2 a3 a4 a5 0 h1 = some (.inl (some (.int (jI (k + 20)))), h2) := e2
  unfold s_X14_feed
  rw [e1, Option.bind_some, g, Option.bind_some, if_pos q, e2']
end
