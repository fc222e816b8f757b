section
variable {S : Nat → Int32} {wd : Int64} {t f n : Value} {V : Nat → Nat → Int32} {Z : Nat → Nat → Int64} {h : aH}
theorem fd76_at (X : RW h S wd t f n V Z) {k : Nat} (hk : k < 400) (hS : S 9 = jI k) (k23 : Nat → Int32 → Int32 → Int32 → Int32 → Int32 → Int32 → aH → aO) (a1 a2 a3 a4 a5 l6 s0 : Int32) :
    ∃ h', s_X14_feed_76 k23 104 a1 a2 a3 a4 a5 l6 s0 h = k23 104 a1 a2 a3 a4 a5 (l6 + 1) h' ∧ RW h' (upd S 9 (jI (k + 1))) wd t f n (upd2 V 119 (upd (V 119) k (vp_nar .byte (s0 >>> ((24 - (8 * (l6 - l6 / 4 * 4))) &&& 31)).toInt8.toInt32))) Z ∧ Ou h h' := by
  have g8 : gO h (.ref 104) 14 8 = some 119 := gO_of (ltE (by decide)) X.1 rfl
  have g9 : gI h (.ref 104) 14 9 = some (jI k) := by rw [← hS]; exact X.gS (k := 9) rfl
  obtain ⟨h1, e1, X1, O1⟩ := X.stN (a := 119) (j := k) rfl hk ((s0 >>> ((24 - (8 * (l6 - l6 / 4 * 4))) &&& 31)).toInt8.toInt32)
  have g9' : gI h1 (.ref 104) 14 9 = some (jI k) := by rw [← hS]; exact X1.gS (k := 9) rfl
  obtain ⟨h2, e2, X2, O2⟩ := X1.pS (k := 9) rfl (jI (k + 1))
  have e1' : stN .byte h (.ref 119) (jI k) ((s0 >>> ((24 - (8 * (l6 - l6 / 4 * 4))) &&& 31)).toInt8.toInt32) = some h1 := e1
  refine ⟨h2, ?_, X2, O1.trans O2⟩
  unfold s_X14_feed_76
  rw [g8, Option.bind_some, g9, Option.bind_some, nz_of (by decide), e1', Option.bind_some, g9', Option.bind_some, jI_inc, e2, Option.bind_some]
end
