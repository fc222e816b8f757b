/-! calls: gain -/
def gOK (x : Int32) (m : Bool) : Prop := ∀ h c z, SS h c z → ∃ v h1, s_X11_gain 0 x (b01 m) h = some (.inl (some (.long v)), h) ∧ s_X14_gain 104 x (b01 m) h = some (.inl (some (.long v)), h1) ∧ SS h1 c z
section
variable {γ : gSt}
theorem KG.gain {h : aH} {S V : Nat → Nat → Int32} {Z : Nat → Nat → Int64} {D Ln : Nat → Nat} {b : Nat} (K : KG h S V Z D Ln b γ) {j : Nat} (hj : j < qN γ) (m : Bool) : s_X11_gain 0 (jI j) (b01 m) h = some (.inl (some (.long (if m then qB γ j else qA γ j))), h) := by
  have n3 := K.2.2.1.2.2.1
  obtain ⟨e1, e2⟩ := K.2.2.2.2.2.2.2.2.2 j hj
  have g15 : gO h (.ref 0) 11 15 = some 81 := gO_of (ltE (by decide)) (K.1.1 0 rfl) rfl
  have g8 : gI h (.ref 81) 1 8 = some (S 81 8) := gI_of (ltE (by decide)) (K.1.1 81 rfl) rfl
  have g9 : gO h (.ref 81) 1 9 = some 87 := gO_of (ltE (by decide)) (K.1.1 81 rfl) rfl
  have g10 : gO h (.ref 81) 1 10 = some 88 := gO_of (ltE (by decide)) (K.1.1 81 rfl) rfl
  have l1 := K.1.ldJ (a := 87) rfl (show j < 3 by omega)
  have l2 := K.1.ldJ (a := 88) rfl (show j < 3 by omega)
  rw [e1] at l1
  rw [e2] at l2
  rw [K.2.2.2.2.2.2.2.2.1] at g8
  unfold s_X11_gain
  rw [if_neg (jI_neg (by omega)), g15, Option.bind_some, g8, Option.bind_some, if_pos ((jI_lt (by omega) (by omega)).mpr hj)]
  cases m with
  | false => rw [if_pos (by decide), Option.bind_some, g9, Option.bind_some, l1]; rfl
  | true => rw [if_neg (by decide), Option.bind_some, g10, Option.bind_some, l2]; rfl
theorem KG.gainN {h : aH} {S V : Nat → Nat → Int32} {Z : Nat → Nat → Int64} {D Ln : Nat → Nat} {b : Nat} (K : KG h S V Z D Ln b γ) {x m : Int32} (hx : x < 0 ∨ jI (qN γ) ≤ x) : s_X11_gain 0 x m h = some (.inl (some (.long (-9223372036854775808))), h) := by
  have g15 : gO h (.ref 0) 11 15 = some 81 := gO_of (ltE (by decide)) (K.1.1 0 rfl) rfl
  have g8 : gI h (.ref 81) 1 8 = some (S 81 8) := gI_of (ltE (by decide)) (K.1.1 81 rfl) rfl
  rw [K.2.2.2.2.2.2.2.2.1] at g8
  unfold s_X11_gain s_X11_gain_15
  by_cases z : x < 0
  · rw [if_pos z]
  · rw [if_neg z, g15, Option.bind_some, g8, Option.bind_some, if_neg (i32_nlt.mpr (hx.resolve_left z))]
theorem RG.gain {h h1 : aH} {S : Nat → Int32} {wd : Int64} {tv fv nv : Value} {V : Nat → Nat → Int32} {Z : Nat → Nat → Int64} (R : RG h1 S wd tv fv nv V Z γ) (e1 : pF h (.ref 104) 14 0 (.int 0) = some h1) (n3 : qN γ ≤ 3) {j : Nat} (hj : j < qN γ) (m : Bool) : s_X14_gain 104 (jI j) (b01 m) h = some (.inl (some (.long (if m then qB γ j else qA γ j))), h1) := by
  obtain ⟨a1, a2⟩ := R.2.2.2.2.2.2.2.2.1 j hj
  have g : gI h1 (.ref 104) 14 56 = some (S 56) := R.1.gS rfl
  have g52 : gO h1 (.ref 104) 14 52 = some 169 := gO_of (ltE (by decide)) R.1.1 rfl
  have g53 : gO h1 (.ref 104) 14 53 = some 170 := gO_of (ltE (by decide)) R.1.1 rfl
  have l1 := R.1.ldJ (a := 169) rfl (show j < lnR 169 by have : lnR 169 = 3 := rfl; omega)
  have l2 := R.1.ldJ (a := 170) rfl (show j < lnR 170 by have : lnR 170 = 3 := rfl; omega)
  rw [a1] at l1
  rw [a2] at l2
  rw [R.2.2.2.2.2.2.2.1] at g
  unfold s_X14_gain
  rw [e1, Option.bind_some, g, Option.bind_some, cI_of (inR_in hj (by omega) h1), if_neg (by decide)]
  cases m with
  | false => rw [if_pos (by decide), g52, Option.bind_some, l1]; rfl
  | true => rw [if_neg (by decide), g53, Option.bind_some, l2]; rfl
theorem RG.gainN {h h1 : aH} {S : Nat → Int32} {wd : Int64} {tv fv nv : Value} {V : Nat → Nat → Int32} {Z : Nat → Nat → Int64} (R : RG h1 S wd tv fv nv V Z γ) (e1 : pF h (.ref 104) 14 0 (.int 0) = some h1) (n3 : qN γ ≤ 3) {x m : Int32} (hx : x < 0 ∨ jI (qN γ) ≤ x) : s_X14_gain 104 x m h = some (.inl (some (.long (-9223372036854775808))), h1) := by
  have g : gI h1 (.ref 104) 14 56 = some (S 56) := R.1.gS rfl
  rw [R.2.2.2.2.2.2.2.1] at g
  unfold s_X14_gain
  rw [e1, Option.bind_some, g, Option.bind_some, cI_of (inR_out hx (by omega) h1), if_pos rfl]
end
theorem call_gain (x : Int32) (m : Bool) : gOK x m := by
  intro h c z s
  have go : ∀ {h1 : aH} {γ : gSt} {S V : Nat → Nat → Int32} {Z : Nat → Nat → Int64} {D Ln : Nat → Nat} {b : Nat} (_ : KG h S V Z D Ln b γ) {S' : Nat → Int32} {wd : Int64} {tv fv nv : Value} {V' : Nat → Nat → Int32} {Z' : Nat → Nat → Int64} (_ : RG h1 S' wd tv fv nv V' Z' γ) (_ : pF h (.ref 104) 14 0 (.int 0) = some h1), ∃ v, s_X11_gain 0 x (b01 m) h = some (.inl (some (.long v)), h) ∧ s_X14_gain 104 x (b01 m) h = some (.inl (some (.long v)), h1) := by
    intro h1 γ S V Z D Ln b K S' wd tv fv nv V' Z' R e1
    have n3 := K.2.2.1.2.2.1
    rcases in_or x (show qN γ < 2147483648 by omega) with ⟨j, hj, rfl⟩ | q
    · exact ⟨_, K.gain hj m, R.gain e1 n3 hj m⟩
    · exact ⟨_, K.gainN q, R.gainN e1 n3 q⟩
  rcases s with ⟨γ, S, V, Z, D, Ln, K, R, c1, z1⟩ | ⟨γ, τ, t2, S, V, Z, D, Ln, N, K, sp, tl, R, c1, z1⟩
  · obtain ⟨h1, e1, R1, O1⟩ := R.th 0
    obtain ⟨S', wd, nv, V', Z', g, t⟩ := id R1
    obtain ⟨v, a, b⟩ := go K.1 g e1
    exact ⟨v, h1, a, b, Or.inl ⟨γ, S, V, Z, D, Ln, K.ou O1, R1, c1, z1⟩⟩
  · obtain ⟨S', wd, t, f, nv, V', Z', B, W, G, R⟩ := R
    obtain ⟨h1, e1, R1, O1⟩ := R.th 0
    obtain ⟨v, a, b⟩ := go K.1 R1.1 e1
    have lt : 183 < t2 := R.2.1.lt
    exact ⟨v, h1, a, b, Or.inr ⟨γ, τ, t2, S, V, Z, D, Ln, N, K.rf (Rf.ou O1) sp (by omega), sp, by have := O1.1; omega, R1.rt, c1, z1⟩⟩
