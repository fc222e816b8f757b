/-- only the cells of the standing Model are touched -/
def FrT (h h' : aH) : Prop := h'.length = h.length ∧ ∀ i, (i < 3 ∨ 22 < i) → h'[i]? = h[i]?
theorem FrT.trans {h1 h2 h3 : aH} (p : FrT h1 h2) (q : FrT h2 h3) : FrT h1 h3 := ⟨q.1.trans p.1, fun k a => (q.2 k a).trans (p.2 k a)⟩
theorem lnA_to {h : aH} {a n : Nat} {ty : FieldType} {x : (Nat → Int32) ⊕ (Nat → Int64) ⊕ (Nat → UInt32) ⊕ (Nat → UInt64) ⊕ (Nat → Option Nat)} (ha : a < aE) (hc : h[a]? = some (.inl (ty, n, x))) : lnA h (.ref a) = some (jI n) := by simp [lnA, aG, ha, hc, jI]
section
variable {h : aH} {o : Nat} {A B : Nat → Nat → Int32} {N M : Nat → Int64} {F E : Nat → Nat}
theorem isM.cell (H : isM h o A N F) {k : Nat} (hk : rowK k) : h[o + k]? = some (.inl (.int, lnK k, .inl (A k))) := by
  obtain ⟨h1, h2, h3, h4⟩ := hk
  obtain ⟨a, b0, b1, b2, b3, c, q0, q1, q2, q3, q4, q5, q6, q7⟩ := H
  have : k = 1 ∨ (3 ≤ k ∧ k ≤ 11) ∨ k = 13 ∨ k = 14 ∨ k = 15 ∨ k = 16 ∨ k = 17 ∨ k = 18 ∨ k = 19 := by omega
  rcases this with rfl | ⟨u, v⟩ | rfl | rfl | rfl | rfl | rfl | rfl | rfl
  · exact b1
  · have e : lnK k = lenM k := if_neg (by omega)
    rw [e]
    exact b3 k u v
  · exact q1
  · exact q2
  · exact q3
  · exact q4
  · exact q5
  · exact q6
  · exact q7
theorem isM.putR (H : isM h o A N F) {k : Nat} (hk : rowK k) (g : Nat → Int32) : isM (h.set (o + k) (.inl (.int, lnK k, .inl g))) o (upd2 A k g) N F := by
  obtain ⟨h', hh⟩ : ∃ h', h' = h.set (o + k) (.inl (.int, lnK k, .inl g)) := ⟨_, rfl⟩
  have ot : ∀ i, i ≠ o + k → h'[i]? = h[i]? := fun i hi => by rw [hh, set_ne (fun z => hi z.symm)]
  have row : ∀ j, rowK j → h'[o + j]? = some (.inl (.int, lnK j, .inl (upd2 A k g j))) := fun j hj => by
    by_cases q : j = k
    · subst q
      rw [hh, set_eq (H.cell hj), upd2_eq]
    · rw [ot _ (by omega), upd2_ne q]
      exact H.cell hj
  rw [← hh]
  have k2 := hk.2.1
  have k12 := hk.2.2.1
  have k1 := hk.1
  obtain ⟨a, b0, b1, b2, b3, c, q0, q1, q2, q3, q4, q5, q6, q7⟩ := H
  refine ⟨a, by rw [ot _ (by omega)]; exact b0, row 1 ⟨by decide, by decide, by decide, by decide⟩, by rw [ot _ (by omega)]; exact b2, fun j j1 j2 => ?_, c, by rw [ot _ (by omega)]; exact q0, row 13 ⟨by decide, by decide, by decide, by decide⟩, row 14 ⟨by decide, by decide, by decide, by decide⟩, row 15 ⟨by decide, by decide, by decide, by decide⟩, row 16 ⟨by decide, by decide, by decide, by decide⟩, row 17 ⟨by decide, by decide, by decide, by decide⟩, row 18 ⟨by decide, by decide, by decide, by decide⟩, row 19 ⟨by decide, by decide, by decide, by decide⟩⟩
  have e : lnK j = lenM j := if_neg (by omega)
  rw [← e]
  exact row j ⟨by omega, by omega, by omega, by omega⟩
theorem lnK_le (k : Nat) : lnK k ≤ 60 := by
  unfold lnK lenM
  split
  · decide
  · split
    · decide
    · split
      · decide
      · split
        · decide
        · split <;> decide
theorem upTo.skip {K : Nat} (u : upTo A B K) (hK : ¬ rowK K) : upTo A B (K + 1) := fun k j a b c => by
  by_cases q : k = K
  · subst q
    exact absurd b hK
  · exact u k j (by omega) b c
theorem copy_at (H : isM h 3 A N F) (G : isM h 23 B M E) {k : Nat} (u : upTo A B k) (hk : rowK k) : ∃ h' A', cpI h (.ref (23 + k)) 0 (.ref (3 + k)) 0 (jI (lnK k)) = some h' ∧ isM h' 3 A' N F ∧ isM h' 23 B M E ∧ upTo A' B (k + 1) ∧ FrT h h' := by
  have k4 := hk.2.2.2
  have l6 := lnK_le k
  obtain ⟨g', e, eg⟩ := cpI_of (ltE (by omega)) (ltE (by omega)) (G.cell hk) (H.cell hk) (Nat.le_refl _) (Nat.le_refl _) (by omega)
  refine ⟨_, _, e, H.putR hk g', G.set (by omega), fun j i a b c => ?_, List.length_set, fun i hi => set_ne (by omega)⟩
  by_cases q : j = k
  · subst q
    rw [upd2_eq, eg, if_pos c]
  · rw [upd2_ne q]
    exact u j i (by omega) b c
theorem copyN_at (H : isM h 3 A N F) (G : isM h 23 B M E) : ∃ h' N', cpJ h (.ref 25) 0 (.ref 5) 0 (jI 11) = some h' ∧ isM h' 3 A N' F ∧ isM h' 23 B M E ∧ (∀ s, s < 11 → N' s = M s) ∧ FrT h h' := by
  obtain ⟨g', e, eg⟩ := cpJ_of (ltE (by omega)) (ltE (by omega)) G.2.2.2.1 H.2.2.2.1 (Nat.le_refl _) (Nat.le_refl _) (by decide)
  refine ⟨_, g', e, ?_, G.set (by omega), fun s hs => by rw [eg, if_pos hs], List.length_set, fun i hi => set_ne (by omega)⟩
  obtain ⟨a, b0, b1, b2, b3, b4⟩ := H
  exact ⟨a, by rw [set_ne (by omega)]; exact b0, by rw [set_ne (by omega)]; exact b1, set_eq b2, fun j j1 j2 => by rw [set_ne (by omega)]; exact b3 j j1 j2, b4.set (by omega)⟩
theorem isM.fn0 (H : isM h 3 A N F) (x : Nat) : ∃ h', pF h (.ref 15) 0 0 (.int (jI x)) = some h' ∧ isM h' 3 A N (upd2 F 20 x) ∧ FrT h h' := by
  obtain ⟨a, b0, b1, b2, b3, c, q0, q1, q2, q3, q4, q5, q6, q7⟩ := H
  refine ⟨_, pF_of (ltE (by decide)) q0 (Nat.le_of_ble_eq_true rfl), ⟨a, by rw [set_ne (by omega)]; exact b0, by rw [set_ne (by omega)]; exact b1, by rw [set_ne (by omega)]; exact b2, fun j j1 j2 => by rw [set_ne (by omega)]; exact b3 j j1 j2, c, set_eq q0, by rw [set_ne (by omega)]; exact q1, by rw [set_ne (by omega)]; exact q2, by rw [set_ne (by omega)]; exact q3, by rw [set_ne (by omega)]; exact q4, by rw [set_ne (by omega)]; exact q5, by rw [set_ne (by omega)]; exact q6, by rw [set_ne (by omega)]; exact q7⟩, List.length_set, fun i hi => set_ne (by omega)⟩
theorem isM.fn4 (H : isM h 3 A N F) (x : Nat) : ∃ h', pF h (.ref 15) 0 4 (.int (jI x)) = some h' ∧ isM h' 3 A N (upd2 F 24 x) ∧ FrT h h' := by
  obtain ⟨a, b0, b1, b2, b3, c, q0, q1, q2, q3, q4, q5, q6, q7⟩ := H
  refine ⟨_, pF_of (ltE (by decide)) q0 (Nat.le_of_ble_eq_true rfl), ⟨a, by rw [set_ne (by omega)]; exact b0, by rw [set_ne (by omega)]; exact b1, by rw [set_ne (by omega)]; exact b2, fun j j1 j2 => by rw [set_ne (by omega)]; exact b3 j j1 j2, c, set_eq q0, by rw [set_ne (by omega)]; exact q1, by rw [set_ne (by omega)]; exact q2, by rw [set_ne (by omega)]; exact q3, by rw [set_ne (by omega)]; exact q4, by rw [set_ne (by omega)]; exact q5, by rw [set_ne (by omega)]; exact q6, by rw [set_ne (by omega)]; exact q7⟩, List.length_set, fun i hi => set_ne (by omega)⟩
theorem isM.fo (H : isM h o A N F) {k x : Nat} (e : ([.int (jI (F 20)), .ref (o + 12 + 1), .ref (o + 12 + 2), .ref (o + 12 + 3), .int (jI (F 24)), .ref (o + 12 + 4), .ref (o + 12 + 5), .ref (o + 12 + 6), .ref (o + 12 + 7)] : List Value)[k]? = some (.ref x)) : gO h (.ref (o + 12)) 0 k = some x := gO_of (by have := H.1; omega) H.2.2.2.2.2.2.1 e
theorem isM.mo (H : isM h o A N F) {k x : Nat} (e : ([.ref (o + 1), .ref (o + 2), .ref (o + 3), .ref (o + 4), .int (jI (F 4)), .ref (o + 5), .ref (o + 6), .ref (o + 7), .ref (o + 8), .ref (o + 9), .ref (o + 10), .ref (o + 11), .int (jI (F 12)), .int (jI (F 13)), .int (jI (F 14)), .int (jI (F 15)), .ref (o + 12)] : List Value)[k]? = some (.ref x)) : gO h (.ref o) 2 k = some x := gO_of (by have := H.1; omega) H.2.1 e
end
