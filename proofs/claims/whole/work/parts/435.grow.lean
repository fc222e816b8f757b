/-! rows that grow -/
theorem updN_eq {F : Nat → Nat} {k x : Nat} : updN F k x k = x := if_pos rfl
theorem updN_ne {F : Nat → Nat} {k x j : Nat} (h : j ≠ k) : updN F k x j = F j := if_neg h
theorem updN_self {F : Nat → Nat} {k : Nat} : updN F k (F k) = F := by
  funext j
  by_cases q : j = k
  · rw [q, updN_eq]
  · rw [updN_ne q]
theorem sumL_up {Ln : Nat → Nat} {i x : Nat} (hi : dyC i = true) : sumL (updN Ln i x) + Ln i = sumL Ln + x := by
  have h := of_decide_eq_true hi
  unfold sumL
  rcases h with rfl | rfl | rfl | rfl | rfl | rfl | rfl | rfl <;> (simp only [updN_eq]; repeat rw [updN_ne (by decide)]) <;> omega
section
variable {h : aH} {S : Nat → Nat → Int32} {V : Nat → Nat → Int32} {Z : Nat → Nat → Int64} {D Ln : Nat → Nat} {b : Nat}
theorem CW.grow (X : CW h S V Z D Ln b) {i : Nat} (hi : dyC i = true) {o kf ci : Nat} {fs : List Value} (ho : obC o = true) (eo : oF S D o = (ci, fs)) (hk : kf < fs.length) (ef : ∀ x, oF S (updN D i x) o = (ci, fs.set kf (.ref x))) (eo' : ∀ x a, obC a = true → a ≠ o → oF S (updN D i x) a = oF S D a) {need : Nat} (hn : need ≤ mxD i) :
    ∃ h1 n y x Ln' V' h2, s_X11_longEnough (D i) (jI need) h = some (.inl (some (.ref x)), h1, n, y) ∧ pF h1 (.ref o) ci kf (.ref x) = some h2 ∧ CW h2 S V' Z (updN D i x) Ln' b ∧ Oc D h h2 ∧ Gr h D (updN D i x) ∧ need ≤ Ln' i ∧ (∀ j, j ≠ i → Ln' j = Ln j ∧ V' j = V j) ∧
      (need ≤ Ln i → V' = V ∧ Ln' = Ln ∧ x = D i) ∧ n + Ln i ≤ Ln' i ∧ y + 2 * Ln i ≤ 2 * Ln' i ∧ (0 < need → 183 < x) := by
  have hlen := X.2.2.2.2.len
  have hle : h.length < aE := Nat.lt_of_le_of_lt hlen (by decide)
  have hLn := X.lnD hi
  have hmx := mxD_le i
  have hc := X.2.2.2.1 i hi
  have e := long_at (X.dlt hi) hle (by omega) (show need ≤ 10000000 by omega) hc
  have fo := obC_lt ho
  have oE : o < aE := ltE (by omega)
  have ho0 := X.1 o ho
  rw [eo] at ho0
  by_cases q : Ln i < need
  · rw [if_pos q] at e
    obtain ⟨LN, hLN⟩ : ∃ LN, LN = max need (2 * Ln i) := ⟨_, rfl⟩
    rw [← hLN] at e
    have hLN1 : need ≤ LN ∧ 2 * Ln i ≤ LN ∧ (LN ≤ need ∨ LN ≤ 2 * Ln i) := by omega
    have g : ∀ {k : Nat} {c : aC}, h[k]? = some c → (h ++ [.inl (.int, LN, .inl fun _ => 0)])[k]? = some c := fun {k c} e => by
      rw [List.getElem?_append_left (List.getElem?_eq_some_iff.mp e).1]; exact e
    have hnew : (h ++ [.inl (.int, LN, .inl fun _ => 0)])[h.length]? = some (.inl (.int, LN, .inl fun _ => 0)) := by simp
    have h184 := X.2.2.2.2.2.2.2.2.1
    refine ⟨_, _, _, _, updN Ln i LN, upd2 V i (fun _ => 0), _, e, pF_of oE (g ho0) hk, ⟨fun a ha => ?_, fun k hk2 => ?_, fun k hk2 => ?_, fun j hj => ?_, ?_⟩, ?_, ?_, ?_, ?_, ?_, ?_, ?_, ?_⟩
    · by_cases z : a = o
      · subst z
        rw [set_eq (g ho0), ef]
      · rw [set_ne (fun w => z w.symm), eo' _ a ha z]
        exact g (X.1 a ha)
    · have f := inC_lt hk2
      rw [set_ne (fun w => by rw [← w, fo.2.2.1] at hk2; cases hk2), upd2_ne (fun w => by rw [w, (dyC_lt hi).2.2.1] at hk2; cases hk2)]
      exact g (X.2.1 k hk2)
    · rw [set_ne (fun w => by rw [← w, fo.2.2.2.1] at hk2; cases hk2)]
      exact g (X.2.2.1 k hk2)
    · by_cases z : j = i
      · subst z
        rw [updN_eq, updN_eq, upd2_eq, set_ne (by omega)]
        exact hnew
      · rw [updN_ne z, updN_ne z, upd2_ne z, set_ne (X.notD (by omega) fo.2.2.2.2 hj).symm]
        exact g (X.2.2.2.1 j hj)
    · obtain ⟨d1, d2, d3, d4, d5, d6⟩ := X.2.2.2.2
      have hs := sumL_up (Ln := Ln) (x := LN) hi
      refine ⟨fun j hj => ?_, fun j k hj hk2 ejk => ?_, fun j hj => ?_, d4, ?_, ?_⟩
      · by_cases z : j = i
        · rw [z, updN_eq]; exact Or.inr (by omega)
        · rw [updN_ne z, updN_ne z]; exact d1 j hj
      · have lt : ∀ j, dyC j = true → D j < h.length := fun j hj => (List.getElem?_eq_some_iff.mp (X.2.2.2.1 j hj)).1
        by_cases z : j = i
        · by_cases z2 : k = i
          · rw [z, z2]
          · rw [z, updN_eq, updN_ne z2] at ejk
            have := lt k hk2
            omega
        · by_cases z2 : k = i
          · rw [z2, updN_eq, updN_ne z] at ejk
            have := lt j hj
            omega
          · rw [updN_ne z, updN_ne z2] at ejk
            exact d2 j k hj hk2 ejk
      · by_cases z : j = i
        · rw [z, updN_eq]; omega
        · rw [updN_ne z]; exact d3 j hj
      · rw [List.length_set, List.length_append]; simp; omega
      · rw [List.length_set, List.length_append]; simp; omega
    · refine ⟨by rw [List.length_set, List.length_append]; omega, fun k hk1 hk2 hk3 => ?_⟩
      rw [set_ne (fun w => by rw [← w, fo.2.1] at hk2; cases hk2), List.getElem?_append_left hk1]
    · intro j hj
      by_cases z : j = i
      · rw [z, updN_eq]; exact Or.inr (Nat.le_refl _)
      · rw [updN_ne z]; exact Or.inl rfl
    · rw [updN_eq]; exact hLN1.1
    · intro j hj
      rw [updN_ne hj, upd2_ne hj]
      exact ⟨rfl, rfl⟩
    · intro z; omega
    · rw [updN_eq]; omega
    · rw [updN_eq]; omega
    · intro _; exact Nat.lt_of_lt_of_le (by decide) h184
  · rw [if_neg q] at e
    have es : h.set o (.inr (ci, fs.set kf (.ref (D i)))) = h := by
      have := ef (D i)
      rw [updN_self, eo] at this
      rw [← this]
      exact set_same ho0
    refine ⟨_, _, _, _, Ln, V, h, e, ?_, ?_, Oc.refl, ?_, by omega, fun _ _ => ⟨rfl, rfl⟩, fun _ => ⟨rfl, rfl, rfl⟩, by omega, by omega, fun hz => ?_⟩
    · rw [pF_of oE ho0 hk, es]
    · rw [updN_self]; exact X
    · rw [updN_self]; exact Gr.refl
    · rcases X.2.2.2.2.1 i hi with ⟨z1, z2⟩ | z
      · omega
      · exact z
end
