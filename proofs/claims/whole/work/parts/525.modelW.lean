/-! the class's Model: its rows written -/
section
variable {h : aH} {o : Nat} {A : Nat → Nat → Int32} {N : Nat → Int64} {F : Nat → Nat}
theorem lenM_le (k : Nat) : lenM k ≤ 60 := by
  unfold lenM
  split <;> (try split) <;> (try split) <;> (try split) <;> decide
theorem isM.row (H : isM h o A N F) {k j : Nat} (h1 : 3 ≤ k) (h2 : k ≤ 11) (hj : j < lenM k) (x : Int32) : ∃ h', stI h (.ref (o + k)) (jI j) x = some h' ∧ isM h' o (upd2 A k (upd (A k) j x)) N F ∧ h'.length = h.length ∧ ∀ i, i ≠ o + k → h'[i]? = h[i]? := by
  obtain ⟨a, b0, b1, b2, b3, b4⟩ := H
  refine ⟨_, stI_of (by omega) (b3 k h1 h2) hj (by have := lenM_le k; omega), ⟨a, by rw [set_ne (by omega)]; exact b0, by rw [set_ne (by omega), upd2_ne (by omega)]; exact b1, by rw [set_ne (by omega)]; exact b2, fun i i1 i2 => ?_, ?_⟩, List.length_set .., fun i hi => set_ne (fun z => hi z.symm)⟩
  · by_cases q : i = k
    · rw [q, set_eq (b3 k h1 h2), upd2_eq]
    · rw [set_ne (by omega), upd2_ne q]
      exact b3 i i1 i2
  · rw [upd2_ne (by omega), upd2_ne (by omega), upd2_ne (by omega), upd2_ne (by omega), upd2_ne (by omega), upd2_ne (by omega), upd2_ne (by omega)]
    exact b4.set (by omega)
theorem isM.many (H : isM h o A N F) {j : Nat} (hj : j < 5) (x : Int32) : ∃ h', stI h (.ref (o + 1)) (jI j) x = some h' ∧ isM h' o (upd2 A 1 (upd (A 1) j x)) N F ∧ h'.length = h.length ∧ ∀ i, i ≠ o + 1 → h'[i]? = h[i]? := by
  obtain ⟨a, b0, b1, b2, b3, b4⟩ := H
  refine ⟨_, stI_of (by omega) b1 hj (by decide), ⟨a, by rw [set_ne (by omega)]; exact b0, by rw [set_eq b1, upd2_eq], by rw [set_ne (by omega)]; exact b2, fun i i1 i2 => by rw [set_ne (by omega), upd2_ne (by omega)]; exact b3 i i1 i2, ?_⟩, List.length_set .., fun i hi => set_ne (fun z => hi z.symm)⟩
  rw [upd2_ne (by omega), upd2_ne (by omega), upd2_ne (by omega), upd2_ne (by omega), upd2_ne (by omega), upd2_ne (by omega), upd2_ne (by omega)]
  exact b4.set (by omega)
theorem isM.names (H : isM h o A N F) {j : Nat} (hj : j < 11) (x : Int64) : ∃ h', stJ h (.ref (o + 2)) (jI j) x = some h' ∧ isM h' o A (vp_updL N j x) F ∧ h'.length = h.length ∧ ∀ i, i ≠ o + 2 → h'[i]? = h[i]? := by
  obtain ⟨a, b0, b1, b2, b3, b4⟩ := H
  exact ⟨_, stJ_of (by omega) b2 hj (by decide), ⟨a, by rw [set_ne (by omega)]; exact b0, by rw [set_ne (by omega)]; exact b1, set_eq b2, fun i i1 i2 => by rw [set_ne (by omega)]; exact b3 i i1 i2, b4.set (by omega)⟩, List.length_set .., fun i hi => set_ne (fun z => hi z.symm)⟩
theorem isM.num (H : isM h o A N F) {k : Nat} (hk : k = 4 ∨ k = 12 ∨ k = 13 ∨ k = 14 ∨ k = 15) (x : Nat) : ∃ h', pF h (.ref o) 2 k (.int (jI x)) = some h' ∧ isM h' o A N (upd2 F k x) ∧ h'.length = h.length ∧ ∀ i, i ≠ o → h'[i]? = h[i]? := by
  obtain ⟨a, b0, b1, b2, b3, b4⟩ := H
  have key : ∀ {fs : List Value}, fs = [.ref (o + 1), .ref (o + 2), .ref (o + 3), .ref (o + 4), .int (jI (upd2 F k x 4)), .ref (o + 5), .ref (o + 6), .ref (o + 7), .ref (o + 8), .ref (o + 9), .ref (o + 10), .ref (o + 11), .int (jI (upd2 F k x 12)), .int (jI (upd2 F k x 13)), .int (jI (upd2 F k x 14)), .int (jI (upd2 F k x 15)), .ref (o + 12)] → isM (h.set o (.inr (2, fs))) o A N (upd2 F k x) := fun {fs} e => by
    refine ⟨a, by rw [set_eq b0, e], by rw [set_ne (by omega)]; exact b1, by rw [set_ne (by omega)]; exact b2, fun i i1 i2 => by rw [set_ne (by omega)]; exact b3 i i1 i2, ?_⟩
    rw [upd2_ne (show 20 ≠ k by omega), upd2_ne (show 24 ≠ k by omega)]
    exact b4.set (by omega)
  rcases hk with rfl | rfl | rfl | rfl | rfl
  · exact ⟨_, pF_of (by omega) b0 (show 4 < 17 by decide), key (by rw [upd2_eq, upd2_ne (by decide), upd2_ne (by decide), upd2_ne (by decide), upd2_ne (by decide)]; rfl), List.length_set .., fun i hi => set_ne (fun z => hi z.symm)⟩
  · exact ⟨_, pF_of (by omega) b0 (show 12 < 17 by decide), key (by rw [upd2_eq, upd2_ne (by decide), upd2_ne (by decide), upd2_ne (by decide), upd2_ne (by decide)]; rfl), List.length_set .., fun i hi => set_ne (fun z => hi z.symm)⟩
  · exact ⟨_, pF_of (by omega) b0 (show 13 < 17 by decide), key (by rw [upd2_eq, upd2_ne (by decide), upd2_ne (by decide), upd2_ne (by decide), upd2_ne (by decide)]; rfl), List.length_set .., fun i hi => set_ne (fun z => hi z.symm)⟩
  · exact ⟨_, pF_of (by omega) b0 (show 14 < 17 by decide), key (by rw [upd2_eq, upd2_ne (by decide), upd2_ne (by decide), upd2_ne (by decide), upd2_ne (by decide)]; rfl), List.length_set .., fun i hi => set_ne (fun z => hi z.symm)⟩
  · exact ⟨_, pF_of (by omega) b0 (show 15 < 17 by decide), key (by rw [upd2_eq, upd2_ne (by decide), upd2_ne (by decide), upd2_ne (by decide), upd2_ne (by decide)]; rfl), List.length_set .., fun i hi => set_ne (fun z => hi z.symm)⟩
theorem isM.of {h' : aH} (H : isM h o A N F) (g : ∀ k, o ≤ k → k ≤ o + 19 → h'[k]? = h[k]?) : isM h' o A N F := by
  obtain ⟨a, b0, b1, b2, b3, b4⟩ := H
  exact ⟨a, by rw [g _ (by omega) (by omega)]; exact b0, by rw [g _ (by omega) (by omega)]; exact b1, by rw [g _ (by omega) (by omega)]; exact b2, fun i i1 i2 => by rw [g _ (by omega) (by omega)]; exact b3 i i1 i2, b4.of (fun i i1 i2 => g i (by omega) (by omega))⟩
/-- the rows of the formulas, anew -/
def aFm (A : Nat → Nat → Int32) (jn sl ww st mi en re : Nat → Int32) (k : Nat) : Nat → Int32 := if k = 13 then jn else if k = 14 then sl else if k = 15 then ww else if k = 16 then st else if k = 17 then mi else if k = 18 then en else if k = 19 then re else A k
theorem aFm_lt {A : Nat → Nat → Int32} {jn sl ww st mi en re : Nat → Int32} {k : Nat} (h : k < 13) : aFm A jn sl ww st mi en re k = A k := by
  unfold aFm
  rw [if_neg (by omega), if_neg (by omega), if_neg (by omega), if_neg (by omega), if_neg (by omega), if_neg (by omega), if_neg (by omega)]
theorem isM.formulas {h' : aH} {nf no : Nat} {jn sl ww st mi en re : Nat → Int32} (H : isM h o A N F) (g : ∀ k, o ≤ k → k ≤ o + 11 → h'[k]? = h[k]?) (FF : isF h' (o + 12) nf jn sl ww no st mi en re) : isM h' o (aFm A jn sl ww st mi en re) N (upd2 (upd2 F 20 nf) 24 no) := by
  obtain ⟨a, b0, b1, b2, b3, b4⟩ := H
  refine ⟨a, ?_, by rw [g _ (by omega) (by omega), aFm_lt (by decide)]; exact b1, by rw [g _ (by omega) (by omega)]; exact b2, fun i i1 i2 => by rw [g _ (by omega) (by omega), aFm_lt (by omega)]; exact b3 i i1 i2, ?_⟩
  · rw [g _ (by omega) (by omega), upd2_ne (by decide), upd2_ne (by decide), upd2_ne (by decide), upd2_ne (by decide), upd2_ne (by decide), upd2_ne (by decide), upd2_ne (by decide), upd2_ne (by decide), upd2_ne (by decide), upd2_ne (by decide)]
    exact b0
  · rw [upd2_eq, upd2_ne (by decide), upd2_eq]
    exact FF
end
/-- the draft says what was read so far -/
def cD (A : Nat → Nat → Int32) (N : Nat → Int64) (F : Nat → Nat) (σ : pTh) : Prop :=
  (∀ k, k < 5 → A 1 k = jI (thM σ k) ∧ thM σ k ≤ mxK k) ∧ (∀ s, dcl5 (thM σ) s → N s = wL 27 (thN σ s) ∧ okWo (thN σ s)) ∧
  (∀ s, decl (thM σ) s → A 3 s = thL σ s ∧ A 4 s = thH σ s ∧ -20 ≤ (thL σ s).toInt ∧ (thL σ s).toInt ≤ (thH σ s).toInt ∧ (thH σ s).toInt ≤ 20) ∧
  (F 4 = (thS σ).length ∧ F 4 ≤ 8 ∧ F 20 = thF σ ∧ thF σ ≤ 60 ∧ 2 * F 24 ≤ thF σ ∧ (thG σ).length = thM σ 4) ∧ okS (A 14) ∧
  (∀ i, i < F 24 → ∃ a b c : Nat, A 16 i = jI a ∧ A 17 i = jI (a + b) ∧ A 18 i = jI (a + b + c) ∧ a + b + c ≤ thF σ) ∧
  (∀ i x, (thS σ)[i]? = some x → A 5 i = jI x.1 ∧ x.1 < thM σ 0 ∧ okP2 A 6 7 i (thF σ) ∧ sgm A 6 7 i = x.2.1 ∧ okP2 A 8 9 i (F 24) ∧ sgo A 8 9 i = x.2.2 ∧ okFc (thM σ) 9 x.2.1 ∧ ∀ o ∈ x.2.2, okFc (thM σ) 9 o.1 ∧ okFc (thM σ) 9 o.2.1) ∧
  ∀ i l, (thG σ)[i]? = some l → okP2 A 10 11 i (thF σ) ∧ sgm A 10 11 i = l ∧ okFc (thM σ) 9 l
theorem mxK_bs {m : Nat → Nat} (h : ∀ k, k < 5 → m k ≤ mxK k) : ∀ k, k < 5 → bsN k + m k ≤ 11 := fun k hk => by
  have := h k hk
  match k, hk, this with
  | 0, _, t => show 0 + m 0 ≤ 11; have t : m 0 ≤ 3 := t; omega
  | 1, _, t => show 3 + m 1 ≤ 11; have t : m 1 ≤ 2 := t; omega
  | 2, _, t => show 5 + m 2 ≤ 11; have t : m 2 ≤ 2 := t; omega
  | 3, _, t => show 7 + m 3 ≤ 11; have t : m 3 ≤ 2 := t; omega
  | 4, _, t => show 9 + m 4 ≤ 11; have t : m 4 ≤ 2 := t; omega
theorem cD.nm {h : aH} {o : Nat} {A : Nat → Nat → Int32} {N : Nat → Int64} {F : Nat → Nat} {σ : pTh} (H : isM h o A N F) (D : cD A N F σ) : NmW h o (thM σ) (thN σ) :=
  ⟨H.1, _, _, _, H.2.1, rfl, rfl, H.2.2.1, H.2.2.2.1, fun k hk => ⟨(D.1 k hk).1, mxK_bs (fun k hk => (D.1 k hk).2) k hk⟩, D.2.1⟩
