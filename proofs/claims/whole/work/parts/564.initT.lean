/-! a Thing more, as the reference makes it -/
theorem bP_of {α β γ : Type} {o : Option (α × β)} {a : α} {b : β} {f : α → β → Option γ} (e : o = some (a, b)) : bP o f = f a b := by rw [e]; rfl
theorem nwO_of {fs : List Value} {ci : Nat} {h : aH} (hl : h.length < aE) : nwO fs ci h = some (h.length, h ++ [.inr (ci, fs)]) := if_pos hl
theorem nwA_of {ty : FieldType} {h : aH} {n : Nat} (hl : h.length < aE) (hn : n ≤ 1000000) (hb : componentBytes ty ≤ 8) : nwA ty h (jI n) = some (h.length, h ++ [.inl (ty, zA ty n)]) := by
  unfold nwA
  have e : n * componentBytes ty ≤ n * 8 := Nat.mul_le_mul_left n hb
  rw [if_pos ⟨jI_neg (by omega), hl, by rw [jI_cl (by omega)]; omega⟩, jI_cl (by omega)]
/-- a row made and put into a field of the object at o -/
theorem mk_row {ty : FieldType} {h : aH} {o ci k n x : Nat} {fs : List Value} (hx : h.length = x) (hl : x < aE) (hn : n ≤ 1000000) (hb : componentBytes ty ≤ 8) (ho : h[o]? = some (.inr (ci, fs))) (hk : k < fs.length) :
    ∃ h1 h2, nwA ty h (jI n) = some (x, h1) ∧ pF h1 (.ref o) ci k (.ref x) = some h2 ∧ h2.length = x + 1 ∧ h2[o]? = some (.inr (ci, fs.set k (.ref x))) ∧ h2[x]? = some (.inl (ty, zA ty n)) ∧ ∀ i, i ≠ o → i ≠ x → h2[i]? = h[i]? := by
  have hox : o < h.length := (List.getElem?_eq_some_iff.mp ho).1
  have ho1 : (h ++ [.inl (ty, zA ty n)])[o]? = some (.inr (ci, fs)) := by rw [List.getElem?_append_left hox]; exact ho
  refine ⟨_, _, ?_, pF_of (by omega) ho1 hk, ?_, set_eq ho1, ?_, fun i i1 i2 => ?_⟩
  · rw [nwA_of (by omega) hn hb, hx]
  · rw [List.length_set, List.length_append, hx]
    rfl
  · rw [set_ne (by omega), List.getElem?_append_right (by omega), hx, Nat.sub_self]
    rfl
  · rw [set_ne (fun e => i1 e.symm)]
    by_cases q : i < h.length
    · rw [List.getElem?_append_left q]
    · rw [List.getElem?_eq_none (by rw [List.length_append]; show h.length + 1 ≤ i; omega), List.getElem?_eq_none (by omega)]
set_option maxHeartbeats 8000000 in
theorem init13_at {h : aH} {o : Nat} (hx : h.length = o + 1) (hl : o + 13 < aE) (ho : h[o]? = some (.inr (13, dfX13))) : ∃ h', s_X13_init o h = some (.inl none, h', 12, 892) ∧ isT h' o (fun _ _ => 0) (fun _ => 0) (fun _ => 0) ∧ h'.length = o + 13 ∧ ∀ i, i < o → h'[i]? = h[i]? := by
  obtain ⟨g1, h1, a1, p1, l1, o1, c1, f1⟩ := mk_row (x := o + 1) (ty := .int) (k := 0) (n := 5) hx (by omega) (by decide) (by decide) ho (Nat.le_of_ble_eq_true rfl)
  obtain ⟨g2, h2, a2, p2, l2, o2, c2, f2⟩ := mk_row (x := o + 2) (ty := .int) (k := 1) (n := 11) l1 (by omega) (by decide) (by decide) o1 (Nat.le_of_ble_eq_true rfl)
  obtain ⟨g3, h3, a3, p3, l3, o3, c3, f3⟩ := mk_row (x := o + 3) (ty := .int) (k := 2) (n := 11) l2 (by omega) (by decide) (by decide) o2 (Nat.le_of_ble_eq_true rfl)
  obtain ⟨g4, h4, a4, p4, l4, o4, c4, f4⟩ := mk_row (x := o + 4) (ty := .int) (k := 3) (n := 11) l3 (by omega) (by decide) (by decide) o3 (Nat.le_of_ble_eq_true rfl)
  obtain ⟨g5, h5, a5, p5, l5, o5, c5, f5⟩ := mk_row (x := o + 5) (ty := .int) (k := 4) (n := 11) l4 (by omega) (by decide) (by decide) o4 (Nat.le_of_ble_eq_true rfl)
  obtain ⟨g6, h6, a6, p6, l6, o6, c6, f6⟩ := mk_row (x := o + 6) (ty := .long) (k := 5) (n := 11) l5 (by omega) (by decide) (by decide) o5 (Nat.le_of_ble_eq_true rfl)
  obtain ⟨g7, h7, a7, p7, l7, o7, c7, f7⟩ := mk_row (x := o + 7) (ty := .int) (k := 8) (n := 8) l6 (by omega) (by decide) (by decide) o6 (Nat.le_of_ble_eq_true rfl)
  obtain ⟨g8, h8, a8, p8, l8, o8, c8, f8⟩ := mk_row (x := o + 8) (ty := .int) (k := 9) (n := 8) l7 (by omega) (by decide) (by decide) o7 (Nat.le_of_ble_eq_true rfl)
  obtain ⟨g9, h9, a9, p9, l9, o9, c9, f9⟩ := mk_row (x := o + 9) (ty := .int) (k := 10) (n := 8) l8 (by omega) (by decide) (by decide) o8 (Nat.le_of_ble_eq_true rfl)
  obtain ⟨g10, h10, a10, p10, l10, o10, c10, f10⟩ := mk_row (x := o + 10) (ty := .int) (k := 11) (n := 8) l9 (by omega) (by decide) (by decide) o9 (Nat.le_of_ble_eq_true rfl)
  obtain ⟨g11, h11, a11, p11, l11, o11, c11, f11⟩ := mk_row (x := o + 11) (ty := .int) (k := 12) (n := 400) l10 (by omega) (by decide) (by decide) o10 (Nat.le_of_ble_eq_true rfl)
  obtain ⟨g12, h12, a12, p12, l12, o12, c12, f12⟩ := mk_row (x := o + 12) (ty := .int) (k := 13) (n := 400) l11 (by omega) (by decide) (by decide) o11 (Nat.le_of_ble_eq_true rfl)
  have a1' : nwA .int h 5 = some (o + 1, g1) := a1
  have a2' : nwA .int h1 11 = some (o + 2, g2) := a2
  have a3' : nwA .int h2 11 = some (o + 3, g3) := a3
  have a4' : nwA .int h3 11 = some (o + 4, g4) := a4
  have a5' : nwA .int h4 11 = some (o + 5, g5) := a5
  have a6' : nwA .long h5 11 = some (o + 6, g6) := a6
  have a7' : nwA .int h6 8 = some (o + 7, g7) := a7
  have a8' : nwA .int h7 8 = some (o + 8, g8) := a8
  have a9' : nwA .int h8 8 = some (o + 9, g9) := a9
  have a10' : nwA .int h9 8 = some (o + 10, g10) := a10
  have a11' : nwA .int h10 400 = some (o + 11, g11) := a11
  have a12' : nwA .int h11 400 = some (o + 12, g12) := a12
  refine ⟨h12, ?_, ⟨by omega, o12, ?_, fun k k1 k2 k3 => ?_⟩, l12, fun i hi => ?_⟩
  · unfold s_X13_init
    rw [bP_of a1', p1, Option.bind_some, bP_of a2', p2, Option.bind_some, bP_of a3', p3, Option.bind_some, bP_of a4', p4, Option.bind_some, bP_of a5', p5, Option.bind_some, bP_of a6', p6, Option.bind_some, bP_of a7', p7, Option.bind_some, bP_of a8', p8, Option.bind_some, bP_of a9', p9, Option.bind_some, bP_of a10', p10, Option.bind_some, bP_of a11', p11, Option.bind_some, bP_of a12', p12, Option.bind_some]
    simp only [wC]
    rw [ck_of (by decide) (by decide), ck_of (by decide) (by decide), ck_of (by decide) (by decide), ck_of (by decide) (by decide), ck_of (by decide) (by decide), ck_of (by decide) (by decide), ck_of (by decide) (by decide), ck_of (by decide) (by decide), ck_of (by decide) (by decide), ck_of (by decide) (by decide), ck_of (by decide) (by decide), ck_of (by decide) (by decide)]
    rfl
  · rw [f12 _ (by omega) (by omega), f11 _ (by omega) (by omega), f10 _ (by omega) (by omega), f9 _ (by omega) (by omega), f8 _ (by omega) (by omega), f7 _ (by omega) (by omega)]; exact c6
  · have hk : k = 1 ∨ k = 2 ∨ k = 3 ∨ k = 4 ∨ k = 5 ∨ k = 7 ∨ k = 8 ∨ k = 9 ∨ k = 10 ∨ k = 11 ∨ k = 12 := by omega
    rcases hk with rfl | rfl | rfl | rfl | rfl | rfl | rfl | rfl | rfl | rfl | rfl
    · rw [f12 _ (by omega) (by omega), f11 _ (by omega) (by omega), f10 _ (by omega) (by omega), f9 _ (by omega) (by omega), f8 _ (by omega) (by omega), f7 _ (by omega) (by omega), f6 _ (by omega) (by omega), f5 _ (by omega) (by omega), f4 _ (by omega) (by omega), f3 _ (by omega) (by omega), f2 _ (by omega) (by omega)]; exact c1
    · rw [f12 _ (by omega) (by omega), f11 _ (by omega) (by omega), f10 _ (by omega) (by omega), f9 _ (by omega) (by omega), f8 _ (by omega) (by omega), f7 _ (by omega) (by omega), f6 _ (by omega) (by omega), f5 _ (by omega) (by omega), f4 _ (by omega) (by omega), f3 _ (by omega) (by omega)]; exact c2
    · rw [f12 _ (by omega) (by omega), f11 _ (by omega) (by omega), f10 _ (by omega) (by omega), f9 _ (by omega) (by omega), f8 _ (by omega) (by omega), f7 _ (by omega) (by omega), f6 _ (by omega) (by omega), f5 _ (by omega) (by omega), f4 _ (by omega) (by omega)]; exact c3
    · rw [f12 _ (by omega) (by omega), f11 _ (by omega) (by omega), f10 _ (by omega) (by omega), f9 _ (by omega) (by omega), f8 _ (by omega) (by omega), f7 _ (by omega) (by omega), f6 _ (by omega) (by omega), f5 _ (by omega) (by omega)]; exact c4
    · rw [f12 _ (by omega) (by omega), f11 _ (by omega) (by omega), f10 _ (by omega) (by omega), f9 _ (by omega) (by omega), f8 _ (by omega) (by omega), f7 _ (by omega) (by omega), f6 _ (by omega) (by omega)]; exact c5
    · rw [f12 _ (by omega) (by omega), f11 _ (by omega) (by omega), f10 _ (by omega) (by omega), f9 _ (by omega) (by omega), f8 _ (by omega) (by omega)]; exact c7
    · rw [f12 _ (by omega) (by omega), f11 _ (by omega) (by omega), f10 _ (by omega) (by omega), f9 _ (by omega) (by omega)]; exact c8
    · rw [f12 _ (by omega) (by omega), f11 _ (by omega) (by omega), f10 _ (by omega) (by omega)]; exact c9
    · rw [f12 _ (by omega) (by omega), f11 _ (by omega) (by omega)]; exact c10
    · rw [f12 _ (by omega) (by omega)]; exact c11
    · exact c12
  · rw [f12 _ (by omega) (by omega), f11 _ (by omega) (by omega), f10 _ (by omega) (by omega), f9 _ (by omega) (by omega), f8 _ (by omega) (by omega), f7 _ (by omega) (by omega), f6 _ (by omega) (by omega), f5 _ (by omega) (by omega), f4 _ (by omega) (by omega), f3 _ (by omega) (by omega), f2 _ (by omega) (by omega), f1 _ (by omega) (by omega)]
