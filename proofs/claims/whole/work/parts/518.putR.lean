/-! the reference's items: one more, many more -/
theorem seg2_keep {f g f' g' : Nat → Int32} : ∀ (n i : Nat), (∀ j, i ≤ j → j < i + n → f' j = f j ∧ g' j = g j) → seg2 f' g' i n = seg2 f g i n
  | 0, _, _ => rfl
  | n + 1, i, h => by
    show (f' i, g' i) :: seg2 f' g' (i + 1) n = (f i, g i) :: seg2 f g (i + 1) n
    obtain ⟨a, b⟩ := h i (by omega) (by omega)
    rw [a, b, seg2_keep n (i + 1) (fun j h1 h2 => h j (by omega) (by omega))]
theorem seg2_app (f g : Nat → Int32) : ∀ (a i b : Nat), seg2 f g i (a + b) = seg2 f g i a ++ seg2 f g (i + a) b
  | 0, i, b => by rw [Nat.zero_add]; rfl
  | a + 1, i, b => by
    rw [show a + 1 + b = (a + b) + 1 by omega]
    show (f i, g i) :: seg2 f g (i + 1) (a + b) = (f i, g i) :: (seg2 f g (i + 1) a ++ seg2 f g (i + (a + 1)) b)
    rw [seg2_app f g a (i + 1) b, show i + 1 + a = i + (a + 1) by omega]
/-- items that were laid behind it -/
def apB (L : List (Int32 × Int32)) (it : Nat) (B B' : Nat → Nat → Int32) : Prop := (∀ k, k ≠ 11 → k ≠ 12 → B' k = B k) ∧ (∀ j, j < it → B' 11 j = B 11 j ∧ B' 12 j = B 12 j) ∧ seg2 (B' 11) (B' 12) it L.length = L
theorem apB.nil {it : Nat} {B : Nat → Nat → Int32} : apB [] it B B := ⟨fun _ _ _ => rfl, fun _ _ => ⟨rfl, rfl⟩, rfl⟩
theorem apB.trans {L L' : List (Int32 × Int32)} {it : Nat} {B B1 B2 : Nat → Nat → Int32} (a : apB L it B B1) (b : apB L' (it + L.length) B1 B2) : apB (L ++ L') it B B2 := by
  refine ⟨fun k h1 h2 => (b.1 k h1 h2).trans (a.1 k h1 h2), fun j hj => ⟨(b.2.1 j (by omega)).1.trans (a.2.1 j hj).1, (b.2.1 j (by omega)).2.trans (a.2.1 j hj).2⟩, ?_⟩
  rw [List.length_append, seg2_app, b.2.2, seg2_keep (f := B1 11) (g := B1 12) L.length it (fun j h1 h2 => b.2.1 j (by omega)), a.2.2]
section
variable {h : aH} {t : Nat} {B : Nat → Nat → Int32} {W : Nat → Int64} {G : Nat → Nat}
theorem isT.row {k j : Nat} {x : Int32} (HT : isT h t B W G) (h1 : 1 ≤ k) (h2 : k ≤ 12) (h3 : k ≠ 6) (hj : j < lenT k) : ∃ h', stI h (.ref (t + k)) (jI j) x = some h' ∧ isT h' t (upd2 B k (upd (B k) j x)) W G ∧ h'.length = h.length ∧ ∀ i, i ≠ t + k → h'[i]? = h[i]? := by
  obtain ⟨a, h0, hw, hr⟩ := HT
  refine ⟨_, stI_of (by omega) (hr k h1 h2 h3) hj (by unfold lenT; split <;> (try split) <;> (try split) <;> decide), ⟨a, by rw [set_ne (by omega)]; exact h0, by rw [set_ne (by omega)]; exact hw, fun i i1 i2 i3 => ?_⟩, List.length_set .., fun i hi => set_ne (fun z => hi z.symm)⟩
  by_cases q : i = k
  · rw [q, set_eq (hr k h1 h2 h3), upd2_eq]
  · rw [set_ne (by omega), upd2_ne q]
    exact hr i i1 i2 i3
theorem isT.num {k : Nat} (HT : isT h t B W G) (hk : k = 6 ∨ k = 7) (x : Nat) : ∃ h', pF h (.ref t) 13 k (.int (jI x)) = some h' ∧ isT h' t B W (upd2 G k x) ∧ h'.length = h.length ∧ ∀ i, i ≠ t → h'[i]? = h[i]? := by
  obtain ⟨a, h0, hw, hr⟩ := HT
  rcases hk with rfl | rfl
  · refine ⟨_, pF_of (by omega) h0 (show 6 < 14 by decide), ⟨a, ?_, by rw [set_ne (by omega)]; exact hw, fun i i1 i2 i3 => by rw [set_ne (by omega)]; exact hr i i1 i2 i3⟩, List.length_set .., fun i hi => set_ne (fun z => hi z.symm)⟩
    rw [set_eq h0, upd2_eq, upd2_ne (by decide)]
    rfl
  · refine ⟨_, pF_of (by omega) h0 (show 7 < 14 by decide), ⟨a, ?_, by rw [set_ne (by omega)]; exact hw, fun i i1 i2 i3 => by rw [set_ne (by omega)]; exact hr i i1 i2 i3⟩, List.length_set .., fun i hi => set_ne (fun z => hi z.symm)⟩
    rw [set_eq h0, upd2_eq, upd2_ne (by decide)]
    rfl
theorem put_at (HT : isT h t B W G) (hg : G 7 < 400) (a b : Int32) : ∃ h' B', s_X13_put t a b h = some (.inl none, h') ∧ isT h' t B' W (upd2 G 7 (G 7 + 1)) ∧ apB [(a, b)] (G 7) B B' ∧ h'.length = h.length ∧ ∀ i, (i < t ∨ t + 12 < i) → h'[i]? = h[i]? := by
  have ht := HT.1
  obtain ⟨h1, e1, T1, l1, o1⟩ := HT.row (k := 11) (j := G 7) (x := a) (by decide) (by decide) (by decide) hg
  obtain ⟨h2, e2, T2, l2, o2⟩ := T1.row (k := 12) (j := G 7) (x := b) (by decide) (by decide) (by decide) hg
  obtain ⟨h3, e3, T3, l3, o3⟩ := T2.num (k := 7) (Or.inr rfl) (G 7 + 1)
  have g12 : ∀ {h : aH} {B : Nat → Nat → Int32}, isT h t B W G → gO h (.ref t) 13 12 = some (t + 11) ∧ gO h (.ref t) 13 13 = some (t + 12) ∧ gI h (.ref t) 13 7 = some (jI (G 7)) := fun HT => ⟨gO_of (by omega) HT.2.1 rfl, gO_of (by omega) HT.2.1 rfl, gI_of (by omega) HT.2.1 rfl⟩
  refine ⟨h3, _, ?_, T3, ⟨fun k k1 k2 => by rw [upd2_ne k2, upd2_ne k1], fun j hj => ⟨by rw [upd2_ne (by decide), upd2_eq, upd_ne (by omega)], by rw [upd2_eq, upd_ne (by omega), upd2_ne (by decide)]⟩, ?_⟩, by rw [l3, l2, l1], fun i hi => by rw [o3 i (by omega), o2 i (by omega), o1 i (by omega)]⟩
  · unfold s_X13_put
    rw [(g12 HT).1, Option.bind_some, (g12 HT).2.2, Option.bind_some, e1, Option.bind_some, (g12 T1).2.1, Option.bind_some, (g12 T1).2.2, Option.bind_some, e2, Option.bind_some, (g12 T2).2.2, Option.bind_some, jI_inc, e3, Option.bind_some]
  · show [(_, _)] = [(a, b)]
    rw [upd2_ne (by decide), upd2_eq, upd_eq, upd2_eq, upd_eq]
end
/-- terms: a factor, and those behind a '*' -/
def tmP (T : Nat → Nat) (n : Nat) (nm : Nat → List Nat) (m : Nat → Nat) (per : Nat) : Nat → Nat → Nat → (Nat × Nat) ⊕ (List (Int32 × Int32) × Nat)
  | 0, k, _ => .inl (1, k)
  | r + 1, k, nf => match fcP T n nm m per k nf with
    | .inl f => .inl (f, k)
    | .inr sw => if (tokS T n (k + 1)).1 = 42 then (match tmP T n nm m per r (k + 2) (nf + 1) with
      | .inl e => .inl e
      | .inr x => .inr (sw :: x.1, x.2)) else .inr ([sw], k + 1)
def tmF (j : Int32) : List (Int32 × Int32) → List pFa
  | [] => []
  | a :: r => (j, a.1, a.2) :: r.map (fun b => ((2 : Int32), b.1, b.2))
def pmO (c : Nat) : Option Int32 := if c = 43 then some 0 else if c = 45 then some 1 else none
theorem jnO_pm {c : Nat} (h : c ≠ 42) : jnO c = pmO c := by
  unfold jnO pmO
  rw [if_neg h]
theorem tmP_len {T : Nat → Nat} {n : Nat} {nm : Nat → List Nat} {m : Nat → Nat} {per : Nat} : ∀ (r k nf : Nat) (x : List (Int32 × Int32) × Nat), tmP T n nm m per r k nf = .inr x → 1 ≤ x.1.length ∧ x.1.length ≤ r ∧ (tokS T n x.2).1 ≠ 42
  | 0, _, _, _, h => by cases h
  | r + 1, k, nf, x, h => by
    have e0 : tmP T n nm m per (r + 1) k nf = match fcP T n nm m per k nf with
      | .inl f => .inl (f, k)
      | .inr sw => if (tokS T n (k + 1)).1 = 42 then (match tmP T n nm m per r (k + 2) (nf + 1) with
        | .inl e => .inl e
        | .inr x => .inr (sw :: x.1, x.2)) else .inr ([sw], k + 1) := rfl
    rw [e0] at h
    cases q : fcP T n nm m per k nf with
    | inl f => rw [q] at h; cases h
    | inr sw =>
      rw [q] at h
      dsimp only at h
      by_cases u : (tokS T n (k + 1)).1 = 42
      · rw [if_pos u] at h
        cases q2 : tmP T n nm m per r (k + 2) (nf + 1) with
        | inl e => rw [q2] at h; cases h
        | inr y =>
          rw [q2] at h
          cases h
          have := tmP_len r (k + 2) (nf + 1) y q2
          refine ⟨?_, ?_, this.2.2⟩
          · show 1 ≤ y.1.length + 1; omega
          · show y.1.length + 1 ≤ r + 1; omega
      · rw [if_neg u] at h
        cases h
        exact ⟨Nat.le_refl 1, by show 1 ≤ r + 1; omega, u⟩
/-- a sum, term by term -/
theorem smP_tm {T : Nat → Nat} {n : Nat} {nm : Nat → List Nat} {m : Nat → Nat} {per : Nat} : ∀ (r : Nat) (j : Int32) (k nf : Nat), smP T n nm m per r j k nf = match tmP T n nm m per r k nf with
    | .inl e => .inl e
    | .inr x => match pmO (tokS T n x.2).1 with
      | none => .inr (tmF j x.1, x.2)
      | some j' => match smP T n nm m per (r - x.1.length) j' (x.2 + 1) (nf + x.1.length) with
        | .inl e => .inl e
        | .inr y => .inr (tmF j x.1 ++ y.1, y.2)
  | 0, _, _, _ => rfl
  | r + 1, j, k, nf => by
    have e0 : smP T n nm m per (r + 1) j k nf = match fcP T n nm m per k nf with
      | .inl f => .inl (f, k)
      | .inr sw => match jnO (tokS T n (k + 1)).1 with
        | none => .inr ([(j, sw.1, sw.2)], k + 1)
        | some j' => match smP T n nm m per r j' (k + 2) (nf + 1) with
          | .inl e => .inl e
          | .inr x => .inr ((j, sw.1, sw.2) :: x.1, x.2) := rfl
    have e1 : tmP T n nm m per (r + 1) k nf = match fcP T n nm m per k nf with
      | .inl f => .inl (f, k)
      | .inr sw => if (tokS T n (k + 1)).1 = 42 then (match tmP T n nm m per r (k + 2) (nf + 1) with
        | .inl e => .inl e
        | .inr x => .inr (sw :: x.1, x.2)) else .inr ([sw], k + 1) := rfl
    rw [e0, e1]
    cases q : fcP T n nm m per k nf with
    | inl f => rfl
    | inr sw =>
      dsimp only
      by_cases u : (tokS T n (k + 1)).1 = 42
      · have ej : jnO (tokS T n (k + 1)).1 = some 2 := by rw [u]; rfl
        rw [if_pos u, ej]
        dsimp only
        rw [smP_tm r 2 (k + 2) (nf + 1)]
        cases q2 : tmP T n nm m per r (k + 2) (nf + 1) with
        | inl e => rfl
        | inr x =>
          dsimp only
          have ln := (tmP_len r (k + 2) (nf + 1) x q2).1
          have eF : (j, sw.1, sw.2) :: tmF 2 x.1 = tmF j (sw :: x.1) := by
            match x.1, ln with
            | a :: r', _ => rfl
          cases q3 : pmO (tokS T n x.2).1 with
          | none =>
            dsimp only
            rw [eF]
          | some j' =>
            dsimp only
            rw [List.length_cons, show r + 1 - (x.1.length + 1) = r - x.1.length by omega, show nf + (x.1.length + 1) = nf + 1 + x.1.length by omega]
            cases smP T n nm m per (r - x.1.length) j' (x.2 + 1) (nf + 1 + x.1.length) with
            | inl e => rfl
            | inr y =>
              dsimp only
              rw [← List.cons_append, eF]
      · rw [if_neg u, jnO_pm u]
        dsimp only
        cases q3 : pmO (tokS T n (k + 1)).1 with
        | none => rfl
        | some j' =>
          dsimp only
          show _ = match smP T n nm m per (r + 1 - 1) j' (k + 1 + 1) (nf + 1) with
            | .inl e => _
            | .inr y => _
          rw [Nat.add_sub_cancel]
          cases smP T n nm m per r j' (k + 2) (nf + 1) with
          | inl e => rfl
          | inr y => rfl
