/-! the class reads a test -/
theorem seg3_keep {jn sl ww jn' sl' ww' : Nat → Int32} : ∀ (n i : Nat), (∀ j, i ≤ j → j < i + n → jn' j = jn j ∧ sl' j = sl j ∧ ww' j = ww j) → seg3 jn' sl' ww' i n = seg3 jn sl ww i n
  | 0, _, _ => rfl
  | n + 1, i, h => by
    show (jn' i, sl' i, ww' i) :: seg3 jn' sl' ww' (i + 1) n = (jn i, sl i, ww i) :: seg3 jn sl ww (i + 1) n
    obtain ⟨a, b, c⟩ := h i (by omega) (by omega)
    rw [a, b, c, seg3_keep n (i + 1) (fun j h1 h2 => h j (by omega) (by omega))]
theorem inRow.trans {l l' : List pFa} {nf : Nat} {jn sl ww jn1 sl1 ww1 jn2 sl2 ww2 : Nat → Int32} (a : inRow l nf jn sl ww jn1 sl1 ww1) (b : inRow l' (nf + l.length) jn1 sl1 ww1 jn2 sl2 ww2) : (∀ j, j < nf → jn2 j = jn j ∧ sl2 j = sl j ∧ ww2 j = ww j) ∧ seg3 jn2 sl2 ww2 nf l.length = l := by
  refine ⟨fun j hj => ?_, ?_⟩
  · obtain ⟨p1, p2, p3⟩ := b.1 j (by omega)
    obtain ⟨q1, q2, q3⟩ := a.1 j hj
    exact ⟨p1.trans q1, p2.trans q2, p3.trans q3⟩
  · rw [seg3_keep _ _ (fun j h1 h2 => b.1 j (by omega))]
    exact a.2
def fLn (l : List pOne) : Nat := match l with
  | [] => 0
  | o :: r => oLn o + fLn r
/-- ones that stand behind no; their pieces lie between nf and nf' -/
def inOne (l : List pOne) (no nf : Nat) (jn' sl' ww' st mi en re st' mi' en' re' : Nat → Int32) : Prop :=
  (∀ j, j < no → st' j = st j ∧ mi' j = mi j ∧ en' j = en j ∧ re' j = re j) ∧ segO jn' sl' ww' st' mi' en' re' no l.length = l ∧ ∀ j, no ≤ j → j < no + l.length → ∃ a b c : Nat, st' j = jI a ∧ mi' j = jI (a + b) ∧ en' j = jI (a + b + c) ∧ nf ≤ a ∧ a + b + c ≤ nf + fLn l
section
variable {h : aH} {o nf no : Nat} {jn sl wh st mi en re : Nat → Int32}
theorem addOne_at (H : isF h o nf jn sl wh no st mi en re) (hn : no < 30) (a b c : Int32) : ∃ h', s_X0_addOne o a b c h = some (.inl none, h') ∧ isF h' o nf jn sl wh (no + 1) (upd st no a) (upd mi no b) (upd en no (jI nf)) (upd re no c) ∧ (∀ k, (k < o ∨ o + 7 < k) → h'[k]? = h[k]?) ∧ h'.length = h.length := by
  obtain ⟨q, h0, h1, h2, h3, h4, h5, h6, h7⟩ := H
  have e1 := stI_of (h := h) (a := o + 4) (j := no) (x := a) (by omega) h4 hn (by decide)
  obtain ⟨k1, hk1⟩ : ∃ k1, k1 = h.set (o + 4) (.inl (.int, 30, .inl (upd st no a))) := ⟨_, rfl⟩
  rw [← hk1] at e1
  have a0 := keepC (k := o) hk1 (by omega) h0
  have a5 := keepC (k := o + 5) hk1 (by omega) h5
  have a6 := keepC (k := o + 6) hk1 (by omega) h6
  have a7 := keepC (k := o + 7) hk1 (by omega) h7
  have a4 : k1[o + 4]? = some (.inl (.int, 30, .inl (upd st no a))) := by rw [hk1]; exact set_eq h4
  have e2 := stI_of (h := k1) (a := o + 5) (j := no) (x := b) (by omega) a5 hn (by decide)
  obtain ⟨k2, hk2⟩ : ∃ k2, k2 = k1.set (o + 5) (.inl (.int, 30, .inl (upd mi no b))) := ⟨_, rfl⟩
  rw [← hk2] at e2
  have b0 := keepC (k := o) hk2 (by omega) a0
  have b4 := keepC (k := o + 4) hk2 (by omega) a4
  have b6 := keepC (k := o + 6) hk2 (by omega) a6
  have b7 := keepC (k := o + 7) hk2 (by omega) a7
  have b5 : k2[o + 5]? = some (.inl (.int, 30, .inl (upd mi no b))) := by rw [hk2]; exact set_eq a5
  have e3 := stI_of (h := k2) (a := o + 6) (j := no) (x := jI nf) (by omega) b6 hn (by decide)
  obtain ⟨k3, hk3⟩ : ∃ k3, k3 = k2.set (o + 6) (.inl (.int, 30, .inl (upd en no (jI nf)))) := ⟨_, rfl⟩
  rw [← hk3] at e3
  have c0 := keepC (k := o) hk3 (by omega) b0
  have c4 := keepC (k := o + 4) hk3 (by omega) b4
  have c5 := keepC (k := o + 5) hk3 (by omega) b5
  have c7 := keepC (k := o + 7) hk3 (by omega) b7
  have c6 : k3[o + 6]? = some (.inl (.int, 30, .inl (upd en no (jI nf)))) := by rw [hk3]; exact set_eq b6
  have e4 := stI_of (h := k3) (a := o + 7) (j := no) (x := c) (by omega) c7 hn (by decide)
  obtain ⟨k4, hk4⟩ : ∃ k4, k4 = k3.set (o + 7) (.inl (.int, 30, .inl (upd re no c))) := ⟨_, rfl⟩
  rw [← hk4] at e4
  have d0 := keepC (k := o) hk4 (by omega) c0
  have d4 := keepC (k := o + 4) hk4 (by omega) c4
  have d5 := keepC (k := o + 5) hk4 (by omega) c5
  have d6 := keepC (k := o + 6) hk4 (by omega) c6
  have d7 : k4[o + 7]? = some (.inl (.int, 30, .inl (upd re no c))) := by rw [hk4]; exact set_eq c7
  have e5 : pF k4 (.ref o) 0 4 (.int (jI (no + 1))) = some (k4.set o (.inr (0, [.int (jI nf), .ref (o + 1), .ref (o + 2), .ref (o + 3), .int (jI (no + 1)), .ref (o + 4), .ref (o + 5), .ref (o + 6), .ref (o + 7)]))) := by
    rw [pF_of (by omega) d0 (show 4 < 9 by decide)]
    rfl
  have oth : ∀ k, k ≠ o → k ≠ o + 4 → k ≠ o + 5 → k ≠ o + 6 → k ≠ o + 7 → (k4.set o (.inr (0, [.int (jI nf), .ref (o + 1), .ref (o + 2), .ref (o + 3), .int (jI (no + 1)), .ref (o + 4), .ref (o + 5), .ref (o + 6), .ref (o + 7)])))[k]? = h[k]? := fun k u0 u1 u2 u3 u4 => by
    rw [set_ne (by omega), hk4, set_ne (by omega), hk3, set_ne (by omega), hk2, set_ne (by omega), hk1, set_ne (by omega)]
  refine ⟨_, ?_, ⟨q, set_eq d0, by rw [oth _ (by omega) (by omega) (by omega) (by omega) (by omega)]; exact h1, by rw [oth _ (by omega) (by omega) (by omega) (by omega) (by omega)]; exact h2, by rw [oth _ (by omega) (by omega) (by omega) (by omega) (by omega)]; exact h3, by rw [set_ne (by omega)]; exact d4, by rw [set_ne (by omega)]; exact d5, by rw [set_ne (by omega)]; exact d6, by rw [set_ne (by omega)]; exact d7⟩, fun k hk => oth k (by omega) (by omega) (by omega) (by omega) (by omega), by rw [List.length_set, hk4, List.length_set, hk3, List.length_set, hk2, List.length_set, hk1, List.length_set]⟩
  unfold s_X0_addOne
  rw [gI_of (x := jI no) (k := 4) (by omega) h0 rfl, Option.bind_some, if_neg (show ¬ (30 : Int32) ≤ jI no from fun z => by have := (jI_le (j := 30) (by omega) (by omega)).mp z; omega), gO_of (x := o + 4) (k := 5) (by omega) h0 rfl, Option.bind_some, Option.bind_some, e1, Option.bind_some, gO_of (x := o + 5) (k := 6) (by omega) a0 rfl, Option.bind_some, gI_of (x := jI no) (k := 4) (by omega) a0 rfl, Option.bind_some, e2, Option.bind_some, gO_of (x := o + 6) (k := 7) (by omega) b0 rfl, Option.bind_some, gI_of (x := jI no) (k := 4) (by omega) b0 rfl, Option.bind_some, gI_of (x := jI nf) (k := 0) (by omega) b0 rfl, Option.bind_some, e3, Option.bind_some, gO_of (x := o + 7) (k := 8) (by omega) c0 rfl, Option.bind_some, gI_of (x := jI no) (k := 4) (by omega) c0 rfl, Option.bind_some, e4, Option.bind_some, gI_of (x := jI no) (k := 4) (by omega) d0 rfl, Option.bind_some, jI_inc, e5, Option.bind_some]
end
theorem smP_len {T : Nat → Nat} {n : Nat} {nm : Nat → List Nat} {m : Nat → Nat} {per : Nat} : ∀ (r : Nat) (j : Int32) (k nf : Nat) (x : List pFa × Nat), smP T n nm m per r j k nf = .inr x → 1 ≤ x.1.length
  | 0, _, _, _, _, h => by cases h
  | r + 1, j, k, nf, x, h => by
    have e0 : smP T n nm m per (r + 1) j k nf = match fcP T n nm m per k nf with
      | .inl f => .inl (f, k)
      | .inr sw => match jnO (tokS T n (k + 1)).1 with
        | none => .inr ([(j, sw.1, sw.2)], k + 1)
        | some j' => match smP T n nm m per r j' (k + 2) (nf + 1) with
          | .inl e => .inl e
          | .inr x => .inr ((j, sw.1, sw.2) :: x.1, x.2) := rfl
    rw [e0] at h
    cases q : fcP T n nm m per k nf with
    | inl f => rw [q] at h; cases h
    | inr sw =>
      rw [q] at h
      dsimp only at h
      cases q2 : jnO (tokS T n (k + 1)).1 with
      | none => rw [q2] at h; cases h; exact Nat.le_refl 1
      | some j' =>
        rw [q2] at h
        dsimp only at h
        cases q3 : smP T n nm m per r j' (k + 2) (nf + 1) with
        | inl e => rw [q3] at h; cases h
        | inr y => rw [q3] at h; cases h; show 1 ≤ y.1.length + 1; omega
theorem suP_len {T : Nat → Nat} {n : Nat} {nm : Nat → List Nat} {m : Nat → Nat} {per k nf : Nat} {x : List pFa × Nat} (h : suP T n nm m per k nf = .inr x) : 1 ≤ x.1.length := by
  unfold suP at h
  split at h <;> exact smP_len _ _ _ _ _ h
section
variable {T : Nat → Nat} {n e mo fo pr : Nat} {fa pl wh : Int32} {m : Nat → Nat} {nm : Nat → List Nat}
theorem test2_go (hmf : okFo mo fo) (hpr : pr ≤ 9) : ∀ (r i f : Nat) (k nf no : Nat) (h : aH) (jn sl ww st mi en re : Nat → Int32), i + r = 31 → r < f → nf ≤ 60 → 2 * no ≤ nf → PCw h T n e fa pl k wh (jI pr) mo fo → NmW h mo m nm → isF h fo nf jn sl ww no st mi en re → okS sl →
    (∀ x, teP T n nm m pr r k nf = .inl x → ∃ h', s_X6_test_2 f 51 (jI i) h = some (.inl (some (.int 0)), h') ∧ FaC h h' T n x (jI pr) mo fo) ∧
    (∀ x, teP T n nm m pr r k nf = .inr x → nf + fLn x.1 ≤ 60 ∧ 2 * (no + x.1.length) ≤ nf + fLn x.1 ∧ ∃ h' jn' sl' ww' st' mi' en' re', s_X6_test_2 f 51 (jI i) h = some (.inl (some (.int 1)), h') ∧ PCw h' T n e fa pl x.2 wh (jI pr) mo fo ∧ isF h' fo (nf + fLn x.1) jn' sl' ww' (no + x.1.length) st' mi' en' re' ∧ (∀ j, j < nf → jn' j = jn j ∧ sl' j = sl j ∧ ww' j = ww j) ∧ (inOne x.1 no nf jn' sl' ww' st mi en re st' mi' en' re' ∧ okS sl') ∧ FrS fo h h')
  | _, _, 0, _, _, _, _, _, _, _, _, _, _, _, _, hf, _, _, _, _, _, _ => by omega
  | 0, i, f + 1, k, nf, no, h, jn, sl, ww, st, mi, en, re, hi, hf, hnf, h2, X, NM, FF, hS => by
    refine ⟨fun x hx => ?_, fun x hx => by cases hx⟩
    cases hx
    obtain ⟨h', e1, F1⟩ := X.failX FF hS hmf 1
    refine ⟨h', ?_, F1⟩
    show s_X6_test_2_b (s_X6_test_2 f) 51 (jI i) h = _
    unfold s_X6_test_2_b
    have e1' : s_X6_fail 51 1 h = _ := e1
    rw [if_pos (show (30 : Int32) < jI i from (jI_lt (j := 30) (by omega) (by omega)).mpr (by omega)), X.kO, e1']
    rfl
  | r + 1, i, f + 1, k, nf, no, h, jn, sl, ww, st, mi, en, re, hi, hf, hnf, h2, X, NM, FF, hS => by
    have qn := okFo_ne hmf
    have n30 : ¬ (30 : Int32) < jI i := fun z => by have := (jI_lt (j := 30) (by omega) (by omega)).mp z; omega
    have gfo : ∀ {h : aH} {k : Nat} {nf no : Nat} {jn sl ww st mi en re : Nat → Int32}, PCw h T n e fa pl k wh (jI pr) mo fo → isF h fo nf jn sl ww no st mi en re → gO h (.ref 51) 6 6 = some fo ∧ gI h (.ref fo) 0 0 = some (jI nf) := fun X FF => ⟨gO_of (ltE (by decide)) X.1 rfl, gI_of (Nat.lt_of_lt_of_le (show fo < 51 by omega) (by decide)) FF.2.1 rfl⟩
    obtain ⟨c1, c2⟩ := sum_at hmf hpr hnf X NM FF hS
    have e0 : teP T n nm m pr (r + 1) k nf = match onP T n nm m pr k nf with
      | .inl e => .inl e
      | .inr x => if isWd T n 7 x.2 = true then (match teP T n nm m pr r (x.2 + 1) (nf + oLn x.1) with
        | .inl e => .inl e
        | .inr y => .inr (x.1 :: y.1, y.2)) else .inr ([x.1], x.2) := rfl
    rw [e0]
    unfold onP
    cases q1 : suP T n nm m pr k nf with
    | inl z =>
      refine ⟨fun x hx => ?_, fun x hx => by cases hx⟩
      cases hx
      obtain ⟨h', a, b⟩ := c1 z q1
      refine ⟨h', ?_, b⟩
      show s_X6_test_2_b (s_X6_test_2 f) 51 (jI i) h = _
      unfold s_X6_test_2_b
      rw [if_neg n30, (gfo X FF).1, Option.bind_some, (gfo X FF).2, Option.bind_some, X.kO, a]
      rfl
    | inr z =>
      obtain ⟨w1, h1, jn1, sl1, ww1, a1, X1, F1, ⟨R1, hS1⟩, f1⟩ := c2 z q1
      have l1 := suP_len q1
      have NM1 : NmW h1 mo m nm := NM.of (fun i h1 h2 => f1.2 i (by omega) (by omega))
      have head : ∀ {y : aO}, (if jI (tokS T n z.2).1 = 60 then (s_X6_test_66 (s_X6_test_2 f) 51 (jI i) (jI nf) (jI (nf + z.1.length)) (jI (tokS T n z.2).1) h1) else (if jI (tokS T n z.2).1 = 62 then (s_X6_test_66 (s_X6_test_2 f) 51 (jI i) (jI nf) (jI (nf + z.1.length)) (jI (tokS T n z.2).1) h1) else (if jI (tokS T n z.2).1 = 61 then (s_X6_test_66 (s_X6_test_2 f) 51 (jI i) (jI nf) (jI (nf + z.1.length)) (jI (tokS T n z.2).1) h1) else (kO h1 51 6 (cI (s_X6_fail 51 1 h1) fun x62 h62 => rtZ x62 h62))))) = y → s_X6_test_2 (f + 1) 51 (jI i) h = y := by
        intro y hy
        show s_X6_test_2_b (s_X6_test_2 f) 51 (jI i) h = _
        unfold s_X6_test_2_b
        rw [if_neg n30, (gfo X FF).1, Option.bind_some, (gfo X FF).2, Option.bind_some, X.kO, a1]
        simp only [cI]
        rw [if_neg (show ¬ (1 : Int32) = 0 by decide), (gfo X1 F1).1, Option.bind_some, (gfo X1 F1).2, Option.bind_some, X1.kO, kind_at X1]
        exact hy
      have k60 : jI (tokS T n z.2).1 = 60 ↔ (tokS T n z.2).1 = 60 := X1.kd 60 (by decide)
      have k62 : jI (tokS T n z.2).1 = 62 ↔ (tokS T n z.2).1 = 62 := X1.kd 62 (by decide)
      have k61 : jI (tokS T n z.2).1 = 61 ↔ (tokS T n z.2).1 = 61 := X1.kd 61 (by decide)
      dsimp only
      by_cases qr : isRl (tokS T n z.2).1 = true
      · rw [if_pos qr]
        have qr' := of_decide_eq_true qr
        obtain ⟨h2, x2, g2, p2, X2, f2, o2⟩ := X1.next hmf (by omega)
        have NM2 : NmW h2 mo m nm := NM1.of (fun i h1 h2 => f2.2 i (by omega) (by omega))
        have F2 := F1.of (h' := h2) (fun i h1 h2 => o2 i (by omega))
        obtain ⟨d1, d2⟩ := sum_at hmf hpr w1 X2 NM2 F2 hS1
        have h66 : ∀ {y : aO}, s_X6_test_66 (s_X6_test_2 f) 51 (jI i) (jI nf) (jI (nf + z.1.length)) (jI (tokS T n z.2).1) h1 = y → s_X6_test_2 (f + 1) 51 (jI i) h = y := by
          intro y hy
          refine head ?_
          rcases qr' with u | u | u
          · rw [if_pos (k60.mpr u)]; exact hy
          · rw [if_neg (fun v => by have := k60.mp v; omega), if_pos (k62.mpr u)]; exact hy
          · rw [if_neg (fun v => by have := k60.mp v; omega), if_neg (fun v => by have := k62.mp v; omega), if_pos (k61.mpr u)]; exact hy
        cases q2 : suP T n nm m pr (z.2 + 1) (nf + z.1.length) with
        | inl y =>
          refine ⟨fun x hx => ?_, fun x hx => by cases hx⟩
          cases hx
          obtain ⟨h', a, b⟩ := d1 y q2
          refine ⟨h', h66 ?_, FaC.trans (f1.trans f2) b⟩
          unfold s_X6_test_66
          rw [g2, Option.bind_some, p2, Option.bind_some, X2.kO, a]
          rfl
        | inr y =>
          obtain ⟨w3, h3, jn3, sl3, ww3, a3, X3, F3, ⟨R3, hS3⟩, f3⟩ := d2 y q2
          have l3 := suP_len q2
          have NM3 : NmW h3 mo m nm := NM2.of (fun i h1 h2 => f3.2 i (by omega) (by omega))
          obtain ⟨h4, a4, F4, o4, ln4⟩ := addOne_at F3 (by omega) (jI nf) (jI (nf + z.1.length)) (jI (tokS T n z.2).1)
          have X4 : PCw h4 T n e fa pl y.2 wh (jI pr) mo fo := ⟨by unfold RdW; rw [o4 51 (by omega)]; exact X3.1, X3.2.1.of (fun i h1 h2 => o4 i (by omega)), X3.2.2⟩
          have NM4 : NmW h4 mo m nm := NM3.of (fun i h1 h2 => o4 i (by omega))
          have f4 : FrS fo h3 h4 := ⟨ln4, fun i _ hi => o4 i hi⟩
          have f04 : FrS fo h h4 := ((f1.trans f2).trans f3).trans f4
          have RR := R1.trans R3
          have kf : ∀ {β : Type} {y : Option β}, kO h3 fo 0 y = y := kO_of (Nat.lt_of_lt_of_le (show fo < 51 by omega) (by decide)) F3.2.1
          have ol : oLn (z.1, y.1, jI (tokS T n z.2).1) = z.1.length + y.1.length := rfl
          -- the one that stands now, over any rows that keep it
          have one : ∀ (jn' sl' ww' st' mi' en' re' : Nat → Int32), (∀ j, j < nf + z.1.length + y.1.length → jn' j = jn3 j ∧ sl' j = sl3 j ∧ ww' j = ww3 j) → st' no = jI nf → mi' no = jI (nf + z.1.length) → en' no = jI (nf + z.1.length + y.1.length) → re' no = jI (tokS T n z.2).1 → seg1 jn' sl' ww' st' mi' en' re' no = (z.1, y.1, jI (tokS T n z.2).1) := by
            intro jn' sl' ww' st' mi' en' re' hk e1 e2 e3 e4
            unfold seg1
            rw [e1, e2, e3, e4, jI_cl (by omega), jI_cl (by omega), jI_cl (by omega), show nf + z.1.length - nf = z.1.length by omega, show nf + z.1.length + y.1.length - (nf + z.1.length) = y.1.length by omega, seg3_keep (jn := jn3) (sl := sl3) (ww := ww3) z.1.length nf (fun j a b => hk j (by omega)), seg3_keep (jn := jn3) (sl := sl3) (ww := ww3) y.1.length (nf + z.1.length) (fun j a b => hk j (by omega)), RR.2, R3.2]
          have h66' : ∀ {v : aO}, (if b01 (isWd T n 7 y.2) = 0 then (rtZ 1 h4) else ((gI h4 (.ref 51) 6 2).bind fun x109 => (pF h4 (.ref 51) 6 2 (.int (x109 + 1))).bind fun h114 => s_X6_test_2 f 51 (jI i + 1) h114)) = v → s_X6_test_2 (f + 1) 51 (jI i) h = v := by
            intro v hv
            refine h66 ?_
            unfold s_X6_test_66
            rw [g2, Option.bind_some, p2, Option.bind_some, X2.kO, a3]
            simp only [cI]
            have iw : s_X6_isWord 51 7 h4 = _ := isWord_at X4 (i := 7) (by decide)
            rw [if_neg (show ¬ (1 : Int32) = 0 by decide), (gfo X3 F3).1, Option.bind_some, kf, a4]
            simp only [cN]
            rw [X4.kO, iw]
            exact hv
          dsimp only
          by_cases qw : isWd T n 7 y.2 = true
          · rw [if_pos qw]
            have tn : (tokS T n y.2).1 ≠ 0 := by
              have := (of_decide_eq_true qw).1
              omega
            obtain ⟨h5, x5, g5, p5, X5, f5, o5⟩ := X4.next hmf tn
            have NM5 : NmW h5 mo m nm := NM4.of (fun i h1 h2 => f5.2 i (by omega) (by omega))
            have F5 := F4.of (h' := h5) (fun i h1 h2 => o5 i (by omega))
            have nfe : nf + z.1.length + y.1.length = nf + oLn (z.1, y.1, jI (tokS T n z.2).1) := by rw [ol]; omega
            rw [nfe] at F5
            obtain ⟨b1, b2⟩ := test2_go hmf hpr r (i + 1) f (y.2 + 1) (nf + oLn (z.1, y.1, jI (tokS T n z.2).1)) (no + 1) h5 _ _ _ _ _ _ _ (by omega) (by omega) (by rw [ol]; omega) (by rw [ol]; omega) X5 NM5 F5 hS3
            have go : ∀ {v : aO}, s_X6_test_2 f 51 (jI (i + 1)) h5 = v → s_X6_test_2 (f + 1) 51 (jI i) h = v := by
              intro v hv
              refine h66' ?_
              rw [qw, if_neg (show ¬ b01 true = 0 by decide), g5, Option.bind_some, p5, Option.bind_some, jI_inc]
              exact hv
            cases q3 : teP T n nm m pr r (y.2 + 1) (nf + oLn (z.1, y.1, jI (tokS T n z.2).1)) with
            | inl v =>
              refine ⟨fun x hx => ?_, fun x hx => by cases hx⟩
              cases hx
              obtain ⟨h', a, b⟩ := b1 v q3
              exact ⟨h', go a, FaC.trans (f04.trans f5) b⟩
            | inr v =>
              refine ⟨fun x hx => (by cases hx), fun x hx => ?_⟩
              cases hx
              obtain ⟨u1, u2, h', jn', sl', ww', st', mi', en', re', a, b, c, d, ⟨g, gS⟩, k9⟩ := b2 v q3
              have fl : fLn ((z.1, y.1, jI (tokS T n z.2).1) :: v.1) = oLn (z.1, y.1, jI (tokS T n z.2).1) + fLn v.1 := rfl
              dsimp only
              rw [fl, List.length_cons]
              refine ⟨by omega, by omega, h', jn', sl', ww', st', mi', en', re', go a, b, ?_, fun j hj => ?_, ⟨⟨fun j hj => ?_, ?_, fun j ha hb => ?_⟩, gS⟩, (f04.trans f5).trans k9⟩
              · rw [show nf + (oLn (z.1, y.1, jI (tokS T n z.2).1) + fLn v.1) = nf + oLn (z.1, y.1, jI (tokS T n z.2).1) + fLn v.1 by omega, show no + (v.1.length + 1) = no + 1 + v.1.length by omega]
                exact c
              · obtain ⟨p1, p2, p3⟩ := d j (by omega)
                obtain ⟨s1, s2, s3⟩ := RR.1 j hj
                exact ⟨p1.trans s1, p2.trans s2, p3.trans s3⟩
              · obtain ⟨p1, p2, p3, p4⟩ := g.1 j (by omega)
                rw [p1, p2, p3, p4]
                exact ⟨upd_ne (by omega), upd_ne (by omega), upd_ne (by omega), upd_ne (by omega)⟩
              · obtain ⟨p1, p2, p3, p4⟩ := g.1 no (by omega)
                rw [upd_eq] at p1 p2 p3 p4
                rw [← nfe] at p3
                show seg1 jn' sl' ww' st' mi' en' re' no :: segO jn' sl' ww' st' mi' en' re' (no + 1) v.1.length = _
                rw [g.2.1, one jn' sl' ww' st' mi' en' re' (fun j hj => d j (by rw [ol]; omega)) p1 p2 p3 p4]
              · by_cases uu : j = no
                · obtain ⟨p1, p2, p3, p4⟩ := g.1 no (by omega)
                  rw [upd_eq] at p1 p2 p3 p4
                  rw [← nfe] at p3
                  rw [uu]
                  exact ⟨nf, z.1.length, y.1.length, p1, p2, p3, Nat.le_refl _, by rw [fl, ol]; omega⟩
                · obtain ⟨aa, bb, cc, r1, r2, r3, r4, r5⟩ := g.2.2 j (by omega) (by rw [List.length_cons] at hb; omega)
                  exact ⟨aa, bb, cc, r1, r2, r3, by omega, by rw [fl]; omega⟩
          · rw [if_neg qw]
            refine ⟨fun x hx => (by cases hx), fun x hx => ?_⟩
            cases hx
            have fl : fLn [(z.1, y.1, jI (tokS T n z.2).1)] = z.1.length + y.1.length := rfl
            dsimp only
            rw [fl, List.length_singleton]
            refine ⟨by omega, by omega, h4, jn3, sl3, ww3, upd st no (jI nf), upd mi no (jI (nf + z.1.length)), upd en no (jI (nf + z.1.length + y.1.length)), upd re no (jI (tokS T n z.2).1), h66' ?_, X4, ?_, fun j hj => RR.1 j hj, ⟨⟨fun j hj => ⟨upd_ne (by omega), upd_ne (by omega), upd_ne (by omega), upd_ne (by omega)⟩, ?_, fun j ha hb => ?_⟩, hS3⟩, f04⟩
            · rw [Bool.eq_false_iff.mpr qw, if_pos (show b01 false = 0 by decide)]
              rfl
            · rw [show nf + (z.1.length + y.1.length) = nf + z.1.length + y.1.length by omega]
              exact F4
            · show seg1 jn3 sl3 ww3 _ _ _ _ no :: segO jn3 sl3 ww3 _ _ _ _ (no + 1) 0 = _
              rw [one jn3 sl3 ww3 _ _ _ _ (fun _ _ => ⟨rfl, rfl, rfl⟩) upd_eq upd_eq upd_eq upd_eq]
              rfl
            · have hb' : j < no + 1 := hb
              have : j = no := by omega
              rw [this, upd_eq, upd_eq, upd_eq]
              exact ⟨nf, z.1.length, y.1.length, rfl, rfl, rfl, Nat.le_refl _, by rw [fl]; omega⟩
      · rw [if_neg qr]
        refine ⟨fun x hx => ?_, fun x hx => by cases hx⟩
        cases hx
        have qr' : ¬ ((tokS T n z.2).1 = 60 ∨ (tokS T n z.2).1 = 62 ∨ (tokS T n z.2).1 = 61) := fun u => qr (decide_eq_true u)
        obtain ⟨h', e1, F9⟩ := X1.failX F1 hS1 hmf 1
        refine ⟨h', head ?_, FaC.trans f1 F9⟩
        have e1' : s_X6_fail 51 1 h1 = _ := e1
        rw [if_neg (fun v => qr' (Or.inl (k60.mp v))), if_neg (fun v => qr' (Or.inr (Or.inl (k62.mp v)))), if_neg (fun v => qr' (Or.inr (Or.inr (k61.mp v)))), X1.kO, e1']
        rfl
end
