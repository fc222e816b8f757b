/-! the class reads factors and sums -/
/-- names as the class has them -/
def dcl5 (m : Nat → Nat) (s : Nat) : Prop := ∃ k, k < 5 ∧ bsN k ≤ s ∧ s < bsN k + m k
def NmW (h : aH) (mo : Nat) (m : Nat → Nat) (nm : Nat → List Nat) : Prop := mo + 20 ≤ aE ∧ ∃ fs many N, h[mo]? = some (.inr (2, fs)) ∧ fs[0]? = some (.ref (mo + 1)) ∧ fs[1]? = some (.ref (mo + 2)) ∧ h[mo + 1]? = some (.inl (.int, 5, .inl many)) ∧ h[mo + 2]? = some (.inl (.long, 11, .inr (.inl N))) ∧ (∀ k, k < 5 → many k = jI (m k) ∧ bsN k + m k ≤ 11) ∧ (∀ s, dcl5 m s → N s = wL 27 (nm s) ∧ okWo (nm s))
theorem NmW.of {h h' : aH} {mo : Nat} {m : Nat → Nat} {nm : Nat → List Nat} (X : NmW h mo m nm) (f : ∀ k, mo ≤ k → k ≤ mo + 2 → h'[k]? = h[k]?) : NmW h' mo m nm := by
  obtain ⟨a, fs, many, N, h0, h1, h2, h3, h4, h5⟩ := X
  exact ⟨a, fs, many, N, by rw [f _ (by omega) (by omega)]; exact h0, h1, h2, by rw [f _ (by omega) (by omega)]; exact h3, by rw [f _ (by omega) (by omega)]; exact h4, h5⟩
theorem bs_at {h : aH} {k : Nat} (hk : k < 5) : ldI .int h (.ref (aE + 1)) (jI k) = some (jI (bsN k)) := by
  rw [BASE_of hk]
  match k, hk with
  | 0, _ => rfl
  | 1, _ => rfl
  | 2, _ => rfl
  | 3, _ => rfl
  | 4, _ => rfl
section
variable {h : aH} {mo : Nat} {m : Nat → Nat} {nm : Nat → List Nat} {w : List Nat}
theorem so14_go (X : NmW h mo m nm) (hw : okWo w) {kd : Nat} (hkd : kd < 5) {k2 : Nat → Int64 → Int32 → aH → aO} : ∀ (c i f : Nat), i + c = m kd → c < f →
    s_X2_slotOf_14 k2 f mo (wL 27 w) (jI kd) (jI i) h = match slK nm w (bsN kd + i) c with
      | some s => some (.inl (some (.int (jI s))), h)
      | none => k2 mo (wL 27 w) (jI (kd + 1)) h
  | _, _, 0, _, hf => by omega
  | c, i, f + 1, hi, hf => by
    obtain ⟨a, fs, many, N, h0, h1, h2, h3, h4, h5, h6⟩ := X
    obtain ⟨m1, m2⟩ := h5 kd hkd
    have g0 : gO h (.ref mo) 2 0 = some (mo + 1) := gO_of (by omega) h0 h1
    have g1 : gO h (.ref mo) 2 1 = some (mo + 2) := gO_of (by omega) h0 h2
    have l0 : ldI .int h (.ref (mo + 1)) (jI kd) = some (jI (m kd)) := by rw [ldI_of (by omega) h3 hkd (by decide), m1]
    match c, hi, hf with
    | 0, hi, hf =>
      show s_X2_slotOf_14_b k2 (s_X2_slotOf_14 k2 f) mo (wL 27 w) (jI kd) (jI i) h = _
      unfold s_X2_slotOf_14_b
      rw [g0, Option.bind_some, l0, Option.bind_some, if_pos ((jI_le (by omega) (by omega)).mpr (by omega)), jI_inc]
      rfl
    | c + 1, hi, hf =>
      have e0 : slK nm w (bsN kd + i) (c + 1) = if nm (bsN kd + i) = w then some (bsN kd + i) else slK nm w (bsN kd + i + 1) c := rfl
      obtain ⟨n1, n2⟩ := h6 (bsN kd + i) ⟨kd, hkd, by omega, by omega⟩
      have lj : ldJ h (.ref (mo + 2)) (jI (bsN kd + i)) = some (wL 27 (nm (bsN kd + i))) := by rw [ldJ_of (by omega) h4 (by omega) (by decide), n1]
      show s_X2_slotOf_14_b k2 (s_X2_slotOf_14 k2 f) mo (wL 27 w) (jI kd) (jI i) h = _
      unfold s_X2_slotOf_14_b
      rw [g0, Option.bind_some, l0, Option.bind_some, if_neg (fun z => by have := (jI_le (by omega) (by omega)).mp z; omega), g1, Option.bind_some, bs_at hkd, Option.bind_some, jI_add, lj, Option.bind_some, e0]
      by_cases q : nm (bsN kd + i) = w
      · rw [if_pos (cmp_eq.mpr (by rw [q])), if_pos q, Option.bind_some, jI_add]
      · rw [if_neg (fun z => q ((wL_inj (Or.inl rfl) n2 hw).mp (cmp_eq.mp z))), if_neg q, jI_inc]
        exact so14_go ⟨a, fs, many, N, h0, h1, h2, h3, h4, h5, h6⟩ hw hkd c (i + 1) f (by omega) (by omega)
theorem so2_go (X : NmW h mo m nm) (hw : okWo w) : ∀ (r kd f : Nat), kd + r = 5 → r < f → s_X2_slotOf_2 f mo (wL 27 w) (jI kd) h = some (.inl (some (.int (oI (slG nm m w kd r)))), h)
  | _, _, 0, _, hf => by omega
  | r, kd, f + 1, hk, hf => by
    obtain ⟨a, fs, many, N, h0, h1, h2, h3, h4, h5, h6⟩ := id X
    have g0 : gO h (.ref mo) 2 0 = some (mo + 1) := gO_of (by omega) h0 h1
    have ln : lnA h (.ref (mo + 1)) = some 5 := by
      have : mo + 1 < aE := by omega
      simp [lnA, aG, this, h3]
    match r, hk, hf with
    | 0, hk, hf =>
      show s_X2_slotOf_2_b (s_X2_slotOf_2 f) mo (wL 27 w) (jI kd) h = _
      unfold s_X2_slotOf_2_b
      rw [g0, Option.bind_some, ln, Option.bind_some, if_pos (show (5 : Int32) ≤ jI kd from (jI_le (j := 5) (by omega) (by omega)).mpr (by omega))]
      rfl
    | r + 1, hk, hf =>
      have hkd : kd < 5 := by omega
      have e := so14_go X hw hkd (k2 := s_X2_slotOf_2 f) (m kd) 0 FU (by omega) (by have := (h5 kd hkd).2; show m kd < 1000000; omega)
      have e0 : slG nm m w kd (r + 1) = match slK nm w (bsN kd) (m kd) with
        | some s => some s
        | none => slG nm m w (kd + 1) r := rfl
      show s_X2_slotOf_2_b (s_X2_slotOf_2 f) mo (wL 27 w) (jI kd) h = _
      unfold s_X2_slotOf_2_b
      rw [g0, Option.bind_some, ln, Option.bind_some, if_neg (show ¬ (5 : Int32) ≤ jI kd from fun z => by have := (jI_le (j := 5) (by omega) (by omega)).mp z; omega)]
      have e' : s_X2_slotOf_14 (s_X2_slotOf_2 f) FU mo (wL 27 w) (jI kd) 0 h = _ := e
      rw [e', e0, Nat.add_zero]
      cases slK nm w (bsN kd) (m kd) with
      | some s => rfl
      | none => exact so2_go X hw r (kd + 1) f (by omega) (by omega)
theorem slotOf_cl (X : NmW h mo m nm) (hw : okWo w) : s_X2_slotOf mo (wL 27 w) h = some (.inl (some (.int (oI (slF nm m w)))), h) := so2_go X hw 5 0 FU rfl (by decide)
end
theorem slK_lt {nm : Nat → List Nat} {w : List Nat} : ∀ (c s x : Nat), slK nm w s c = some x → s ≤ x ∧ x < s + c
  | 0, _, _, h => by cases h
  | c + 1, s, x, h => by
    have e0 : slK nm w s (c + 1) = if nm s = w then some s else slK nm w (s + 1) c := rfl
    rw [e0] at h
    by_cases q : nm s = w
    · rw [if_pos q] at h; cases h; omega
    · rw [if_neg q] at h
      have := slK_lt c (s + 1) x h
      omega
theorem slG_dcl {nm : Nat → List Nat} {m : Nat → Nat} {w : List Nat} : ∀ (r k x : Nat), k + r = 5 → slG nm m w k r = some x → dcl5 m x
  | 0, _, _, _, h => by cases h
  | r + 1, k, x, hk, h => by
    have e0 : slG nm m w k (r + 1) = match slK nm w (bsN k) (m k) with
      | some s => some s
      | none => slG nm m w (k + 1) r := rfl
    rw [e0] at h
    cases q : slK nm w (bsN k) (m k) with
    | some s =>
      rw [q] at h
      cases h
      have := slK_lt _ _ _ q
      exact ⟨k, by omega, this.1, this.2⟩
    | none =>
      rw [q] at h
      exact slG_dcl r (k + 1) x (by omega) h
theorem slF_lt {nm : Nat → List Nat} {m : Nat → Nat} (hm : ∀ k, k < 5 → bsN k + m k ≤ 11) {w : List Nat} {x : Nat} (h : slF nm m w = some x) : x < 11 := by
  obtain ⟨k, hk, -, h2⟩ := slG_dcl 5 0 x rfl h
  have := hm k hk
  omega
def shF (h : aH) (fo : Nat) : Prop := ∃ nf jn sl wh no st mi en re, isF h fo nf jn sl wh no st mi en re ∧ okS sl
theorem isF.of {h h' : aH} {o nf no : Nat} {jn sl wh st mi en re : Nat → Int32} (H : isF h o nf jn sl wh no st mi en re) (f : ∀ k, o ≤ k → k ≤ o + 7 → h'[k]? = h[k]?) : isF h' o nf jn sl wh no st mi en re := by
  obtain ⟨a, h0, h1, h2, h3, h4, h5, h6, h7⟩ := H
  exact ⟨a, by rw [f _ (by omega) (by omega)]; exact h0, by rw [f _ (by omega) (by omega)]; exact h1, by rw [f _ (by omega) (by omega)]; exact h2, by rw [f _ (by omega) (by omega)]; exact h3, by rw [f _ (by omega) (by omega)]; exact h4, by rw [f _ (by omega) (by omega)]; exact h5, by rw [f _ (by omega) (by omega)]; exact h6, by rw [f _ (by omega) (by omega)]; exact h7⟩
/-- the class has failed: its fault and its place -/
def FaC (h h' : aH) (T : Nat → Nat) (n : Nat) (e : Nat × Nat) (per : Int32) (mo fo : Nat) : Prop := (∃ at' wh, RdW h' (jI e.1) (jI (tokS T n e.2).2.1) at' wh per mo fo) ∧ shF h' fo ∧ FrS fo h h'
theorem FaC.trans {h0 h h' : aH} {T : Nat → Nat} {n : Nat} {e : Nat × Nat} {per : Int32} {mo fo : Nat} (f : FrS fo h0 h) (F : FaC h h' T n e per mo fo) : FaC h0 h' T n e per mo fo := ⟨F.1, F.2.1, f.trans F.2.2⟩
theorem okFo_ne {mo fo : Nat} (h : okFo mo fo) : fo + 7 < 51 ∧ (mo + 2 < fo ∨ fo + 7 < mo) ∧ mo + 2 < 51 := by
  rcases h with ⟨rfl, rfl⟩ | ⟨rfl, rfl⟩ <;> decide
section
variable {h : aH} {o nf no : Nat} {jn sl wh st mi en re : Nat → Int32}
theorem addFactor_at (H : isF h o nf jn sl wh no st mi en re) (hn : nf < 60) (a b c : Int32) : ∃ h', s_X0_addFactor o a b c h = some (.inl none, h') ∧ isF h' o (nf + 1) (upd jn nf a) (upd sl nf b) (upd wh nf c) no st mi en re ∧ (∀ k, (k < o ∨ o + 7 < k) → h'[k]? = h[k]?) ∧ h'.length = h.length := by
  obtain ⟨q, h0, h1, h2, h3, h4, h5, h6, h7⟩ := H
  have e1 := stI_of (h := h) (a := o + 1) (j := nf) (x := a) (by omega) h1 hn (by decide)
  obtain ⟨k1, hk1⟩ : ∃ k1, k1 = h.set (o + 1) (.inl (.int, 60, .inl (upd jn nf a))) := ⟨_, rfl⟩
  rw [← hk1] at e1
  have a0 := keepC (k := o) hk1 (by omega) h0
  have a2 := keepC (k := o + 2) hk1 (by omega) h2
  have a3 := keepC (k := o + 3) hk1 (by omega) h3
  have a1 : k1[o + 1]? = some (.inl (.int, 60, .inl (upd jn nf a))) := by rw [hk1]; exact set_eq h1
  have e2 := stI_of (h := k1) (a := o + 2) (j := nf) (x := b) (by omega) a2 hn (by decide)
  obtain ⟨k2, hk2⟩ : ∃ k2, k2 = k1.set (o + 2) (.inl (.int, 60, .inl (upd sl nf b))) := ⟨_, rfl⟩
  rw [← hk2] at e2
  have b0 := keepC (k := o) hk2 (by omega) a0
  have b1 := keepC (k := o + 1) hk2 (by omega) a1
  have b3 := keepC (k := o + 3) hk2 (by omega) a3
  have b2 : k2[o + 2]? = some (.inl (.int, 60, .inl (upd sl nf b))) := by rw [hk2]; exact set_eq a2
  have e3 := stI_of (h := k2) (a := o + 3) (j := nf) (x := c) (by omega) b3 hn (by decide)
  obtain ⟨k3, hk3⟩ : ∃ k3, k3 = k2.set (o + 3) (.inl (.int, 60, .inl (upd wh nf c))) := ⟨_, rfl⟩
  rw [← hk3] at e3
  have c0 := keepC (k := o) hk3 (by omega) b0
  have c1 := keepC (k := o + 1) hk3 (by omega) b1
  have c2 := keepC (k := o + 2) hk3 (by omega) b2
  have c3 : k3[o + 3]? = some (.inl (.int, 60, .inl (upd wh nf c))) := by rw [hk3]; exact set_eq b3
  have e4 : pF k3 (.ref o) 0 0 (.int (jI (nf + 1))) = some (k3.set o (.inr (0, [.int (jI (nf + 1)), .ref (o + 1), .ref (o + 2), .ref (o + 3), .int (jI no), .ref (o + 4), .ref (o + 5), .ref (o + 6), .ref (o + 7)]))) := by
    rw [pF_of (by omega) c0 (show 0 < 9 by decide)]
    rfl
  have oth : ∀ k, k ≠ o → k ≠ o + 1 → k ≠ o + 2 → k ≠ o + 3 → (k3.set o (.inr (0, [.int (jI (nf + 1)), .ref (o + 1), .ref (o + 2), .ref (o + 3), .int (jI no), .ref (o + 4), .ref (o + 5), .ref (o + 6), .ref (o + 7)])))[k]? = h[k]? := fun k u0 u1 u2 u3 => by
    rw [set_ne (by omega), hk3, set_ne (by omega), hk2, set_ne (by omega), hk1, set_ne (by omega)]
  refine ⟨_, ?_, ⟨q, set_eq c0, by rw [set_ne (by omega)]; exact c1, by rw [set_ne (by omega)]; exact c2, by rw [set_ne (by omega)]; exact c3, by rw [oth _ (by omega) (by omega) (by omega) (by omega)]; exact h4, by rw [oth _ (by omega) (by omega) (by omega) (by omega)]; exact h5, by rw [oth _ (by omega) (by omega) (by omega) (by omega)]; exact h6, by rw [oth _ (by omega) (by omega) (by omega) (by omega)]; exact h7⟩, fun k hk => oth k (by omega) (by omega) (by omega) (by omega), by rw [List.length_set, hk3, List.length_set, hk2, List.length_set, hk1, List.length_set]⟩
  unfold s_X0_addFactor
  rw [gO_of (x := o + 1) (k := 1) (by omega) h0 rfl, Option.bind_some, gI_of (x := jI nf) (k := 0) (by omega) h0 rfl, Option.bind_some, e1, Option.bind_some, gO_of (x := o + 2) (k := 2) (by omega) a0 rfl, Option.bind_some, gI_of (x := jI nf) (k := 0) (by omega) a0 rfl, Option.bind_some, e2, Option.bind_some, gO_of (x := o + 3) (k := 3) (by omega) b0 rfl, Option.bind_some, gI_of (x := jI nf) (k := 0) (by omega) b0 rfl, Option.bind_some, e3, Option.bind_some, gI_of (x := jI nf) (k := 0) (by omega) c0 rfl, Option.bind_some, jI_inc, e4, Option.bind_some]
end
