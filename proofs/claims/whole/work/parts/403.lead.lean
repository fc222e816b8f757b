/-! where a Model leads -/
def okm (m : Nat → Nat) : Prop := m 0 ≤ 3 ∧ m 1 ≤ 2 ∧ m 2 ≤ 2 ∧ m 3 ≤ 2 ∧ m 4 ≤ 2
theorem okm.base {m : Nat → Nat} (H : okm m) {k : Nat} (hk : k < 4) : baseN k + m k ≤ 9 := by
  obtain ⟨h0, h1, h2, h3, h4⟩ := H
  match k, hk with
  | 0, _ => show 0 + m 0 ≤ 9; omega
  | 1, _ => show 3 + m 1 ≤ 9; omega
  | 2, _ => show 5 + m 2 ≤ 9; omega
  | 3, _ => show 7 + m 3 ≤ 9; omega
/-- the piece of factors that two rows say -/
def sgm (A : Nat → Nat → Int32) (f t i : Nat) : List pFa := seg3 (A 13) (A 14) (A 15) (A f i).toNatClampNeg ((A t i).toNatClampNeg - (A f i).toNatClampNeg)
def sgo (A : Nat → Nat → Int32) (f t i : Nat) : List pOne := segO (A 13) (A 14) (A 15) (A 16) (A 17) (A 18) (A 19) (A f i).toNatClampNeg ((A t i).toNatClampNeg - (A f i).toNatClampNeg)
def okP2 (A : Nat → Nat → Int32) (f t i M : Nat) : Prop := ∃ a b : Nat, A f i = jI a ∧ A t i = jI (a + b) ∧ a + b ≤ M
/-- a Model that can be asked -/
def okM (A : Nat → Nat → Int32) (m F : Nat → Nat) : Prop :=
  okm m ∧ (∀ k, k < 5 → A 1 k = jI (m k)) ∧ F 4 ≤ 8 ∧ F 20 ≤ 60 ∧ F 24 ≤ 30 ∧ okS (A 14) ∧ (∀ i, i < F 24 → okO (A 16) (A 17) (A 18) i) ∧
  (∀ i, i < F 4 → okP2 A 6 7 i (F 20) ∧ okP2 A 8 9 i (F 24)) ∧ ∀ i, i < m 4 → okP2 A 10 11 i (F 20)
def spW (A : Nat → Nat → Int32) (m : Nat → Nat) (np w x : Int32) (v : Nat → Int32) : Nat → Int32 := sprGo A 0 7 (m 3) (x - x / jmax 1 np * jmax 1 np) (sprGo A w 5 (m 2) (x / jmax 1 np) v)
def spM (A : Nat → Nat → Int32) (m : Nat → Nat) (np c p x : Int32) (v : Nat → Int32) : Nat → Int32 := spW A m np 0 x (sprGo A 0 3 (m 1) p (sprGo A 0 0 (m 0) c v))
def cellGo (A : Nat → Nat → Int32) (f : Nat → Int32) : Nat → Nat → Int32 → Int32
  | _, 0, c => c
  | i, n + 1, c => if f i < A 3 i then -2 else if f i ≤ A 4 i then cellGo A f (i + 1) n (((c * wdt A 0 i) + f i) - A 3 i) else -2
def stepGo (A : Nat → Nat → Int32) (v : Nat → Int32) (s : Nat) : Nat → Nat → Int32
  | _, 0 => v s
  | i, n + 1 => if A 5 i = jI s then (if allV v (sgo A 8 9 i) then sumV v (sgm A 6 7 i) else stepGo A v s (i + 1) n) else stepGo A v s (i + 1) n
def leadV (A : Nat → Nat → Int32) (m F : Nat → Nat) (v : Nat → Int32) : Int32 := cellGo A (fun s => stepGo A v s 0 (F 4)) 0 (m 0) 0
section
variable {h : aH} {o v : Nat} {A : Nat → Nat → Int32} {N : Nat → Int64} {F m : Nat → Nat} {vals : Nat → Int32}
theorem spreadK_at (H : isM h o A N F) (K : okM A m F) {k : Nat} (hk : k < 4) (hv : v < aE) (hov : v < o ∨ o + 19 < v) (hvc : h[v]? = some (.inl (.int, 9, .inl vals))) (x w : Int32) :
    s_X2_spread o (jI k) x w v h = some (.inl none, h.set v (.inl (.int, 9, .inl (sprGo A w (baseN k) (m k) x vals)))) :=
  spread_at H (by omega) (K.2.1 k (by omega)) (K.1.base hk) hv hov hvc x w
theorem spreadWorld_at (H : isM h o A N F) (K : okM A m F) (hv : v < aE) (hov : v < o ∨ o + 19 < v) (hvc : h[v]? = some (.inl (.int, 9, .inl vals))) (x w : Int32) :
    s_X2_spreadWorld o x w v h = some (.inl none, h.set v (.inl (.int, 9, .inl (spW A m (jI (F 15)) w x vals)))) := by
  unfold s_X2_spreadWorld
  have g : gI h (.ref o) 2 15 = some (jI (F 15)) := gI_of (by have := H.1; omega) H.2.1 rfl
  have e2 := spreadK_at (k := 2) H K (by decide) hv hov hvc (x / jmax 1 (jI (F 15))) w
  have H2 := H.set (c := .inl (.int, 9, .inl (sprGo A w 5 (m 2) (x / jmax 1 (jI (F 15))) vals))) hov
  have e3 := spreadK_at (k := 3) H2 K (by decide) hv hov (set_eq hvc) (x - x / jmax 1 (jI (F 15)) * jmax 1 (jI (F 15))) 0
  rw [set_set] at e3
  have e2' : s_X2_spread o 2 (x / jmax 1 (jI (F 15))) w v h = _ := e2
  have e3' : s_X2_spread o 3 (x - x / jmax 1 (jI (F 15)) * jmax 1 (jI (F 15))) 0 v (h.set v (.inl (.int, 9, .inl (sprGo A w (baseN 2) (m 2) (x / jmax 1 (jI (F 15))) vals)))) = _ := e3
  simp only [g, Option.bind_some, nz_of (jmax1_ne _), H.kO, e2', cN]
  rw [isM.kO (H.set hov), e3']
  rfl
theorem spreadMove_at (H : isM h o A N F) (K : okM A m F) (hv : v < aE) (hov : v < o ∨ o + 19 < v) (hvc : h[v]? = some (.inl (.int, 9, .inl vals))) (c p x : Int32) :
    s_X2_spreadMove o c p x v h = some (.inl none, h.set v (.inl (.int, 9, .inl (spM A m (jI (F 15)) c p x vals)))) := by
  unfold s_X2_spreadMove
  have e0 := spreadK_at (k := 0) H K (by decide) hv hov hvc c 0
  have H1 := H.set (c := .inl (.int, 9, .inl (sprGo A 0 (baseN 0) (m 0) c vals))) hov
  have e1 := spreadK_at (k := 1) H1 K (by decide) hv hov (set_eq hvc) p 0
  rw [set_set] at e1
  have H2 := H.set (c := .inl (.int, 9, .inl (sprGo A 0 (baseN 1) (m 1) p (sprGo A 0 (baseN 0) (m 0) c vals)))) hov
  have e2 := spreadWorld_at H2 K hv hov (set_eq hvc) x 0
  rw [set_set] at e2
  have e0' : s_X2_spread o 0 c 0 v h = _ := e0
  have e1' : s_X2_spread o 1 p 0 v (h.set v (.inl (.int, 9, .inl (sprGo A 0 (baseN 0) (m 0) c vals)))) = _ := e1
  simp only [H.kO, e0', cN]
  rw [H1.kO, e1']
  simp only []
  rw [H2.kO, e2]
  rfl
theorem cellOf_go (H : isM h o A N F) (K : okM A m F) (hv : v < aE) (hvc : h[v]? = some (.inl (.int, 9, .inl vals))) :
    ∀ (n i f : Nat) (c : Int32), i + n = m 0 → n < f → s_X2_cellOf_4 f o v c (jI i) h = some (.inl (some (.int (cellGo A vals i n c))), h)
  | _, _, 0, _, _, hf => by omega
  | 0, i, f + 1, c, hi, hf => by
    show s_X2_cellOf_4_b (s_X2_cellOf_4 f) o v c (jI i) h = _
    unfold s_X2_cellOf_4_b
    have e : ldI .int h (.ref (o + 1)) 0 = some (jI (m 0)) := (K.2.1 0 (by decide)) ▸ H.ldmn (s := 0) (by decide)
    have h3 := K.1.1
    simp only [H.mn, Option.bind_some, e]
    rw [if_pos ((jI_le (by omega) (by omega)).mpr (by omega))]
    rfl
  | n + 1, i, f + 1, c, hi, hf => by
    show s_X2_cellOf_4_b (s_X2_cellOf_4 f) o v c (jI i) h = _
    unfold s_X2_cellOf_4_b
    have e : ldI .int h (.ref (o + 1)) 0 = some (jI (m 0)) := (K.2.1 0 (by decide)) ▸ H.ldmn (s := 0) (by decide)
    have h3 := K.1.1
    have hi9 : i < 9 := by omega
    have ev : ldI .int h (.ref v) (jI i) = some (vals i) := ldI_of hv hvc hi9 (by decide)
    simp only [H.mn, Option.bind_some, e]
    rw [if_neg (fun q => by have := (jI_le (by omega) (by omega)).mp q; omega)]
    simp only [ev, H.lo, H.hi, H.ldlo hi9, H.ldhi hi9, Option.bind_some, H.kO, width_at H hi9 0, cI, jI_inc, cellGo]
    rw [cellOf_go H K hv hvc n (i + 1) f _ (by omega) (by omega)]
    split
    · rfl
    · split <;> rfl
theorem cellOf_at (H : isM h o A N F) (K : okM A m F) (hv : v < aE) (hvc : h[v]? = some (.inl (.int, 9, .inl vals))) : s_X2_cellOf o v h = some (.inl (some (.int (cellGo A vals 0 (m 0) 0))), h) :=
  cellOf_go H K hv hvc (m 0) 0 FU 0 (by omega) (by show m 0 < 1000000; have := K.1.1; omega)
theorem sum2_at (H : isM h o A N F) (K : okM A m F) (hv : v < aE) (hvc : h[v]? = some (.inl (.int, 9, .inl vals))) {f t i : Nat} (hp : okP2 A f t i (F 20)) :
    s_X0_sumOf (o + 12) (A f i) (A t i) v h = some (.inl (some (.int (sumV vals (sgm A f t i)))), h) := by
  obtain ⟨a, b, ea, eb, hab⟩ := hp
  have h20 := K.2.2.2.1
  have := sumOf_at (i := a) (n := b) H.2.2.2.2.2 hv hvc (by omega) (fun k _ h2 => K.2.2.2.2.2.1 k (by omega))
  unfold sgm
  rw [ea, eb, jI_cl (by omega), jI_cl (by omega), Nat.add_sub_cancel_left]
  exact this
theorem all2_at (H : isM h o A N F) (K : okM A m F) (hv : v < aE) (hvc : h[v]? = some (.inl (.int, 9, .inl vals))) {f t i : Nat} (hp : okP2 A f t i (F 24)) :
    s_X0_allHold (o + 12) (A f i) (A t i) v h = some (.inl (some (.int (if allV vals (sgo A f t i) then 1 else 0))), h) := by
  obtain ⟨a, b, ea, eb, hab⟩ := hp
  have h24 := K.2.2.2.2.1
  have := allHold_at (i := a) (n := b) H.2.2.2.2.2 hv hvc K.2.2.2.2.2.1 (by omega) (fun k _ h2 => K.2.2.2.2.2.2.1 k (by omega))
  unfold sgo
  rw [ea, eb, jI_cl (by omega), jI_cl (by omega), Nat.add_sub_cancel_left]
  exact this
theorem stepped_go (H : isM h o A N F) (K : okM A m F) (hv : v < aE) (hvc : h[v]? = some (.inl (.int, 9, .inl vals))) {s : Nat} (hs : s < 9) :
    ∀ (n i f : Nat), i + n = F 4 → n < f → s_X2_stepped_2 f o (jI s) v (jI i) h = some (.inl (some (.int (stepGo A vals s i n))), h)
  | _, _, 0, _, hf => by omega
  | 0, i, f + 1, hi, hf => by
    show s_X2_stepped_2_b (s_X2_stepped_2 f) o (jI s) v (jI i) h = _
    unfold s_X2_stepped_2_b
    have g4 : gI h (.ref o) 2 4 = some (jI (F 4)) := gI_of (by have := H.1; omega) H.2.1 rfl
    have h8 := K.2.2.1
    have ev : ldI .int h (.ref v) (jI s) = some (vals s) := ldI_of hv hvc hs (by decide)
    simp only [g4, Option.bind_some]
    rw [if_pos ((jI_le (by omega) (by omega)).mpr (by omega)), ev]
    rfl
  | n + 1, i, f + 1, hi, hf => by
    show s_X2_stepped_2_b (s_X2_stepped_2 f) o (jI s) v (jI i) h = _
    unfold s_X2_stepped_2_b
    have ho := H.1
    have g4 : gI h (.ref o) 2 4 = some (jI (F 4)) := gI_of (by omega) H.2.1 rfl
    have h8 := K.2.2.1
    have g5 : gO h (.ref o) 2 5 = some (o + 5) := gO_of (by omega) H.2.1 rfl
    have g6 : gO h (.ref o) 2 6 = some (o + 6) := gO_of (by omega) H.2.1 rfl
    have g7 : gO h (.ref o) 2 7 = some (o + 7) := gO_of (by omega) H.2.1 rfl
    have g8 : gO h (.ref o) 2 8 = some (o + 8) := gO_of (by omega) H.2.1 rfl
    have g9 : gO h (.ref o) 2 9 = some (o + 9) := gO_of (by omega) H.2.1 rfl
    have l5 : ldI .int h (.ref (o + 5)) (jI i) = some (A 5 i) := ldI_of (by omega) (H.2.2.2.2.1 5 (by decide) (by decide)) (show i < 8 by omega) (by decide)
    have l6 : ldI .int h (.ref (o + 6)) (jI i) = some (A 6 i) := ldI_of (by omega) (H.2.2.2.2.1 6 (by decide) (by decide)) (show i < 8 by omega) (by decide)
    have l7 : ldI .int h (.ref (o + 7)) (jI i) = some (A 7 i) := ldI_of (by omega) (H.2.2.2.2.1 7 (by decide) (by decide)) (show i < 8 by omega) (by decide)
    have l8 : ldI .int h (.ref (o + 8)) (jI i) = some (A 8 i) := ldI_of (by omega) (H.2.2.2.2.1 8 (by decide) (by decide)) (show i < 8 by omega) (by decide)
    have l9 : ldI .int h (.ref (o + 9)) (jI i) = some (A 9 i) := ldI_of (by omega) (H.2.2.2.2.1 9 (by decide) (by decide)) (show i < 8 by omega) (by decide)
    have hst := K.2.2.2.2.2.2.2.1 i (by omega)
    have kf : ∀ {β : Type} {k : Option β}, kO h (o + 12) 0 k = k := fun {β k} => kO_of (by omega) H.2.2.2.2.2.2.1
    simp only [g4, Option.bind_some]
    rw [if_neg (fun q => by have := (jI_le (by omega) (by omega)).mp q; omega)]
    simp only [g5, g6, g7, g8, g9, l5, l6, l7, l8, l9, H.fm, Option.bind_some, kf, all2_at H K hv hvc hst.2, sum2_at H K hv hvc hst.1, cI, jI_inc, stepGo]
    rw [stepped_go H K hv hvc hs n (i + 1) f (by omega) (by omega)]
    by_cases q1 : A 5 i = jI s
    · rw [if_pos q1, if_pos q1]
      by_cases q2 : allV vals (sgo A 8 9 i) = true
      · simp [q2]
      · simp [q2]
    · rw [if_neg q1, if_neg q1]
theorem stepped_at (H : isM h o A N F) (K : okM A m F) (hv : v < aE) (hvc : h[v]? = some (.inl (.int, 9, .inl vals))) {s : Nat} (hs : s < 9) : s_X2_stepped o (jI s) v h = some (.inl (some (.int (stepGo A vals s 0 (F 4)))), h) :=
  stepped_go H K hv hvc hs (F 4) 0 FU (by omega) (by show F 4 < 1000000; have := K.2.2.1; omega)
theorem lead_go (H : isM h o A N F) (K : okM A m F) (hv : v < aE) (hvc : h[v]? = some (.inl (.int, 9, .inl vals))) :
    ∀ (n i f : Nat) (c : Int32), i + n = m 0 → n < f → s_X2_lead_4 f o v c (jI i) h = some (.inl (some (.int (cellGo A (fun s => stepGo A vals s 0 (F 4)) i n c))), h)
  | _, _, 0, _, _, hf => by omega
  | 0, i, f + 1, c, hi, hf => by
    show s_X2_lead_4_b (s_X2_lead_4 f) o v c (jI i) h = _
    unfold s_X2_lead_4_b
    have e : ldI .int h (.ref (o + 1)) 0 = some (jI (m 0)) := (K.2.1 0 (by decide)) ▸ H.ldmn (s := 0) (by decide)
    have h3 := K.1.1
    simp only [H.mn, Option.bind_some, e]
    rw [if_pos ((jI_le (by omega) (by omega)).mpr (by omega))]
    rfl
  | n + 1, i, f + 1, c, hi, hf => by
    show s_X2_lead_4_b (s_X2_lead_4 f) o v c (jI i) h = _
    unfold s_X2_lead_4_b
    have e : ldI .int h (.ref (o + 1)) 0 = some (jI (m 0)) := (K.2.1 0 (by decide)) ▸ H.ldmn (s := 0) (by decide)
    have h3 := K.1.1
    have hi9 : i < 9 := by omega
    simp only [H.mn, Option.bind_some, e]
    rw [if_neg (fun q => by have := (jI_le (by omega) (by omega)).mp q; omega)]
    simp only [stepped_at H K hv hvc hi9, H.lo, H.hi, H.ldlo hi9, H.ldhi hi9, Option.bind_some, H.kO, width_at H hi9 0, cI, jI_inc, cellGo]
    rw [lead_go H K hv hvc n (i + 1) f _ (by omega) (by omega)]
    split
    · rfl
    · split <;> rfl
theorem lead_at (H : isM h o A N F) (K : okM A m F) (hv : v < aE) (hvc : h[v]? = some (.inl (.int, 9, .inl vals))) : s_X2_lead o v h = some (.inl (some (.int (leadV A m F vals))), h) :=
  lead_go H K hv hvc (m 0) 0 FU 0 (by omega) (by show m 0 < 1000000; have := K.1.1; omega)
theorem seen_at (H : isM h o A N F) (K : okM A m F) (hv : v < aE) (hvc : h[v]? = some (.inl (.int, 9, .inl vals))) {i : Nat} (hi : i < m 4) : s_X2_seen o (jI i) v h = some (.inl (some (.int (sumV vals (sgm A 10 11 i)))), h) := by
  unfold s_X2_seen
  have ho := H.1
  have h2 := K.1.2.2.2.2
  have g10 : gO h (.ref o) 2 10 = some (o + 10) := gO_of (by omega) H.2.1 rfl
  have g11 : gO h (.ref o) 2 11 = some (o + 11) := gO_of (by omega) H.2.1 rfl
  have l10 : ldI .int h (.ref (o + 10)) (jI i) = some (A 10 i) := ldI_of (by omega) (H.2.2.2.2.1 10 (by decide) (by decide)) (show i < 2 by omega) (by decide)
  have l11 : ldI .int h (.ref (o + 11)) (jI i) = some (A 11 i) := ldI_of (by omega) (H.2.2.2.2.1 11 (by decide) (by decide)) (show i < 2 by omega) (by decide)
  have kf : ∀ {β : Type} {k : Option β}, kO h (o + 12) 0 k = k := fun {β k} => kO_of (by omega) H.2.2.2.2.2.2.1
  simp only [g10, g11, l10, l11, H.fm, Option.bind_some, kf, sum2_at H K hv hvc (K.2.2.2.2.2.2.2.2 i hi), cI]
end
