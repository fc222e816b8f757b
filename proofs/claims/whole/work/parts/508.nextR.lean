/-! the reference reads its next token -/
def w32I (T : Nat → Nat) : Nat → Nat → Int64 → Int64
  | _, 0, acc => acc
  | i, k + 1, acc => w32I T (i + 1) k ((32 * acc) + (((jI (T i) - 97) + 1).toInt64))
def nuI (T : Nat → Nat) : Nat → Nat → Int32 → Int32
  | _, 0, acc => acc
  | i, k + 1, acc => nuI T (i + 1) k (((10 * acc) + jI (T i)) - 48)
def srt (k : Nat) : Int32 := if k = 0 then 1 else if k = 1 then 2 else if k = 2 then 3 else if k = 3 then 0 else 4
/-- the token that the reference stands at -/
def tokR (S : Nat → Int32) (wd : Int64) (T : Nat → Nat) (x : Nat × Nat × Nat) : Prop := S 13 = jI x.2.1 ∧ S 12 = srt x.1 ∧ (3 < x.1 → S 14 = jI x.1) ∧ (x.1 = 1 → wd = w32I T x.2.1 x.2.2 0) ∧ (x.1 = 2 → S 15 = nuI T x.2.1 x.2.2 0) ∧ (x.1 ≠ 3 → S 11 = jI (tkE x))
theorem tokR_of {S : Nat → Int32} {wd : Int64} {T : Nat → Nat} {kd pl ln : Nat} (a : S 13 = jI pl) (b : S 12 = srt kd) (c : 3 < kd → S 14 = jI kd) (d : kd = 1 → wd = w32I T pl ln 0) (e : kd = 2 → S 15 = nuI T pl ln 0) (f : kd ≠ 3 → S 11 = jI (pl + ln)) : tokR S wd T (kd, pl, ln) := ⟨a, b, c, d, e, f⟩
/-- its tape -/
def TPr (V : Nat → Nat → Int32) (T : Nat → Nat) : Prop := ∀ j, j < 400 → V 119 j &&& 255 = jI (T j)
def bA (T : Nat → Nat) (n i : Nat) : Int32 := if n ≤ i then -1 else jI (T i)
section
variable {t fv nv : Value} {V : Nat → Nat → Int32} {Z : Nat → Nat → Int64} {T : Nat → Nat}
theorem RW.pW {h : aH} {S : Nat → Int32} {wd : Int64} (X : RW h S wd t fv nv V Z) (x : Int64) : ∃ h', pF h (.ref 104) 14 18 (.long x) = some h' ∧ RW h' S x t fv nv V Z ∧ Ou h h' := by
  have r := X.obj (S' := S) (wd' := x) (t' := t) (f' := fv) (n' := nv)
  refine ⟨_, ?_, r.1, r.2⟩
  rw [pF_of (ltE (by decide)) X.1 (show 18 < 70 by decide)]
  rfl
theorem RW.gW {h : aH} {S : Nat → Int32} {wd : Int64} (X : RW h S wd t fv nv V Z) : gJ h (.ref 104) 14 18 = some wd := gJ_of (ltE (by decide)) X.1 rfl
theorem byteAt_at {h : aH} {S : Nat → Int32} {wd : Int64} (X : RW h S wd t fv nv V Z) (XT : TPr V T) {n i : Nat} (hn : n ≤ 400) (hi : i ≤ 400) (s10 : S 10 = jI n) : s_X14_byteAt 104 (jI i) h = some (.inl (some (.int (bA T n i))), h) := by
  have g10 := X.gS (k := 10) rfl
  have g8 : gO h (.ref 104) 14 8 = some 119 := gO_of (ltE (by decide)) X.1 rfl
  unfold s_X14_byteAt bA
  rw [g10, Option.bind_some, s10]
  by_cases q : n ≤ i
  · rw [if_pos ((jI_le (by omega) (by omega)).mpr q), if_pos q]
  · have l : ldI .byte h (.ref 119) (jI i) = some (V 119 i) := X.ld (a := 119) rfl (show i < 400 by omega)
    rw [if_neg (fun z => q ((jI_le (by omega) (by omega)).mp z)), if_neg q, g8, Option.bind_some, l, Option.bind_some, XT i (by omega)]
theorem isLt_R (hT : okTp T) {n i : Nat} (h : aH) : s_X14_isLetter (bA T n i) h = some (.inl (some (.int (b01 (decide (i < n) && isLt (T i))))), h) := by
  unfold bA
  by_cases q : n ≤ i
  · rw [if_pos q, show decide (i < n) = false from decide_eq_false (by omega)]
    rfl
  · rw [if_neg q, show decide (i < n) = true from decide_eq_true (by omega), Bool.true_and]
    exact isLt_at (hT i) h
theorem isDg_R (hT : okTp T) {n i : Nat} (h : aH) : s_X14_isDigit (bA T n i) h = some (.inl (some (.int (b01 (decide (i < n) && isDg (T i))))), h) := by
  unfold bA
  by_cases q : n ≤ i
  · rw [if_pos q, show decide (i < n) = false from decide_eq_false (by omega)]
    rfl
  · rw [if_neg q, show decide (i < n) = true from decide_eq_true (by omega), Bool.true_and]
    exact isDg_at (hT i) h
theorem nx80_go (hT : okTp T) (XT : TPr V T) {n : Nat} (hn : n ≤ 400) : ∀ (r i f k : Nat) (h : aH) (S : Nat → Int32) (wd : Int64), i + r = n → r < f → k ≤ i → RW h S wd t fv nv V Z → S 10 = jI n → S 11 = jI i →
    ∃ h' S' wd', s_X14_next_80 f 104 (jI k) h = some (.inl none, h') ∧ RW h' S' wd' t fv nv V Z ∧ Ou h h' ∧ (∀ j, j ≠ 11 → j ≠ 12 → S' j = S j) ∧ S' 11 = jI (i + spN isLt T i r) ∧ S' 12 = (if k + spN isLt T i r ≤ 8 then 2 else S 12) ∧ (k + spN isLt T i r ≤ 8 → wd' = w32I T i (spN isLt T i r) wd)
  | _, _, 0, _, _, _, _, _, hf, _, _, _, _ => by omega
  | r, i, f + 1, k, h, S, wd, hi, hf, hk, X, s10, s11 => by
    have g11 := X.gS (k := 11) rfl
    have bt := byteAt_at X XT hn (i := i) (by omega) s10
    have fin : ∃ h' S', (if 8 < jI k then (some (.inl none, h)) else ((pF h (.ref 104) 14 12 (.int 2)).bind fun h151 => some (.inl none, h151)) : aO) = some (.inl none, h') ∧ RW h' S' wd t fv nv V Z ∧ Ou h h' ∧ (∀ j, j ≠ 11 → j ≠ 12 → S' j = S j) ∧ S' 11 = jI i ∧ S' 12 = (if k ≤ 8 then 2 else S 12) := by
      by_cases q : k ≤ 8
      · obtain ⟨h', e, X', O'⟩ := X.pS (k := 12) rfl 2
        refine ⟨h', _, ?_, X', O', fun j _ h2 => upd_ne h2, by rw [upd_ne (by decide)]; exact s11, by rw [if_pos q, upd_eq]⟩
        rw [if_neg (show ¬ (8 : Int32) < jI k from fun z => by have := (jI_lt (j := 8) (by omega) (by omega)).mp z; omega), e, Option.bind_some]
      · refine ⟨h, S, ?_, X, Ou.refl, fun _ _ _ => rfl, s11, by rw [if_neg q]⟩
        rw [if_pos (show (8 : Int32) < jI k from (jI_lt (j := 8) (by omega) (by omega)).mpr (by omega))]
    have stop : (decide (i < n) && isLt (T i)) = false → spN isLt T i r = 0 → ∃ h' S' wd', s_X14_next_80 (f + 1) 104 (jI k) h = some (.inl none, h') ∧ RW h' S' wd' t fv nv V Z ∧ Ou h h' ∧ (∀ j, j ≠ 11 → j ≠ 12 → S' j = S j) ∧ S' 11 = jI (i + spN isLt T i r) ∧ S' 12 = (if k + spN isLt T i r ≤ 8 then 2 else S 12) ∧ (k + spN isLt T i r ≤ 8 → wd' = w32I T i (spN isLt T i r) wd) := by
      intro q z
      obtain ⟨h', S', e, X', O', a, b, c⟩ := fin
      rw [z]
      refine ⟨h', S', wd, ?_, X', O', a, b, c, fun _ => rfl⟩
      show s_X14_next_80_b (s_X14_next_80 f) 104 (jI k) h = _
      unfold s_X14_next_80_b
      rw [g11, Option.bind_some, s11, X.kO, bt]
      simp only [cI]
      rw [isLt_R hT, q]
      simp only []
      rw [if_pos (show b01 false = 0 by decide)]
      exact e
    match r, hi, hf, stop with
    | 0, hi, hf, stop => exact stop (by rw [show decide (i < n) = false from decide_eq_false (by omega)]; rfl) rfl
    | r + 1, hi, hf, stop =>
      have e0 : spN isLt T i (r + 1) = if isLt (T i) = true then spN isLt T (i + 1) r + 1 else 0 := rfl
      have dn : decide (i < n) = true := decide_eq_true (by omega)
      by_cases q : isLt (T i) = true
      · have pre : ∀ {y : aO}, (if 8 ≤ jI k then (s_X14_next_127 (s_X14_next_80 f) 104 (jI k) h) else ((gJ h (.ref 104) 14 18).bind fun x105 => (gI h (.ref 104) 14 11).bind fun x111 => kO h 104 14 (cI (s_X14_byteAt 104 x111 h) fun x114 h114 => (pF h114 (.ref 104) 14 18 (.long ((32 * x105) + (((x114 - 97) + 1).toInt64)))).bind fun h124 => s_X14_next_127 (s_X14_next_80 f) 104 (jI k) h124))) = y → s_X14_next_80 (f + 1) 104 (jI k) h = y := by
          intro y hy
          show s_X14_next_80_b (s_X14_next_80 f) 104 (jI k) h = _
          unfold s_X14_next_80_b
          rw [g11, Option.bind_some, s11, X.kO, bt]
          simp only [cI]
          rw [isLt_R hT, dn, q]
          simp only []
          rw [if_neg (show ¬ b01 (true && true) = 0 by decide)]
          exact hy
        have step : ∀ (h1 : aH) (wd1 : Int64), RW h1 S wd1 t fv nv V Z → Ou h h1 → ∃ h' S' wd', s_X14_next_127 (s_X14_next_80 f) 104 (jI k) h1 = some (.inl none, h') ∧ RW h' S' wd' t fv nv V Z ∧ Ou h h' ∧ (∀ j, j ≠ 11 → j ≠ 12 → S' j = S j) ∧ S' 11 = jI (i + (spN isLt T (i + 1) r + 1)) ∧ S' 12 = (if k + (spN isLt T (i + 1) r + 1) ≤ 8 then 2 else S 12) ∧ (k + (spN isLt T (i + 1) r + 1) ≤ 8 → wd' = w32I T (i + 1) (spN isLt T (i + 1) r) wd1) := by
          intro h1 wd1 X1 O1
          have p11 := X1.gS (k := 11) rfl
          obtain ⟨h2, e2, X2, O2⟩ := X1.pS (k := 11) rfl (jI (i + 1))
          obtain ⟨h', S', wd', j1, j2, j3, j4, j5, j6, j7⟩ := nx80_go hT XT hn r (i + 1) f (k + 1) h2 _ wd1 (by omega) (by omega) (by omega) X2 (by rw [upd_ne (by decide)]; exact s10) upd_eq
          refine ⟨h', S', wd', ?_, j2, (O1.trans O2).trans j3, fun j a b => by rw [j4 j a b, upd_ne a], by rw [j5]; congr 1; omega, ?_, fun q => j7 (by omega)⟩
          · unfold s_X14_next_127
            rw [p11, Option.bind_some, s11, jI_inc, e2, Option.bind_some, jI_inc]
            exact j1
          · rw [j6, upd_ne (by decide), show k + 1 + spN isLt T (i + 1) r = k + (spN isLt T (i + 1) r + 1) by omega]
        rw [e0, if_pos q]
        by_cases q8 : 8 ≤ k
        · obtain ⟨h', S', wd', j1, j2, j3, j4, j5, j6, j7⟩ := step h wd X Ou.refl
          refine ⟨h', S', wd', pre ?_, j2, j3, j4, j5, j6, fun z => by omega⟩
          rw [if_pos (show (8 : Int32) ≤ jI k from (jI_le (j := 8) (by omega) (by omega)).mpr q8)]
          exact j1
        · have bi : bA T n i = jI (T i) := by unfold bA; rw [if_neg (by omega)]
          obtain ⟨h1, e1, X1, O1⟩ := X.pW ((32 * wd) + (((jI (T i) - 97) + 1).toInt64))
          obtain ⟨h', S', wd', j1, j2, j3, j4, j5, j6, j7⟩ := step h1 _ X1 O1
          refine ⟨h', S', wd', pre ?_, j2, j3, j4, j5, j6, j7⟩
          rw [if_neg (show ¬ (8 : Int32) ≤ jI k from fun z => q8 ((jI_le (j := 8) (by omega) (by omega)).mp z)), X.gW, Option.bind_some, g11, Option.bind_some, s11, X.kO, bt]
          simp only [cI]
          rw [bi, e1, Option.bind_some]
          exact j1
      · exact stop (by rw [Bool.eq_false_iff.mpr q, Bool.and_false]) (by rw [e0, if_neg q])
theorem nx169_go (hT : okTp T) (XT : TPr V T) {n : Nat} (hn : n ≤ 400) : ∀ (r i f k : Nat) (h : aH) (S : Nat → Int32) (wd : Int64), i + r = n → r < f → k ≤ i → RW h S wd t fv nv V Z → S 10 = jI n → S 11 = jI i →
    ∃ h' S', s_X14_next_169 f 104 (jI k) h = some (.inl none, h') ∧ RW h' S' wd t fv nv V Z ∧ Ou h h' ∧ (∀ j, j ≠ 11 → j ≠ 12 → j ≠ 15 → S' j = S j) ∧ S' 11 = jI (i + spN isDg T i r) ∧ S' 12 = (if k + spN isDg T i r ≤ 3 then 3 else S 12) ∧ (k + spN isDg T i r ≤ 3 → S' 15 = nuI T i (spN isDg T i r) (S 15))
  | _, _, 0, _, _, _, _, _, hf, _, _, _, _ => by omega
  | r, i, f + 1, k, h, S, wd, hi, hf, hk, X, s10, s11 => by
    have g11 := X.gS (k := 11) rfl
    have bt := byteAt_at X XT hn (i := i) (by omega) s10
    have fin : ∃ h' S', (if 4 ≤ jI k then (some (.inl none, h)) else ((pF h (.ref 104) 14 12 (.int 3)).bind fun h151 => some (.inl none, h151)) : aO) = some (.inl none, h') ∧ RW h' S' wd t fv nv V Z ∧ Ou h h' ∧ (∀ j, j ≠ 11 → j ≠ 12 → j ≠ 15 → S' j = S j) ∧ S' 11 = jI i ∧ S' 12 = (if k ≤ 3 then 3 else S 12) ∧ S' 15 = S 15 := by
      by_cases q : k ≤ 3
      · obtain ⟨h', e, X', O'⟩ := X.pS (k := 12) rfl 3
        refine ⟨h', _, ?_, X', O', fun j _ h2 _ => upd_ne h2, by rw [upd_ne (by decide)]; exact s11, by rw [if_pos q, upd_eq], by rw [upd_ne (by decide)]⟩
        rw [if_neg (show ¬ (4 : Int32) ≤ jI k from fun z => by have := (jI_le (j := 4) (by omega) (by omega)).mp z; omega), e, Option.bind_some]
      · refine ⟨h, S, ?_, X, Ou.refl, fun _ _ _ _ => rfl, s11, by rw [if_neg q], rfl⟩
        rw [if_pos (show (4 : Int32) ≤ jI k from (jI_le (j := 4) (by omega) (by omega)).mpr (by omega))]
    have stop : (decide (i < n) && isDg (T i)) = false → spN isDg T i r = 0 → ∃ h' S', s_X14_next_169 (f + 1) 104 (jI k) h = some (.inl none, h') ∧ RW h' S' wd t fv nv V Z ∧ Ou h h' ∧ (∀ j, j ≠ 11 → j ≠ 12 → j ≠ 15 → S' j = S j) ∧ S' 11 = jI (i + spN isDg T i r) ∧ S' 12 = (if k + spN isDg T i r ≤ 3 then 3 else S 12) ∧ (k + spN isDg T i r ≤ 3 → S' 15 = nuI T i (spN isDg T i r) (S 15)) := by
      intro q z
      obtain ⟨h', S', e, X', O', a, b, c, d⟩ := fin
      rw [z]
      refine ⟨h', S', ?_, X', O', a, b, c, fun _ => d⟩
      show s_X14_next_169_b (s_X14_next_169 f) 104 (jI k) h = _
      unfold s_X14_next_169_b
      rw [g11, Option.bind_some, s11, X.kO, bt]
      simp only [cI]
      rw [isDg_R hT, q]
      simp only []
      rw [if_pos (show b01 false = 0 by decide)]
      exact e
    match r, hi, hf, stop with
    | 0, hi, hf, stop => exact stop (by rw [show decide (i < n) = false from decide_eq_false (by omega)]; rfl) rfl
    | r + 1, hi, hf, stop =>
      have e0 : spN isDg T i (r + 1) = if isDg (T i) = true then spN isDg T (i + 1) r + 1 else 0 := rfl
      have dn : decide (i < n) = true := decide_eq_true (by omega)
      by_cases q : isDg (T i) = true
      · have pre : ∀ {y : aO}, (if 3 ≤ jI k then (s_X14_next_211 (s_X14_next_169 f) 104 (jI k) h) else ((gI h (.ref 104) 14 15).bind fun x192 => (gI h (.ref 104) 14 11).bind fun x198 => kO h 104 14 (cI (s_X14_byteAt 104 x198 h) fun x201 h201 => (pF h201 (.ref 104) 14 15 (.int (((10 * x192) + x201) - 48))).bind fun h208 => s_X14_next_211 (s_X14_next_169 f) 104 (jI k) h208))) = y → s_X14_next_169 (f + 1) 104 (jI k) h = y := by
          intro y hy
          show s_X14_next_169_b (s_X14_next_169 f) 104 (jI k) h = _
          unfold s_X14_next_169_b
          rw [g11, Option.bind_some, s11, X.kO, bt]
          simp only [cI]
          rw [isDg_R hT, dn, q]
          simp only []
          rw [if_neg (show ¬ b01 (true && true) = 0 by decide)]
          exact hy
        have step : ∀ (h1 : aH) (S1 : Nat → Int32), RW h1 S1 wd t fv nv V Z → Ou h h1 → (∀ j, j ≠ 15 → S1 j = S j) → ∃ h' S', s_X14_next_211 (s_X14_next_169 f) 104 (jI k) h1 = some (.inl none, h') ∧ RW h' S' wd t fv nv V Z ∧ Ou h h' ∧ (∀ j, j ≠ 11 → j ≠ 12 → j ≠ 15 → S' j = S j) ∧ S' 11 = jI (i + (spN isDg T (i + 1) r + 1)) ∧ S' 12 = (if k + (spN isDg T (i + 1) r + 1) ≤ 3 then 3 else S 12) ∧ (k + (spN isDg T (i + 1) r + 1) ≤ 3 → S' 15 = nuI T (i + 1) (spN isDg T (i + 1) r) (S1 15)) := by
          intro h1 S1 X1 O1 hS
          have p11 := X1.gS (k := 11) rfl
          obtain ⟨h2, e2, X2, O2⟩ := X1.pS (k := 11) rfl (jI (i + 1))
          obtain ⟨h', S', j1, j2, j3, j4, j5, j6, j7⟩ := nx169_go hT XT hn r (i + 1) f (k + 1) h2 _ wd (by omega) (by omega) (by omega) X2 (by rw [upd_ne (by decide), hS 10 (by decide)]; exact s10) upd_eq
          refine ⟨h', S', ?_, j2, (O1.trans O2).trans j3, fun j a b c => by rw [j4 j a b c, upd_ne a, hS j c], by rw [j5]; congr 1; omega, ?_, fun q => by rw [j7 (by omega), upd_ne (by decide)]⟩
          · unfold s_X14_next_211
            rw [p11, Option.bind_some, hS 11 (by decide), s11, jI_inc, e2, Option.bind_some, jI_inc]
            exact j1
          · rw [j6, upd_ne (by decide), hS 12 (by decide), show k + 1 + spN isDg T (i + 1) r = k + (spN isDg T (i + 1) r + 1) by omega]
        rw [e0, if_pos q]
        by_cases q8 : 3 ≤ k
        · obtain ⟨h', S', j1, j2, j3, j4, j5, j6, j7⟩ := step h S X Ou.refl (fun _ _ => rfl)
          refine ⟨h', S', pre ?_, j2, j3, j4, j5, j6, fun z => by omega⟩
          rw [if_pos (show (3 : Int32) ≤ jI k from (jI_le (j := 3) (by omega) (by omega)).mpr q8)]
          exact j1
        · have bi : bA T n i = jI (T i) := by unfold bA; rw [if_neg (by omega)]
          obtain ⟨h1, e1, X1, O1⟩ := X.pS (k := 15) rfl (((10 * S 15) + jI (T i)) - 48)
          obtain ⟨h', S', j1, j2, j3, j4, j5, j6, j7⟩ := step h1 _ X1 O1 (fun j hj => upd_ne hj)
          refine ⟨h', S', pre ?_, j2, j3, j4, j5, j6, fun z => by rw [j7 z, upd_eq]; rfl⟩
          rw [if_neg (show ¬ (3 : Int32) ≤ jI k from fun z => q8 ((jI_le (j := 3) (by omega) (by omega)).mp z)), X.gS (k := 15) rfl, Option.bind_some, g11, Option.bind_some, s11, X.kO, bt]
          simp only [cI]
          rw [bi, e1, Option.bind_some]
          exact j1
      · exact stop (by rw [Bool.eq_false_iff.mpr q, Bool.and_false]) (by rw [e0, if_neg q])
theorem nx0_go (hT : okTp T) (XT : TPr V T) {n : Nat} (hn : n ≤ 400) : ∀ (r i f : Nat) (h : aH) (S : Nat → Int32) (wd : Int64), i + r = n → r < f → RW h S wd t fv nv V Z → S 10 = jI n → S 11 = jI i →
    ∃ h' S' wd', s_X14_next_0 f 104 h = some (.inl none, h') ∧ RW h' S' wd' t fv nv V Z ∧ Ou h h' ∧ (∀ j, (j < 11 ∨ 15 < j) → S' j = S j) ∧ tokR S' wd' T (lexR T i r)
  | _, _, 0, _, _, _, _, hf, _, _, _ => by omega
  | r, i, f + 1, h, S, wd, hi, hf, X, s10, s11 => by
    have g11 := X.gS (k := 11) rfl
    have bt := byteAt_at X XT hn (i := i) (by omega) s10
    -- place, sort and mark are laid
    obtain ⟨h1, e1, X1, O1⟩ := X.pS (k := 13) rfl (jI i)
    obtain ⟨h2, e2, X2, O2⟩ := X1.pS (k := 12) rfl 0
    obtain ⟨h3, e3, X3, O3⟩ := X2.pS (k := 14) rfl 0
    obtain ⟨S3, hS3⟩ : ∃ S3, S3 = upd (upd (upd S 13 (jI i)) 12 0) 14 0 := ⟨_, rfl⟩
    rw [← hS3] at X3
    have O3' : Ou h h3 := (O1.trans O2).trans O3
    have a13 : S3 13 = jI i := by rw [hS3, upd_ne (by decide), upd_ne (by decide), upd_eq]
    have a12 : S3 12 = 0 := by rw [hS3, upd_ne (by decide), upd_eq]
    have a14 : S3 14 = 0 := by rw [hS3, upd_eq]
    have aoth : ∀ j, j ≠ 12 → j ≠ 13 → j ≠ 14 → S3 j = S j := fun j b1 b2 b3 => by rw [hS3, upd_ne b3, upd_ne b1, upd_ne b2]
    have a11 : S3 11 = jI i := by rw [aoth 11 (by decide) (by decide) (by decide)]; exact s11
    have a10 : S3 10 = jI n := by rw [aoth 10 (by decide) (by decide) (by decide)]; exact s10
    have bt3 := byteAt_at X3 XT hn (i := i) (by omega) a10
    have head : ¬ bA T n i = 32 → ∀ {y : aO}, (if bA T n i = (-1) then ((pF h3 (.ref 104) 14 12 (.int 1)).bind fun h62 => some (.inl none, h62)) else (cI (s_X14_isLetter (bA T n i) h3) fun x69 h69 => if x69 = 0 then (cI (s_X14_isDigit (bA T n i) h69) fun x158 h158 => if x158 = 0 then (cI (s_X14_isMark (bA T n i) h158) fun x241 h241 => if x241 = 0 then (some (.inl none, h241)) else ((pF h241 (.ref 104) 14 12 (.int 4)).bind fun h249 => (pF h249 (.ref 104) 14 14 (.int (bA T n i))).bind fun h254 => (gI h254 (.ref 104) 14 11).bind fun x259 => (pF h254 (.ref 104) 14 11 (.int (x259 + 1))).bind fun h264 => some (.inl none, h264))) else ((pF h158 (.ref 104) 14 15 (.int 0)).bind fun h166 => s_X14_next_169 FU 104 0 h166)) else ((pF h69 (.ref 104) 14 18 (.long 0)).bind fun h77 => s_X14_next_80 FU 104 0 h77))) = y → s_X14_next_0 (f + 1) 104 h = y := by
      intro q y hy
      show s_X14_next_0_b (s_X14_next_0 f) 104 h = _
      unfold s_X14_next_0_b
      rw [g11, Option.bind_some, s11, X.kO, bt]
      simp only [cI]
      rw [if_neg q, g11, Option.bind_some, s11, e1, Option.bind_some, e2, Option.bind_some, e3, Option.bind_some, X3.gS (k := 11) rfl, Option.bind_some, a11, X3.kO, bt3]
      exact hy
    match r, hi, hf with
    | 0, hi, hf =>
      have b : bA T n i = -1 := by unfold bA; rw [if_pos (by omega)]
      obtain ⟨h4, e4, X4, O4⟩ := X3.pS (k := 12) rfl 1
      refine ⟨h4, _, wd, head (by rw [b]; decide) ?_, X4, O3'.trans O4, fun j hj => by rw [upd_ne (by omega), aoth j (by omega) (by omega) (by omega)], ?_⟩
      · rw [if_pos b, e4, Option.bind_some]
      · refine tokR_of (kd := 0) (pl := i) (ln := 0) ?_ upd_eq (fun z => absurd z (by decide)) (fun z => absurd z (by decide)) (fun z => absurd z (by decide)) (fun _ => ?_)
        · rw [upd_ne (by decide)]; exact a13
        · rw [upd_ne (by decide)]; exact a11
    | r + 1, hi, hf =>
      have b : bA T n i = jI (T i) := by unfold bA; rw [if_neg (by omega)]
      have hc := hT i
      have e0 : lexR T i (r + 1) = if T i = 32 then lexR T (i + 1) r else if isLt (T i) = true then (if spN isLt T i (r + 1) ≤ 8 then 1 else 3, i, spN isLt T i (r + 1)) else if isDg (T i) = true then (if spN isDg T i (r + 1) ≤ 3 then 2 else 3, i, spN isDg T i (r + 1)) else (if isSg (T i) = true then T i else 3, i, 1) := rfl
      rw [e0]
      by_cases q : T i = 32
      · rw [if_pos q]
        obtain ⟨h5, e5, X5, O5⟩ := X.pS (k := 11) rfl (jI (i + 1))
        obtain ⟨h', S', wd', j1, j2, j3, j4, j5⟩ := nx0_go hT XT hn r (i + 1) f h5 _ wd (by omega) (by omega) X5 (by rw [upd_ne (by decide)]; exact s10) upd_eq
        refine ⟨h', S', wd', ?_, j2, O5.trans j3, fun j hj => by rw [j4 j hj, upd_ne (by omega)], j5⟩
        show s_X14_next_0_b (s_X14_next_0 f) 104 h = _
        unfold s_X14_next_0_b
        rw [g11, Option.bind_some, s11, X.kO, bt]
        simp only [cI]
        rw [if_pos (show bA T n i = 32 by rw [b, q]; rfl), g11, Option.bind_some, s11, jI_inc, e5, Option.bind_some]
        exact j1
      · have n32 : ¬ bA T n i = 32 := fun z => q ((jI_inj (k := 32) (by omega) (by omega)).mp (b ▸ z))
        have nm1 : ¬ bA T n i = -1 := fun z => by
          rw [b] at z
          have := jI_neg (j := T i) (by omega)
          rw [z] at this
          exact this (by decide)
        have dn : decide (i < n) = true := decide_eq_true (by omega)
        rw [if_neg q]
        by_cases q1 : isLt (T i) = true
        · rw [if_pos q1]
          obtain ⟨h4, e4, X4, O4⟩ := X3.pW 0
          obtain ⟨h', S', wd', j1, j2, j3, j4, j5, j6, j7⟩ := nx80_go hT XT hn (r + 1) i FU 0 h4 S3 0 (by omega) (by show r + 1 < 1000000; omega) (by omega) X4 a10 a11
          rw [Nat.zero_add] at j6 j7
          refine ⟨h', S', wd', head n32 ?_, j2, (O3'.trans O4).trans j3, fun j hj => by rw [j4 j (by omega) (by omega), aoth j (by omega) (by omega) (by omega)], ?_⟩
          · rw [if_neg nm1, isLt_R hT, dn, q1]
            simp only [cI]
            rw [if_neg (show ¬ b01 (true && true) = 0 by decide), e4, Option.bind_some]
            exact j1
          · by_cases q8 : spN isLt T i (r + 1) ≤ 8
            · rw [if_pos q8]
              rw [if_pos q8] at j6
              exact tokR_of (by rw [j4 13 (by decide) (by decide)]; exact a13) j6 (fun z => absurd z (by decide)) (fun _ => j7 q8) (fun z => absurd z (by decide)) (fun _ => j5)
            · rw [if_neg q8]
              rw [if_neg q8] at j6
              exact tokR_of (by rw [j4 13 (by decide) (by decide)]; exact a13) (by rw [j6, a12]; rfl) (fun z => absurd z (by decide)) (fun z => absurd z (by decide)) (fun z => absurd z (by decide)) (fun z => absurd rfl z)
        · rw [if_neg q1]
          by_cases q2 : isDg (T i) = true
          · rw [if_pos q2]
            obtain ⟨h4, e4, X4, O4⟩ := X3.pS (k := 15) rfl 0
            obtain ⟨h', S', j1, j2, j3, j4, j5, j6, j7⟩ := nx169_go hT XT hn (r + 1) i FU 0 h4 _ wd (by omega) (by show r + 1 < 1000000; omega) (by omega) X4 (by rw [upd_ne (by decide)]; exact a10) (by rw [upd_ne (by decide)]; exact a11)
            rw [Nat.zero_add] at j6 j7
            rw [upd_ne (by decide), a12] at j6
            rw [upd_eq] at j7
            have k13 : S' 13 = jI i := by rw [j4 13 (by decide) (by decide) (by decide), upd_ne (by decide)]; exact a13
            refine ⟨h', S', wd, head n32 ?_, j2, (O3'.trans O4).trans j3, fun j hj => by rw [j4 j (by omega) (by omega) (by omega), upd_ne (by omega), aoth j (by omega) (by omega) (by omega)], ?_⟩
            · rw [if_neg nm1, isLt_R hT, Bool.eq_false_iff.mpr q1, Bool.and_false]
              simp only [cI]
              rw [if_pos (show b01 false = 0 by decide), isDg_R hT, dn, q2]
              simp only []
              rw [if_neg (show ¬ b01 (true && true) = 0 by decide), e4, Option.bind_some]
              exact j1
            · by_cases q8 : spN isDg T i (r + 1) ≤ 3
              · rw [if_pos q8]
                rw [if_pos q8] at j6
                exact tokR_of k13 j6 (fun z => absurd z (by decide)) (fun z => absurd z (by decide)) (fun _ => j7 q8) (fun _ => j5)
              · rw [if_neg q8]
                rw [if_neg q8] at j6
                exact tokR_of k13 j6 (fun z => absurd z (by decide)) (fun z => absurd z (by decide)) (fun z => absurd z (by decide)) (fun z => absurd rfl z)
          · rw [if_neg q2]
            have pre : ∀ {y : aO}, (if b01 (isSg (T i)) = 0 then (some (.inl none, h3)) else ((pF h3 (.ref 104) 14 12 (.int 4)).bind fun h249 => (pF h249 (.ref 104) 14 14 (.int (bA T n i))).bind fun h254 => (gI h254 (.ref 104) 14 11).bind fun x259 => (pF h254 (.ref 104) 14 11 (.int (x259 + 1))).bind fun h264 => some (.inl none, h264))) = y → s_X14_next_0 (f + 1) 104 h = y := by
              intro y hy
              refine head n32 ?_
              rw [if_neg nm1, isLt_R hT, Bool.eq_false_iff.mpr q1, Bool.and_false]
              simp only [cI]
              rw [if_pos (show b01 false = 0 by decide), isDg_R hT, Bool.eq_false_iff.mpr q2, Bool.and_false]
              simp only []
              rw [if_pos (show b01 false = 0 by decide)]
              unfold s_X14_isMark
              rw [b, isSg_go hc]
              simp only []
              rw [b] at hy
              exact hy
            by_cases q3 : isSg (T i) = true
            · have q4 := of_decide_eq_true q3
              obtain ⟨h4, e4, X4, O4⟩ := X3.pS (k := 12) rfl 4
              obtain ⟨h5, e5, X5, O5⟩ := X4.pS (k := 14) rfl (jI (T i))
              have p11 := X5.gS (k := 11) rfl
              rw [upd_ne (by decide), upd_ne (by decide), a11] at p11
              obtain ⟨h6, e6, X6, O6⟩ := X5.pS (k := 11) rfl (jI (i + 1))
              refine ⟨h6, _, wd, pre ?_, X6, ((O3'.trans O4).trans O5).trans O6, fun j hj => by rw [upd_ne (by omega), upd_ne (by omega), upd_ne (by omega), aoth j (by omega) (by omega) (by omega)], ?_⟩
              · rw [q3, if_neg (show ¬ b01 true = 0 by decide), e4, Option.bind_some, b, e5, Option.bind_some, p11, Option.bind_some, jI_inc, e6, Option.bind_some]
              · rw [if_pos q3]
                refine ⟨?_, ?_, fun _ => ?_, fun z => ?_, fun z => ?_, fun _ => upd_eq⟩
                · rw [upd_ne (by decide), upd_ne (by decide), upd_ne (by decide)]; exact a13
                · rw [upd_ne (by decide), upd_ne (by decide), upd_eq]
                  show (4 : Int32) = srt (T i)
                  unfold srt
                  rw [if_neg (by omega), if_neg (by omega), if_neg (by omega), if_neg (by omega)]
                · rw [upd_ne (by decide), upd_eq]
                · have : T i = 1 := z
                  omega
                · have : T i = 2 := z
                  omega
            · refine ⟨h3, S3, wd, pre ?_, X3, O3', fun j hj => aoth j (by omega) (by omega) (by omega), ?_⟩
              · rw [Bool.eq_false_iff.mpr q3, if_pos (show b01 false = 0 by decide)]
              · rw [if_neg q3]
                exact tokR_of a13 a12 (fun z => absurd z (by decide)) (fun z => absurd z (by decide)) (fun z => absurd z (by decide)) (fun z => absurd rfl z)
/-- the next token -/
theorem next_at (hT : okTp T) (XT : TPr V T) {n i : Nat} (hn : n ≤ 400) (hi : i ≤ n) {h : aH} {S : Nat → Int32} {wd : Int64} (X : RW h S wd t fv nv V Z) (s10 : S 10 = jI n) (s11 : S 11 = jI i) :
    ∃ h' S' wd', s_X14_next 104 h = some (.inl none, h') ∧ RW h' S' wd' t fv nv V Z ∧ Ou h h' ∧ (∀ j, (j < 11 ∨ 15 < j) → S' j = S j) ∧ tokR S' wd' T (lexR T i (n - i)) :=
  nx0_go hT XT hn (n - i) i FU h S wd (by omega) (by show n - i < 1000000; omega) X s10 s11
end
