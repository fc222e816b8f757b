/-! margins -/
def sfW (A : Nat → Nat → Int32) (m F : Nat → Nat) (good : Nat → Bool) (w d : Nat) : Bool := safeS (ldW A m F w) (F 13) (nWd A m F w) (F 12) good d
def mgS (A : Nat → Nat → Int32) (m F : Nat → Nat) (good : Nat → Bool) (d : Nat) : Int32 := if sfW A m F good 2 d then 2 else if sfW A m F good 1 d then 1 else if sfW A m F good 0 d then 0 else -2
def okMg (V : Nat → Nat → Int32) (A : Nat → Nat → Int32) (m F : Nat → Nat) (good : Nat → Bool) : Prop := ∀ d, d < F 12 → V 73 d = mgS A m F good d
theorem okMw.ne {A : Nat → Nat → Int32} {m F : Nat → Nat} {good : Nat → Bool} {V : Nat → Nat → Int32} {w : Nat} (hg : ∀ c, F 12 ≤ c → good c = false) (h9 : F 13 ≤ 9) (O : okMw V A m F good w) {d : Nat} (hd : d < F 12) : V 74 d = 0 ↔ sfW A m F good w d = false := by
  constructor
  · intro z
    cases t : sfW A m F good w d with
    | false => rfl
    | true =>
      obtain ⟨q, q1, q2⟩ := canB_iff.mp (safe_fix hg t).2
      exact absurd z (bitI_ne (q := q) (by omega) ((O.1 d hd q (by omega)).mpr ⟨q1, t, q2⟩))
  · intro t
    apply Classical.byContradiction
    intro z
    obtain ⟨q, q1, q2⟩ := bitI_ex z
    have := ((O.1 d hd q q1).mp q2).2.1
    unfold sfW at t
    rw [t] at this
    cases this
section
variable {S : Nat → Nat → Int32} {Z : Nat → Nat → Int64} {D Ln : Nat → Nat} {b : Nat} {A : Nat → Nat → Int32} {N : Nat → Int64} {m F : Nat → Nat}
theorem sm140_go {good : Nat → Bool} (hg : ∀ c, F 12 ≤ c → good c = false) {w : Nat} {k128 : Nat → Int32 → aH → aO} : ∀ (n c f : Nat) (h : aH) (V : Nat → Nat → Int32), c + n = F 12 → n < f → CC h S V Z D Ln b A N m F → okMw V A m F good w →
    ∃ h' V', s_X7_settleMargins_140 k128 f 69 (jI w) (jI c) h = k128 69 (jI (w + 1)) h' ∧ CC h' S V' Z D Ln b A N m F ∧ Oc D h h' ∧ Sm [73] V V' ∧ ∀ d, d < F 12 → V' 73 d = if decide (c ≤ d) && sfW A m F good w d then jI w else V 73 d
  | _, _, 0, _, _, _, hf, _, _ => by omega
  | 0, c, f + 1, h, V, hk, hf, C, O => by
    have h400 := C.2.2.2.1.2.2.2.2.1
    have g0 : gO h (.ref 69) 7 0 = some 3 := gO_of (ltE (by decide)) (C.1.1 69 rfl) rfl
    refine ⟨h, V, ?_, C, Oc.refl, Sm.refl, fun d hd => by rw [decide_eq_false (by omega)]; rfl⟩
    show s_X7_settleMargins_140_b k128 (s_X7_settleMargins_140 k128 f) 69 (jI w) (jI c) h = _
    unfold s_X7_settleMargins_140_b
    rw [g0, Option.bind_some, C.f12, Option.bind_some, if_pos ((jI_le (by omega) (by omega)).mpr (by omega)), jI_inc]
  | n + 1, c, f + 1, h, V, hk, hf, C, O => by
    obtain ⟨X, HM, K, hC, hwd⟩ := id C
    have h400 := hC.2.2.2.2.1
    have h9 := hC.2.2.2.2.2.1
    have g0 : gO h (.ref 69) 7 0 = some 3 := gO_of (ltE (by decide)) (X.1 69 rfl) rfl
    have g10 : gO h (.ref 69) 7 10 = some 74 := gO_of (ltE (by decide)) (X.1 69 rfl) rfl
    have g9 : gO h (.ref 69) 7 9 = some 73 := gO_of (ltE (by decide)) (X.1 69 rfl) rfl
    have l74 : ldI .int h (.ref 74) (jI c) = some (V 74 c) := X.ld (a := 74) rfl (show c < 400 by omega)
    have ne := O.ne hg h9 (show c < F 12 by omega)
    cases z : sfW A m F good w c with
    | false =>
      obtain ⟨h', V', ih, i1, i2, i3, i4⟩ := sm140_go hg (k128 := k128) n (c + 1) f h V (by omega) (by omega) C O
      refine ⟨h', V', ?_, i1, i2, i3, fun d hd => ?_⟩
      · show s_X7_settleMargins_140_b k128 (s_X7_settleMargins_140 k128 f) 69 (jI w) (jI c) h = _
        unfold s_X7_settleMargins_140_b
        rw [g0, Option.bind_some, C.f12, Option.bind_some, if_neg (fun t => by have := (jI_le (by omega) (by omega)).mp t; omega), g10, Option.bind_some, l74, Option.bind_some, if_pos (ne.mpr z), jI_inc]
        exact ih
      · rw [i4 d hd]
        by_cases t : d = c
        · rw [t, z, Bool.and_false, Bool.and_false]
        · rw [show decide (c + 1 ≤ d) = decide (c ≤ d) from decide_eq_decide.mpr (by omega)]
    | true =>
      have zz : ¬ V 74 c = 0 := fun t => by rw [ne, z] at t; cases t
      obtain ⟨h1, e1, X1, O1⟩ := X.st (a := 73) (j := c) rfl (show c < 400 by omega) (jI w)
      obtain ⟨h', V', ih, i1, i2, i3, i4⟩ := sm140_go hg (k128 := k128) n (c + 1) f h1 _ (by omega) (by omega) (C.to X1 O1 rfl) ⟨fun c hc q hq => by rw [upd2_ne (by decide)]; exact O.1 c hc q hq, fun c q hc hq t => by
        rw [upd2_ne (by decide)] at t
        rw [upd2_ne (by decide)]
        exact O.2 c q hc hq t⟩
      refine ⟨h', V', ?_, i1, O1.trans i2, (Sm.refl.upd (by decide)).trans i3, fun d hd => ?_⟩
      · show s_X7_settleMargins_140_b k128 (s_X7_settleMargins_140 k128 f) 69 (jI w) (jI c) h = _
        unfold s_X7_settleMargins_140_b
        rw [g0, Option.bind_some, C.f12, Option.bind_some, if_neg (fun t => by have := (jI_le (by omega) (by omega)).mp t; omega), g10, Option.bind_some, l74, Option.bind_some, if_neg zz, g9, Option.bind_some, e1, Option.bind_some, jI_inc]
        exact ih
      · rw [i4 d hd, upd2_eq]
        by_cases t : d = c
        · rw [t, upd_eq, z, decide_eq_false (show ¬ c + 1 ≤ c by omega), decide_eq_true (Nat.le_refl c)]
          rfl
        · rw [upd_ne t, show decide (c + 1 ≤ d) = decide (c ≤ d) from decide_eq_decide.mpr (by omega)]
theorem sm88_go {good : Nat → Bool} : ∀ (n c f : Nat) (h : aH) (V : Nat → Nat → Int32), c + n = F 12 → n < f → CC h S V Z D Ln b A N m F →
    ∃ h' V', s_X7_settleMargins_88 f 69 (jI c) h = s_X7_settleMargins_128 FU 69 1 h' ∧ CC h' S V' Z D Ln b A N m F ∧ Oc D h h' ∧ Sm [73] V V' ∧ (∀ d, c ≤ d → d < F 12 → V' 73 d = if V 72 d = 0 then -2 else 0) ∧ ∀ d, d < c → V' 73 d = V 73 d
  | _, _, 0, _, _, _, hf, _ => by omega
  | 0, c, f + 1, h, V, hk, hf, C => by
    have h400 := C.2.2.2.1.2.2.2.2.1
    have g0 : gO h (.ref 69) 7 0 = some 3 := gO_of (ltE (by decide)) (C.1.1 69 rfl) rfl
    refine ⟨h, V, ?_, C, Oc.refl, Sm.refl, fun d h1 h2 => by omega, fun _ _ => rfl⟩
    show s_X7_settleMargins_88_b (s_X7_settleMargins_88 f) 69 (jI c) h = _
    unfold s_X7_settleMargins_88_b
    rw [g0, Option.bind_some, C.f12, Option.bind_some, if_pos ((jI_le (by omega) (by omega)).mpr (by omega))]
  | n + 1, c, f + 1, h, V, hk, hf, C => by
    obtain ⟨X, HM, K, hC, hwd⟩ := id C
    have h400 := hC.2.2.2.2.1
    have g0 : gO h (.ref 69) 7 0 = some 3 := gO_of (ltE (by decide)) (X.1 69 rfl) rfl
    have g8 : gO h (.ref 69) 7 8 = some 72 := gO_of (ltE (by decide)) (X.1 69 rfl) rfl
    have g9 : gO h (.ref 69) 7 9 = some 73 := gO_of (ltE (by decide)) (X.1 69 rfl) rfl
    have l72 : ldI .int h (.ref 72) (jI c) = some (V 72 c) := X.ld (a := 72) rfl (show c < 400 by omega)
    obtain ⟨x, hx⟩ : ∃ x : Int32, x = if V 72 c = 0 then -2 else 0 := ⟨_, rfl⟩
    obtain ⟨h1, e1, X1, O1⟩ := X.st (a := 73) (j := c) rfl (show c < 400 by omega) x
    obtain ⟨h', V', ih, i1, i2, i3, i4, i5⟩ := sm88_go (good := good) n (c + 1) f h1 _ (by omega) (by omega) (C.to X1 O1 rfl)
    refine ⟨h', V', ?_, i1, O1.trans i2, (Sm.refl.upd (by decide)).trans i3, fun d d1 d2 => ?_, fun d hd => ?_⟩
    · have p : ∀ y, y = x → s_X7_settleMargins_119 (s_X7_settleMargins_88 f) 69 (jI c) y (jI c) 73 h = s_X7_settleMargins_128 FU 69 1 h' := by
        intro y hy
        unfold s_X7_settleMargins_119
        rw [hy, e1, Option.bind_some, jI_inc]
        exact ih
      show s_X7_settleMargins_88_b (s_X7_settleMargins_88 f) 69 (jI c) h = _
      unfold s_X7_settleMargins_88_b
      rw [g0, Option.bind_some, C.f12, Option.bind_some, if_neg (fun t => by have := (jI_le (by omega) (by omega)).mp t; omega), g9, Option.bind_some, g8, Option.bind_some, l72, Option.bind_some]
      by_cases z : V 72 c = 0
      · rw [if_pos z]
        exact p _ (by rw [hx, if_pos z])
      · rw [if_neg z]
        exact p _ (by rw [hx, if_neg z])
    · by_cases y : d = c
      · rw [y, i5 c (by omega), upd2_eq, upd_eq, hx]
      · rw [i4 d (by omega) d2, upd2_ne (by decide)]
    · rw [i5 d (by omega), upd2_eq, upd_ne (by omega)]
theorem CC.settleMargins {h : aH} {V : Nat → Nat → Int32} (C : CC h S V Z D Ln b A N m F) {good : Nat → Bool} (hg : ∀ c, F 12 ≤ c → good c = false) (sf : okSf S V A m F good) (M : okMv V A m F) (L : lenMv Ln F) (hs : S 69 5 = 0 ∨ S 69 5 = 1) (hok : S 69 5 = 1 → okMg V A m F good) :
    ∃ h' V' D' Ln' n y, s_X7_settleMargins 69 h = some (.inl none, h', n, y) ∧ CC h' (upd2 S 69 (upd (S 69) 5 1)) V' Z D' Ln' b A N m F ∧ Oc D h h' ∧ Gr h D D' ∧ Sm [70, 73, 74, 75, 76, 77] V V' ∧ okMg V' A m F good ∧ (∀ j, j ≠ 75 → Ln' j = Ln j ∧ D' j = D j) ∧ Ct Ln Ln' n y := by
  obtain ⟨X, HM, K, hC, hw⟩ := id C
  have h400 := hC.2.2.2.2.1
  have h9 := hC.2.2.2.2.2.1
  have g5 : gI h (.ref 69) 7 5 = some (S 69 5) := gI_of (ltE (by decide)) (X.1 69 rfl) rfl
  rcases hs with q | q
  · obtain ⟨S1, hS1⟩ : ∃ S1, S1 = upd2 S 69 (upd (S 69) 5 1) := ⟨_, rfl⟩
    have r1 := X.obj (a := 69) (g := upd (S 69) 5 1) rfl
    rw [← hS1] at r1 ⊢
    obtain ⟨h1, e1, X1, O1⟩ : ∃ h1, pZ h (.ref 69) 7 5 1 = some h1 ∧ CW h1 S1 V Z D Ln b ∧ Oc D h h1 := by
      refine ⟨_, ?_, r1.1, r1.2⟩
      rw [pZ_of (ltE (by decide)) (X.1 69 rfl) (show 5 < 14 by decide) (Or.inr rfl), hS1]
      rfl
    have C1 : CC h1 S1 V Z D Ln b A N m F := C.to X1 O1 (by rw [hS1, upd2_ne (by decide)])
    have a8 : gO h1 (.ref 69) 7 8 = some 72 := gO_of (ltE (by decide)) (X1.1 69 rfl) rfl
    have a10 : gO h1 (.ref 69) 7 10 = some 74 := gO_of (ltE (by decide)) (X1.1 69 rfl) rfl
    have a0 : gO h1 (.ref 69) 7 0 = some 3 := gO_of (ltE (by decide)) (X1.1 69 rfl) rfl
    obtain ⟨g', c1, c2⟩ := cpI_of (n := F 12) (ltE (show 72 < 1000000 by decide)) (ltE (show 74 < 1000000 by decide)) (X1.2.1 72 rfl) (X1.2.1 74 rfl) (show F 12 ≤ 400 from h400) (show F 12 ≤ 400 from h400) (by omega)
    have r2 := X1.row (a := 74) (g := g') rfl
    obtain ⟨h2, hh2⟩ : ∃ h2, h2 = h1.set 74 (.inl (.int, lnC 74, .inl g')) := ⟨_, rfl⟩
    rw [← hh2] at r2
    have c1' : cpI h1 (.ref 72) 0 (.ref 74) 0 (jI (F 12)) = some h2 := by rw [hh2]; exact c1
    have C2 := C1.to r2.1 r2.2 rfl
    have b0 : gO h2 (.ref 69) 7 0 = some 3 := gO_of (ltE (by decide)) (C2.1.1 69 rfl) rfl
    have b1 : gO h2 (.ref 69) 7 1 = some 56 := gO_of (ltE (by decide)) (C2.1.1 69 rfl) rfl
    have b11 : gO h2 (.ref 69) 7 11 = some (D 75) := gO_of (ltE (by decide)) (C2.1.1 69 rfl) rfl
    have w1 : S1 56 3 = jI (F 12 / 32 + 1) := by rw [hS1, upd2_ne (by decide)]; exact hw
    have b33 : gI h2 (.ref 56) 3 3 = some (jI (F 12 / 32 + 1)) := w1 ▸ gI_of (ltE (by decide)) (C2.1.1 56 rfl) rfl
    have n2 : F 12 * F 13 * (F 12 / 32 + 1) ≤ mxD 75 := size3 h400 h9 13 (by omega)
    obtain ⟨h3, na, ya, x3, L4, V4, h4, e3, e4, X4, O4, G4, len4, oth4, -, ct1, ct2, big4⟩ := C2.1.grow (i := 75) rfl (o := 69) (kf := 11) rfl rfl (show 11 < 14 by decide) (fun x => rfl) (oF_grow (by decide) D) n2
    obtain ⟨D4, hD4⟩ : ∃ D4, D4 = updN D 75 x3 := ⟨_, rfl⟩
    rw [← hD4] at X4 G4
    have C4 := C2.to X4 O4 rfl
    have d1 : gO h4 (.ref 69) 7 1 = some 56 := gO_of (ltE (by decide)) (X4.1 69 rfl) rfl
    have d5 : gO h4 (.ref 56) 3 5 = some (D4 59) := gO_of (ltE (by decide)) (X4.1 56 rfl) rfl
    have d11 : gO h4 (.ref 69) 7 11 = some (D4 75) := gO_of (ltE (by decide)) (X4.1 69 rfl) rfl
    have l59 : F 12 * F 13 * (F 12 / 32 + 1) ≤ L4 59 := by rw [(oth4 59 (by decide)).1]; exact L.2
    have hL59 := X4.lnD (i := 59) rfl
    obtain ⟨g5', c3, c4⟩ := cpI_of (n := F 12 * F 13 * (F 12 / 32 + 1)) (X4.dlt (i := 59) rfl) (X4.dlt (i := 75) rfl) (X4.2.2.2.1 59 rfl) (X4.2.2.2.1 75 rfl) l59 len4 (by omega)
    have r5 := X4.rowD (a := 75) (g := g5') rfl
    obtain ⟨h5, hh5⟩ : ∃ h5, h5 = h4.set (D4 75) (.inl (.int, L4 75, .inl g5')) := ⟨_, rfl⟩
    rw [← hh5] at r5 c3
    have C5 := C4.to r5.1 r5.2 rfl
    obtain ⟨V5, hV5⟩ : ∃ V5, V5 = upd2 V4 75 g5' := ⟨_, rfl⟩
    rw [← hV5] at C5
    have M5 : Sm [74, 75] V V5 := fun k hk => by
      have k1 : k ≠ 74 := fun z => hk (by rw [z]; decide)
      have k2 : k ≠ 75 := fun z => hk (by rw [z]; decide)
      rw [hV5, upd2_ne k2, (oth4 k k2).2, upd2_ne k1]
    have v74 : ∀ d, d < F 12 → V5 74 d = V 72 d := fun d hd => by
      rw [hV5, upd2_ne (by decide), (oth4 74 (by decide)).2, upd2_eq, c2, if_pos hd]
    have v75 : ∀ i, i < F 12 * F 13 * (F 12 / 32 + 1) → V5 75 i = V 59 i := fun i hi => by
      rw [hV5, upd2_eq, c4, if_pos hi, (oth4 59 (by decide)).2, upd2_ne (by decide)]
    have mw0 : okMw V5 A m F good 0 := by
      refine ⟨fun c hc q hq => ?_, fun c q hc hq _ e he => ?_⟩
      · rw [v74 c hc, ldW_0, nWd_0 hC]
        exact sf.1 c hc q hq
      · have hrow : (c * F 13 + q) * (F 12 / 32 + 1) + (F 12 / 32 + 1) ≤ F 12 * F 13 * (F 12 / 32 + 1) := by
          have h1 : c * F 13 + q + 1 ≤ F 12 * F 13 := by
            have : (c + 1) * F 13 ≤ F 12 * F 13 := Nat.mul_le_mul_right _ (by omega)
            rw [Nat.add_mul] at this
            omega
          have := Nat.mul_le_mul_right (F 12 / 32 + 1) h1
          rw [Nat.add_mul, Nat.one_mul] at this
          exact this
        rw [ldW_0, nWd_0 hC, ← M.2 c q hc hq e he]
        unfold bit
        rw [v75 _ (by omega)]
    obtain ⟨h6, V6, e6, C6, O6, M6, a6, -⟩ := sm88_go (good := good) (F 12) 0 FU h5 V5 (by omega) (by unfold FU; omega) C5
    have mw6 : okMw V6 A m F good 0 := ⟨fun c hc q hq => by rw [M6 74 (by decide)]; exact mw0.1 c hc q hq, fun c q hc hq t => by
      rw [M6 74 (by decide)] at t
      rw [M6 75 (by decide)]
      exact mw0.2 c q hc hq t⟩
    obtain ⟨h7, V7, e7, C7, O7, M7, mw7⟩ := widen_at hg (w := 0) (by decide) len4 C6 mw6
    obtain ⟨h8, V8, e8, C8, O8, M8, a8'⟩ := sm140_go hg (w := 1) (k128 := s_X7_settleMargins_128 999999) (F 12) 0 FU h7 V7 (by omega) (by unfold FU; omega) C7 mw7
    have mw8 : okMw V8 A m F good 1 := ⟨fun c hc q hq => by rw [M8 74 (by decide)]; exact mw7.1 c hc q hq, fun c q hc hq t => by
      rw [M8 74 (by decide)] at t
      rw [M8 75 (by decide)]
      exact mw7.2 c q hc hq t⟩
    obtain ⟨h9', V9, e9, C9, O9, M9, mw9⟩ := widen_at hg (w := 1) (by decide) len4 C8 mw8
    obtain ⟨h10, V10, e10, C10, O10, M10, a10'⟩ := sm140_go hg (w := 2) (k128 := s_X7_settleMargins_128 999998) (F 12) 0 FU h9' V9 (by omega) (by unfold FU; omega) C9 mw9
    have MM : Sm [70, 73, 74, 75, 76, 77] V V10 := (((((M5.mono (by decide)).trans (M6.mono (by decide))).trans (M7.mono (by decide))).trans (M8.mono (by decide))).trans (M9.mono (by decide))).trans (M10.mono (by decide))
    have Gr1 : Gr h D D4 := fun i hi => by
      rcases G4 i hi with z | z
      · exact Or.inl z
      · exact Or.inr (Nat.le_trans (O1.trans r2.2).1 z)
    have OO : Oc D h h10 := ((O1.trans r2.2).trans O4).trans2 Gr1 (((((r5.2.trans O6).trans O7).trans O8).trans O9).trans O10)
    refine ⟨h10, V10, D4, L4, 0 + na, 0 + ya, ?_, C10, OO, Gr1, MM, fun d hd => ?_, fun j hj => ?_, ?_⟩
    · have e6' : s_X7_settleMargins_88 FU 69 0 h5 = s_X7_settleMargins_128 FU 69 1 h6 := e6
      have sc : ∀ f, s_X7_settleMargins_128 (f + 1) = s_X7_settleMargins_128_b (s_X7_settleMargins_128 f) := fun f => rfl
      have e7' : s_X7_widen 69 1 h6 = some (.inl none, h7) := e7
      have e9' : s_X7_widen 69 2 h8 = some (.inl none, h9') := e9
      have e8' : s_X7_settleMargins_140 (s_X7_settleMargins_128 999999) FU 69 1 0 h7 = s_X7_settleMargins_128 999999 69 2 h8 := e8
      have e10' : s_X7_settleMargins_140 (s_X7_settleMargins_128 999998) FU 69 2 0 h9' = s_X7_settleMargins_128 999998 69 3 h10 := e10
      have fin : s_X7_settleMargins_128 FU 69 1 h6 = some (.inl none, h10) := by
        have fu : FU = 999999 + 1 := rfl
        have fu2 : (999999 : Nat) = 999998 + 1 := rfl
        have fu3 : (999998 : Nat) = 999997 + 1 := rfl
        rw [fu, sc]
        unfold s_X7_settleMargins_128_b
        rw [if_neg (by decide), kO_of (ltE (by decide)) (C6.1.1 69 rfl), e7']
        simp only [cN]
        rw [e8', fu2, sc]
        unfold s_X7_settleMargins_128_b
        rw [if_neg (by decide), kO_of (ltE (by decide)) (C8.1.1 69 rfl), e9']
        simp only [cN]
        rw [e10', fu3, sc]
        unfold s_X7_settleMargins_128_b
        rw [if_pos (by decide)]
      unfold s_X7_settleMargins
      rw [g5, Option.bind_some, if_pos q, e1]
      simp only [Option.bind_some, a8, a10, a0, C1.f12, c1', b0, b1, b11, b33, C2.f12, C2.f13, jI_mul, e3, dR, e4, d1, d5, d11, c3]
      rw [e6', fin]
      simp only [wC]
      rw [ck_of (Nat.le_refl _) (Nat.le_refl _)]
    · rw [a10' d hd, M9 73 (by decide), a8' d hd, M7 73 (by decide), a6 d (Nat.zero_le _) hd, M5 72 (by decide), ← v74 d hd]
      unfold mgS
      have ne := mw0.ne hg h9 hd
      rw [decide_eq_true (Nat.zero_le d), Bool.true_and, Bool.true_and]
      cases z2 : sfW A m F good 2 d with
      | true => rfl
      | false =>
        cases z1 : sfW A m F good 1 d with
        | true => rfl
        | false =>
          cases z0 : sfW A m F good 0 d with
          | true =>
            rw [if_neg (show ¬ V5 74 d = 0 from fun t => by rw [ne, z0] at t; cases t)]
            rfl
          | false =>
            rw [if_pos (ne.mpr z0)]
            rfl
    · rw [(oth4 j hj).1, hD4, updN_ne hj]
      exact ⟨rfl, rfl⟩
    · rw [Nat.zero_add, Nat.zero_add]
      exact Ct.of (i := 75) rfl (fun j hj => (oth4 j hj).1) ct1 ct2
  · have eS : upd2 S 69 (upd (S 69) 5 1) = S := by
      have e1 : upd (S 69) 5 1 = S 69 := by rw [← q]; exact upd_self
      rw [e1, upd2_self]
    refine ⟨h, V, D, Ln, 0, 0, ?_, by rw [eS]; exact C, Oc.refl, Gr.refl, Sm.refl, hok q, fun _ _ => ⟨rfl, rfl⟩, Ct.z⟩
    unfold s_X7_settleMargins
    rw [g5, Option.bind_some, if_neg (by rw [q]; decide)]
    rfl
end
