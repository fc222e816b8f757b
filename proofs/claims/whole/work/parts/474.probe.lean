/-! the reference's guess, fit and probe -/
section
variable {S : Nat → Int32} {wd : Int64} {t : Nat} {fv nv : Value} {Z : Nat → Nat → Int64} {A : Nat → Nat → Int32} {m F : Nat → Nat} {B : Nat → Nat → Int32} {W : Nat → Int64} {G : Nat → Nat} {good : Nat → Bool} {tp ta tv : Nat → Int32} {bn fl tick : Nat}
theorem gu79_go {s : Nat} {mo : Bool} (hs : s < m 0) {T : Nat → Bool} : ∀ (n c f : Nat) (a : Int32) (h : aH) (V : Nat → Nat → Int32), c + n = F 12 → n < f → RC h S wd t fv nv V Z A m F B W G → (∀ d, d < F 12 → V 180 d = b01 (T d)) →
    ∃ h' V', s_X14_guess_79 f 104 (jI s) (b01 mo) a (jI c) h = some (.inl (some (.int (gsG T (fun c => sprGo A 0 0 (m 0) (jI c) zV s) mo c n a))), h') ∧ RC h' S wd t fv nv V' Z A m F B W G ∧ Ou h h' ∧ Sm [148] V V'
  | _, _, 0, _, _, _, _, hf, _, _ => by omega
  | 0, c, f + 1, a, h, V, hn, hf, C, hT => by
    have h400 := C.2.2.2.2.2.1.2.2.2.2.1
    refine ⟨h, V, ?_, C, Ou.refl, Sm.refl⟩
    show s_X14_guess_79_b (s_X14_guess_79 f) 104 (jI s) (b01 mo) a (jI c) h = _
    unfold s_X14_guess_79_b
    rw [C.g20, Option.bind_some, if_pos ((jI_le (by omega) (by omega)).mpr (by omega))]
    rfl
  | n + 1, c, f + 1, a, h, V, hn, hf, C, hT => by
    have h400 := C.2.2.2.2.2.1.2.2.2.2.1
    have k0 := C.2.2.2.2.1.1.1.1
    have g65 : gO h (.ref 104) 14 65 = some 180 := gO_of (ltE (by decide)) C.1.1 rfl
    have l180 : ldI .boolean h (.ref 180) (jI c) = some (b01 (T c)) := (hT c (by omega)) ▸ C.1.ld (a := 180) rfl (show c < 400 by omega)
    have gs : ∀ a, gsG T (fun c => sprGo A 0 0 (m 0) (jI c) zV s) mo c (n + 1) a = if T c then gsG T (fun c => sprGo A 0 0 (m 0) (jI c) zV s) mo (c + 1) n (if mo then jmax a (sprGo A 0 0 (m 0) (jI c) zV s) else jmin a (sprGo A 0 0 (m 0) (jI c) zV s)) else gsG T (fun c => sprGo A 0 0 (m 0) (jI c) zV s) mo (c + 1) n a := fun a => rfl
    cases z : T c with
    | false =>
      obtain ⟨h', V', ih, r⟩ := gu79_go (s := s) (mo := mo) hs (T := T) n (c + 1) f a h V (by omega) (by omega) C hT
      refine ⟨h', V', ?_, r⟩
      rw [gs, z, if_neg (show ¬ (false = true) by decide)]
      refine Eq.trans ?_ ih
      show s_X14_guess_79_b (s_X14_guess_79 f) 104 (jI s) (b01 mo) a (jI c) h = _
      unfold s_X14_guess_79_b
      rw [C.g20, Option.bind_some, if_neg (fun q => by have := (jI_le (by omega) (by omega)).mp q; omega), g65, Option.bind_some, l180, Option.bind_some, z, if_pos b01_f, jI_inc]
    | true =>
      obtain ⟨h1, e1, C1, O1⟩ := C.lays (jI c)
      have g29 : gO h1 (.ref 104) 14 29 = some 148 := gO_of (ltE (by decide)) C1.1.1 rfl
      have l148 : ldI .int h1 (.ref 148) (jI s) = some (sprGo A 0 0 (m 0) (jI c) zV s) := by
        have := C1.1.ld (a := 148) (j := s) rfl (show s < 11 by omega)
        rw [upd2_eq] at this
        refine this.trans ?_
        congr 1
        exact spr_in A 0 0 (m 0) _ _ _ s (Nat.zero_le _) (by omega)
      obtain ⟨h', V', ih, i1, i2, i3⟩ := gu79_go (s := s) (mo := mo) hs (T := T) n (c + 1) f (if mo then jmax a (sprGo A 0 0 (m 0) (jI c) zV s) else jmin a (sprGo A 0 0 (m 0) (jI c) zV s)) h1 _ (by omega) (by omega) C1 (fun d hd => by rw [upd2_ne (by decide)]; exact hT d hd)
      refine ⟨h', V', ?_, i1, O1.trans i2, (Sm.refl.upd (by decide)).trans i3⟩
      rw [gs, z, if_pos rfl]
      refine Eq.trans ?_ ih
      show s_X14_guess_79_b (s_X14_guess_79 f) 104 (jI s) (b01 mo) a (jI c) h = _
      unfold s_X14_guess_79_b s_X14_guess_134
      rw [C.g20, Option.bind_some, if_neg (fun q => by have := (jI_le (by omega) (by omega)).mp q; omega), g65, Option.bind_some, l180, Option.bind_some, z, if_neg (show ¬ b01 true = 0 by decide), C.kO, e1]
      simp only [cN, g29, l148, Option.bind_some, jI_inc]
      cases mo with
      | false =>
        rw [if_pos b01_f, if_neg (show ¬ (false = true) by decide)]
      | true =>
        rw [if_neg (show ¬ b01 true = 0 by decide), if_pos rfl]
theorem fr22_go {tk : Nat} (htk : tk ≤ 30) (hS : S 59 = jI tk) (hpq : ∀ e, 1 ≤ e → e ≤ tk → ∃ q, tp e = jI q ∧ q < F 13) : ∀ (n k f g : Nat) (h : aH) (V : Nat → Nat → Int32), k + n = F 15 → n < f → g + n < 1000000 → RC h S wd t fv nv V Z A m F B W G → okTr V ta tv → gdR V (F 12) good → (∀ e, 1 ≤ e → e ≤ tk → V 175 e = tp e) →
    ∃ h' V', s_X14_fit_22 f 104 (jI g) (jI k) h = some (.inl (some (.int (jI (g + cntR (fiS A m F good tp ta tv (jI tk) 0 tk) k n)))), h') ∧ RC h' (twS S 0) wd t fv nv V' Z A m F B W G ∧ Ou h h' ∧ Sm [148, 149, 178, 179] V V'
  | _, _, 0, _, _, _, _, hf, _, _, _, _, _ => by omega
  | 0, k, f + 1, g, h, V, hn, hf, hgn, C, Tr, hg, h175 => by
    have pos := C.2.2.2.2.2.1.pos
    obtain ⟨h', e, C', O'⟩ := C.done (jI g)
    refine ⟨h', V, ?_, C', O', Sm.refl⟩
    show s_X14_fit_22_b (s_X14_fit_22 f) 104 (jI g) (jI k) h = _
    unfold s_X14_fit_22_b
    rw [C.g23, Option.bind_some, if_pos ((jI_le (by omega) (by omega)).mpr (by omega)), C.kO, e]
    rfl
  | n + 1, k, f + 1, g, h, V, hn, hf, hgn, C, Tr, hg, h175 => by
    have pos := C.2.2.2.2.2.1.pos
    have g59 : gI h (.ref 104) 14 59 = some (jI tk) := hS ▸ gI_of (ltE (by decide)) C.1.1 rfl
    obtain ⟨h1, V1, e1, C1, O1, M1, -⟩ := C.goes (tick := tk) (bn := tk) (fl := 0) (k := k) htk (by decide) (by omega) hpq Tr hg h175
    have e1' : s_X14_goes 104 (jI k) (jI tk) (jI tk) 0 h = _ := e1
    obtain ⟨h', V', ih, i1, i2, i3⟩ := fr22_go htk hS hpq n (k + 1) f (g + (if fiS A m F good tp ta tv (jI tk) 0 tk k then 1 else 0)) h1 V1 (by omega) (by omega) (by split <;> omega) C1 (Tr.sm (M1 177 (by decide)) (M1 176 (by decide))) (fun d hd => by rw [M1 146 (by decide)]; exact hg d hd) (fun e x1 x2 => by rw [M1 175 (by decide)]; exact h175 e x1 x2)
    refine ⟨h', V', ?_, i1, O1.trans i2, M1.trans i3⟩
    have cr : cntR (fiS A m F good tp ta tv (jI tk) 0 tk) k (n + 1) = (if fiS A m F good tp ta tv (jI tk) 0 tk k then 1 else 0) + cntR (fiS A m F good tp ta tv (jI tk) 0 tk) (k + 1) n := rfl
    rw [cr, ← Nat.add_assoc, ← ih]
    show s_X14_fit_22_b (s_X14_fit_22 f) 104 (jI g) (jI k) h = _
    unfold s_X14_fit_22_b s_X14_fit_53
    rw [C.g23, Option.bind_some, if_neg (fun q => by have := (jI_le (by omega) (by omega)).mp q; omega), g59, Option.bind_some, Option.bind_some, C.kO, e1']
    simp only [cI, jI_inc]
    cases z : fiS A m F good tp ta tv (jI tk) 0 tk k with
    | false =>
      rw [if_pos b01_f, Int32.add_zero]
      rfl
    | true =>
      rw [if_neg (show ¬ b01 true = 0 by decide)]
      rfl
theorem ne2_go {a1 a2 : Int32} : ∀ (n c f : Nat) (h : aH) (V : Nat → Nat → Int32), c + n = F 12 → n < f → RC h S wd t fv nv V Z A m F B W G → (∀ d, d < c → V 180 d = 0) →
    ∃ h' V', s_X14_nextsOf_2 f 104 a1 a2 (jI c) h = s_X14_nextsOf_28 FU 104 a1 a2 0 0 h' ∧ RC h' S wd t fv nv V' Z A m F B W G ∧ Ou h h' ∧ Sm [180] V V' ∧ ∀ d, d < F 12 → V' 180 d = 0
  | _, _, 0, _, _, _, hf, _, _ => by omega
  | 0, c, f + 1, h, V, hn, hf, C, h2 => by
    have h400 := C.2.2.2.2.2.1.2.2.2.2.1
    refine ⟨h, V, ?_, C, Ou.refl, Sm.refl, fun d hd => h2 d (by omega)⟩
    show s_X14_nextsOf_2_b (s_X14_nextsOf_2 f) 104 a1 a2 (jI c) h = _
    unfold s_X14_nextsOf_2_b
    rw [C.g20, Option.bind_some, if_pos ((jI_le (by omega) (by omega)).mpr (by omega))]
  | n + 1, c, f + 1, h, V, hn, hf, C, h2 => by
    have h400 := C.2.2.2.2.2.1.2.2.2.2.1
    have g65 : gO h (.ref 104) 14 65 = some 180 := gO_of (ltE (by decide)) C.1.1 rfl
    obtain ⟨h3, e3, X3, O3⟩ := C.1.stN (a := 180) (j := c) rfl (show c < 400 by omega) 0
    rw [show vp_nar (ryR 180) 0 = 0 from bool_nar.1] at X3
    have e3' : stN .boolean h (.ref 180) (jI c) 0 = some h3 := e3
    obtain ⟨h', V', ih, i1, i2, i3, i4⟩ := ne2_go (a1 := a1) (a2 := a2) n (c + 1) f h3 _ (by omega) (by omega) (C.to X3 O3) (fun d hd => by
      rw [upd2_eq]
      by_cases u : d = c
      · rw [u, upd_eq]
      · rw [upd_ne u]; exact h2 d (by omega))
    refine ⟨h', V', ?_, i1, O3.trans i2, (Sm.refl.upd (by decide)).trans i3, i4⟩
    show s_X14_nextsOf_2_b (s_X14_nextsOf_2 f) 104 a1 a2 (jI c) h = _
    unfold s_X14_nextsOf_2_b
    rw [C.g20, Option.bind_some, if_neg (fun q => by have := (jI_le (by omega) (by omega)).mp q; omega), g65, Option.bind_some, e3', Option.bind_some, jI_inc]
    exact ih
theorem ne28_go {tk c p : Nat} (htk : tk ≤ 30) (hS : S 59 = jI tk) (hpq : ∀ e, 1 ≤ e → e ≤ tk → ∃ q, tp e = jI q ∧ q < F 13) (hc : c < F 12) (hp : p < F 13) (hno : ∀ x, x < F 14 → ldV A m F c p x ≠ -2) : ∀ (n k f g : Nat) (h : aH) (V : Nat → Nat → Int32), k + n = F 15 → n < f → g + n < 1000000 → RC h S wd t fv nv V Z A m F B W G → okLd V A m F → okTr V ta tv → gdR V (F 12) good → (∀ e, 1 ≤ e → e ≤ tk → V 175 e = tp e) → (∀ d, d < F 12 → V 180 d = b01 (anyR (fun j => fiS A m F good tp ta tv (jI tk) 0 tk j && decide (ldV A m F c p j = jI d)) 0 k)) →
    ∃ h' V', s_X14_nextsOf_28 f 104 (jI c) (jI p) (jI g) (jI k) h = some (.inl (some (.int (jI (g + cntR (dlB (fiS A m F good tp ta tv (jI tk) 0 tk) (ldV A m F c p)) k n)))), h') ∧ RC h' S wd t fv nv V' Z A m F B W G ∧ Ou h h' ∧ Sm [148, 149, 178, 179, 180] V V'
  | _, _, 0, _, _, _, _, hf, _, _, _, _, _, _, _ => by omega
  | 0, k, f + 1, g, h, V, hn, hf, hgn, C, L, Tr, hg, h175, hT => by
    have pos := C.2.2.2.2.2.1.pos
    refine ⟨h, V, ?_, C, Ou.refl, Sm.refl⟩
    show s_X14_nextsOf_28_b (s_X14_nextsOf_28 f) 104 (jI c) (jI p) (jI g) (jI k) h = _
    unfold s_X14_nextsOf_28_b
    rw [C.g23, Option.bind_some, if_pos ((jI_le (by omega) (by omega)).mpr (by omega))]
    rfl
  | n + 1, k, f + 1, g, h, V, hn, hf, hgn, C, L, Tr, hg, h175, hT => by
    obtain ⟨X, HT, hot, sim, K, hC, -⟩ := id C
    have pos := hC.pos
    have h400 := hC.2.2.2.2.1
    have fl15 := f15_le hC
    have g59 : gI h (.ref 104) 14 59 = some (jI tk) := hS ▸ gI_of (ltE (by decide)) X.1 rfl
    obtain ⟨h1, V1, e1, C1, O1, M1, -⟩ := C.goes (tick := tk) (bn := tk) (fl := 0) (k := k) htk (by decide) (by omega) hpq Tr hg h175
    have e1' : s_X14_goes 104 (jI k) (jI tk) (jI tk) 0 h = _ := e1
    have L1 : okLd V1 A m F := L.sm (M1 151 (by decide))
    have cr : cntR (dlB (fiS A m F good tp ta tv (jI tk) 0 tk) (ldV A m F c p)) k (n + 1) = (if dlB (fiS A m F good tp ta tv (jI tk) 0 tk) (ldV A m F c p) k then 1 else 0) + cntR (dlB (fiS A m F good tp ta tv (jI tk) 0 tk) (ldV A m F c p)) (k + 1) n := rfl
    have cont : ∀ (g' : Nat) (h2 : aH) (V2 : Nat → Nat → Int32), g' = g + (if dlB (fiS A m F good tp ta tv (jI tk) 0 tk) (ldV A m F c p) k then 1 else 0) → RC h2 S wd t fv nv V2 Z A m F B W G → Ou h h2 → Sm [148, 149, 178, 179, 180] V V2 → (∀ d, d < F 12 → V2 180 d = b01 (anyR (fun j => fiS A m F good tp ta tv (jI tk) 0 tk j && decide (ldV A m F c p j = jI d)) 0 (k + 1))) →
        ∃ h' V', s_X14_nextsOf_28 f 104 (jI c) (jI p) (jI g') (jI (k + 1)) h2 = some (.inl (some (.int (jI (g + cntR (dlB (fiS A m F good tp ta tv (jI tk) 0 tk) (ldV A m F c p)) k (n + 1))))), h') ∧ RC h' S wd t fv nv V' Z A m F B W G ∧ Ou h h' ∧ Sm [148, 149, 178, 179, 180] V V' := by
      intro g' h2 V2 hg' C2 O2 M2 hT2
      obtain ⟨h', V', ih, i1, i2, i3⟩ := ne28_go htk hS hpq hc hp hno n (k + 1) f g' h2 V2 (by omega) (by omega) (by rw [hg']; split <;> omega) C2 (L.sm (M2 151 (by decide))) (Tr.sm (M2 177 (by decide)) (M2 176 (by decide))) (fun d hd => by rw [M2 146 (by decide)]; exact hg d hd) (fun e x1 x2 => by rw [M2 175 (by decide)]; exact h175 e x1 x2) hT2
      refine ⟨h', V', ?_, i1, O2.trans i2, M2.trans i3⟩
      rw [ih, cr, hg', Nat.add_assoc]
    cases z : fiS A m F good tp ta tv (jI tk) 0 tk k with
    | false =>
      have ed : dlB (fiS A m F good tp ta tv (jI tk) 0 tk) (ldV A m F c p) k = false := by unfold dlB; rw [z]; rfl
      obtain ⟨h', V', r1, r2⟩ := cont g h1 V1 (by rw [ed]; rfl) C1 O1 (M1.mono (by decide)) (fun d hd => by
        rw [M1 180 (by decide), hT d hd, anyR_snoc, Nat.zero_add, z, Bool.false_and, Bool.or_false])
      refine ⟨h', V', ?_, r2⟩
      show s_X14_nextsOf_28_b (s_X14_nextsOf_28 f) 104 (jI c) (jI p) (jI g) (jI k) h = _
      unfold s_X14_nextsOf_28_b
      rw [C.g23, Option.bind_some, if_neg (fun q => by have := (jI_le (by omega) (by omega)).mp q; omega), g59, Option.bind_some, Option.bind_some, C.kO, e1', z]
      simp only [cI]
      rw [if_pos b01_f, jI_inc]
      exact r1
    | true =>
      have e2 := C1.to_at L1 hc hp (show k < F 14 by omega)
      rcases ldV_is K hC c p k with y | ⟨d, y, hd⟩
      · exact absurd y (hno k (by omega))
      · rw [y] at e2
        have g65 : gO h1 (.ref 104) 14 65 = some 180 := gO_of (ltE (by decide)) C1.1.1 rfl
        have l180 : ldI .boolean h1 (.ref 180) (jI d) = some (b01 (anyR (fun j => fiS A m F good tp ta tv (jI tk) 0 tk j && decide (ldV A m F c p j = jI d)) 0 k)) := by
          rw [← hT d hd, ← M1 180 (by decide)]
          exact C1.1.ld (a := 180) rfl (show d < 400 by omega)
        have ed : dlB (fiS A m F good tp ta tv (jI tk) 0 tk) (ldV A m F c p) k = !anyR (fun j => fiS A m F good tp ta tv (jI tk) 0 tk j && decide (ldV A m F c p j = jI d)) 0 k := by
          unfold dlB
          rw [z, Bool.true_and, y]
        have snoc : ∀ d', anyR (fun j => fiS A m F good tp ta tv (jI tk) 0 tk j && decide (ldV A m F c p j = jI d')) 0 (k + 1) = (anyR (fun j => fiS A m F good tp ta tv (jI tk) 0 tk j && decide (ldV A m F c p j = jI d')) 0 k || decide (jI d = jI d')) := fun d' => by
          rw [anyR_snoc, Nat.zero_add, z, Bool.true_and, y]
        have start : ∀ {u : aO}, (if b01 (anyR (fun j => fiS A m F good tp ta tv (jI tk) 0 tk j && decide (ldV A m F c p j = jI d)) 0 k) = 0 then ((stN .boolean h1 (.ref 180) (jI d) 1).bind fun h95 => s_X14_nextsOf_28 f 104 (jI c) (jI p) (jI (g + 1)) (jI (k + 1)) h95) else s_X14_nextsOf_28 f 104 (jI c) (jI p) (jI g) (jI (k + 1)) h1) = u → s_X14_nextsOf_28 (f + 1) 104 (jI c) (jI p) (jI g) (jI k) h = u := by
          intro u hu
          show s_X14_nextsOf_28_b (s_X14_nextsOf_28 f) 104 (jI c) (jI p) (jI g) (jI k) h = _
          unfold s_X14_nextsOf_28_b
          rw [C.g23, Option.bind_some, if_neg (fun q => by have := (jI_le (by omega) (by omega)).mp q; omega), g59, Option.bind_some, Option.bind_some, C.kO, e1', z]
          simp only [cI]
          rw [if_neg (show ¬ b01 true = 0 by decide), C1.kO, e2]
          simp only []
          rw [if_neg (jI_m2 (by omega)), g65, Option.bind_some, l180, Option.bind_some, Option.bind_some, jI_inc, jI_inc]
          exact hu
        cases w : anyR (fun j => fiS A m F good tp ta tv (jI tk) 0 tk j && decide (ldV A m F c p j = jI d)) 0 k with
        | false =>
          obtain ⟨h2, e3, X3, O3⟩ := C1.1.stN (a := 180) (j := d) rfl (show d < 400 by omega) 1
          rw [show vp_nar (ryR 180) 1 = 1 from bool_nar.2] at X3
          have e3' : stN .boolean h1 (.ref 180) (jI d) 1 = some h2 := e3
          obtain ⟨h', V', r1, r2⟩ := cont (g + 1) h2 _ (by rw [ed, w]; rfl) (C1.to X3 O3) (O1.trans O3) ((M1.mono (by decide)).upd (by decide)) (fun d' hd' => by
            rw [upd2_eq, snoc]
            by_cases u : d' = d
            · rw [u, upd_eq, decide_eq_true rfl, Bool.or_true]
              rfl
            · rw [upd_ne u, M1 180 (by decide), hT d' hd', decide_eq_false (fun v => u ((jI_inj (by omega) (by omega)).mp v).symm), Bool.or_false])
          refine ⟨h', V', start ?_, r2⟩
          rw [w, if_pos b01_f, e3', Option.bind_some]
          exact r1
        | true =>
          obtain ⟨h', V', r1, r2⟩ := cont g h1 V1 (by rw [ed, w]; rfl) C1 O1 (M1.mono (by decide)) (fun d' hd' => by
            rw [M1 180 (by decide), hT d' hd', snoc]
            by_cases u : d' = d
            · rw [u, w, Bool.true_or]
            · rw [decide_eq_false (fun v => u ((jI_inj (by omega) (by omega)).mp v).symm), Bool.or_false])
          refine ⟨h', V', start ?_, r2⟩
          rw [w, if_neg (show ¬ b01 true = 0 by decide)]
          exact r1
theorem pr51_go {tk c : Nat} {al : Int32} (htk : tk ≤ 30) (hS : S 59 = jI tk) (hpq : ∀ e, 1 ≤ e → e ≤ tk → ∃ q, tp e = jI q ∧ q < F 13) (hc : c < F 12) (hno : ∀ p, p < F 13 → bitI al p = true → ∀ x, x < F 14 → ldV A m F c p x ≠ -2) : ∀ (n p f : Nat) (ch mo : Int32) (h : aH) (V : Nat → Nat → Int32), p + n = F 13 → n < f → RC h S wd t fv nv V Z A m F B W G → okLd V A m F → okTr V ta tv → gdR V (F 12) good → (∀ e, 1 ≤ e → e ≤ tk → V 175 e = tp e) →
    ∃ h' V', s_X14_probe_51 f 104 (jI c) al ch mo (jI p) h = some (.inl (some (.int (tlG (bitI al) (fun p => cntB (dlB (fiS A m F good tp ta tv (jI tk) 0 tk) (ldV A m F c p)) (F 15)) p n ch mo))), h') ∧ RC h' (twS S 0) wd t fv nv V' Z A m F B W G ∧ Ou h h' ∧ Sm [148, 149, 178, 179, 180] V V'
  | _, _, 0, _, _, _, _, _, hf, _, _, _, _, _ => by omega
  | 0, p, f + 1, ch, mo, h, V, hn, hf, C, L, Tr, hg, h175 => by
    have h9 := C.2.2.2.2.2.1.2.2.2.2.2.1
    obtain ⟨h', e, C', O'⟩ := C.done ch
    refine ⟨h', V, ?_, C', O', Sm.refl⟩
    show s_X14_probe_51_b (s_X14_probe_51 f) 104 (jI c) al ch mo (jI p) h = _
    unfold s_X14_probe_51_b
    rw [C.g21, Option.bind_some, if_pos ((jI_le (by omega) (by omega)).mpr (by omega)), C.kO, e]
    rfl
  | n + 1, p, f + 1, ch, mo, h, V, hn, hf, C, L, Tr, hg, h175 => by
    have hC := C.2.2.2.2.2.1
    have h9 := hC.2.2.2.2.2.1
    have h400 := hC.2.2.2.2.1
    have pos := hC.pos
    have tl : tlG (bitI al) (fun p => cntB (dlB (fiS A m F good tp ta tv (jI tk) 0 tk) (ldV A m F c p)) (F 15)) p (n + 1) ch mo = if bitI al p then (if mo < jI (cntB (dlB (fiS A m F good tp ta tv (jI tk) 0 tk) (ldV A m F c p)) (F 15)) then tlG (bitI al) (fun p => cntB (dlB (fiS A m F good tp ta tv (jI tk) 0 tk) (ldV A m F c p)) (F 15)) (p + 1) n (jI p) (jI (cntB (dlB (fiS A m F good tp ta tv (jI tk) 0 tk) (ldV A m F c p)) (F 15))) else tlG (bitI al) (fun p => cntB (dlB (fiS A m F good tp ta tv (jI tk) 0 tk) (ldV A m F c p)) (F 15)) (p + 1) n ch mo) else tlG (bitI al) (fun p => cntB (dlB (fiS A m F good tp ta tv (jI tk) 0 tk) (ldV A m F c p)) (F 15)) (p + 1) n ch mo := rfl
    rw [tl]
    cases z : bitI al p with
    | false =>
      obtain ⟨h', V', ih, r⟩ := pr51_go htk hS hpq hc hno n (p + 1) f ch mo h V (by omega) (by omega) C L Tr hg h175
      refine ⟨h', V', ?_, r⟩
      rw [if_neg (show ¬ (false = true) by decide)]
      refine Eq.trans ?_ ih
      show s_X14_probe_51_b (s_X14_probe_51 f) 104 (jI c) al ch mo (jI p) h = _
      unfold s_X14_probe_51_b
      rw [C.g21, Option.bind_some, if_neg (fun q => by have := (jI_le (by omega) (by omega)).mp q; omega), if_pos ((bitI_test (by omega)).mpr z), jI_inc]
    | true =>
      obtain ⟨h1, V1, e1, C1, O1, M1, a1⟩ := ne2_go (a1 := jI c) (a2 := jI p) (F 12) 0 FU h V (by omega) (by unfold FU; omega) C (fun d hd => by omega)
      obtain ⟨h2, V2, e2, C2, O2, M2⟩ := ne28_go (good := good) (ta := ta) (tv := tv) htk hS hpq hc (show p < F 13 by omega) (hno p (by omega) z) (F 15) 0 FU 0 h1 V1 (by omega) (by unfold FU; omega) (by omega) C1 (L.sm (M1 151 (by decide))) (Tr.sm (M1 177 (by decide)) (M1 176 (by decide))) (fun d hd => by rw [M1 146 (by decide)]; exact hg d hd) (fun e x1 x2 => by rw [M1 175 (by decide)]; exact h175 e x1 x2) a1
      have e0 : (0 : Nat) + cntR (dlB (fiS A m F good tp ta tv (jI tk) 0 tk) (ldV A m F c p)) 0 (F 15) = cntB (dlB (fiS A m F good tp ta tv (jI tk) 0 tk) (ldV A m F c p)) (F 15) := by
        have := cntR_B (dlB (fiS A m F good tp ta tv (jI tk) 0 tk) (ldV A m F c p)) (F 15) 0
        rw [Nat.zero_add] at this
        exact this
      rw [e0] at e2
      have en : s_X14_nextsOf 104 (jI c) (jI p) h = some (.inl (some (.int (jI (cntB (dlB (fiS A m F good tp ta tv (jI tk) 0 tk) (ldV A m F c p)) (F 15))))), h2) := by
        have e1' : s_X14_nextsOf_2 FU 104 (jI c) (jI p) 0 h = _ := e1
        have e2' : s_X14_nextsOf_28 FU 104 (jI c) (jI p) 0 0 h1 = _ := e2
        unfold s_X14_nextsOf
        rw [e1', e2']
      have M12 : Sm [148, 149, 178, 179, 180] V V2 := (M1.mono (by decide)).trans M2
      obtain ⟨w, hw⟩ : ∃ w, w = cntB (dlB (fiS A m F good tp ta tv (jI tk) 0 tk) (ldV A m F c p)) (F 15) := ⟨_, rfl⟩
      rw [if_pos rfl, ← hw]
      rw [← hw] at en
      have ihf := fun ch mo => pr51_go htk hS hpq hc hno n (p + 1) f ch mo h2 V2 (by omega) (by omega) C2 (L.sm (M12 151 (by decide))) (Tr.sm (M12 177 (by decide)) (M12 176 (by decide))) (fun d hd => by rw [M12 146 (by decide)]; exact hg d hd) (fun e x1 x2 => by rw [M12 175 (by decide)]; exact h175 e x1 x2)
      have start : ∀ {u : aO}, (if mo < jI w then s_X14_probe_51 f 104 (jI c) al (jI p) (jI w) (jI (p + 1)) h2 else s_X14_probe_51 f 104 (jI c) al ch mo (jI (p + 1)) h2) = u → s_X14_probe_51 (f + 1) 104 (jI c) al ch mo (jI p) h = u := by
        intro u hu
        show s_X14_probe_51_b (s_X14_probe_51 f) 104 (jI c) al ch mo (jI p) h = _
        unfold s_X14_probe_51_b
        rw [C.g21, Option.bind_some, if_neg (fun q => by have := (jI_le (by omega) (by omega)).mp q; omega), if_neg (fun u => by rw [bitI_test (by omega), z] at u; cases u), C.kO, en]
        simp only [cI, jI_inc]
        exact hu
      by_cases v : mo < jI w
      · obtain ⟨h', V', ih, i1, i2, i3⟩ := ihf (jI p) (jI w)
        refine ⟨h', V', start ?_, i1, (O1.trans O2).trans i2, M12.trans i3⟩
        rw [if_pos v, if_pos v]
        exact ih
      · obtain ⟨h', V', ih, i1, i2, i3⟩ := ihf ch mo
        refine ⟨h', V', start ?_, i1, (O1.trans O2).trans i2, M12.trans i3⟩
        rw [if_neg v, if_neg v]
        exact ih
theorem fo7_go : ∀ (n k f : Nat) (h : aH) (V : Nat → Nat → Int32), k + n = 62 → n < f → RC h S wd t fv nv V Z A m F B W G → (∀ j, j < k → V 177 j = -1) →
    ∃ h' V', s_X14_forgets_7 f 104 (jI k) h = some (.inl none, h') ∧ RC h' S wd t fv nv V' Z A m F B W G ∧ Ou h h' ∧ Sm [177] V V' ∧ ∀ j, j < 62 → V' 177 j = -1
  | _, _, 0, _, _, _, hf, _, _ => by omega
  | 0, k, f + 1, h, V, hn, hf, C, h2 => by
    refine ⟨h, V, ?_, C, Ou.refl, Sm.refl, fun d hd => h2 d (by omega)⟩
    show s_X14_forgets_7_b (s_X14_forgets_7 f) 104 (jI k) h = _
    unfold s_X14_forgets_7_b
    rw [show (62 : Int32) = jI 62 from rfl, if_pos ((jI_le (by omega) (by omega)).mpr (by omega))]
  | n + 1, k, f + 1, h, V, hn, hf, C, h2 => by
    have g62 : gO h (.ref 104) 14 62 = some 177 := gO_of (ltE (by decide)) C.1.1 rfl
    obtain ⟨h3, e3, X3, O3⟩ := C.1.st (a := 177) (j := k) rfl rfl (show k < 62 by omega) (-1)
    obtain ⟨h', V', ih, i1, i2, i3, i4⟩ := fo7_go n (k + 1) f h3 _ (by omega) (by omega) (C.to X3 O3) (fun d hd => by
      rw [upd2_eq]
      by_cases u : d = k
      · rw [u, upd_eq]
      · rw [upd_ne u]; exact h2 d (by omega))
    refine ⟨h', V', ?_, i1, O3.trans i2, (Sm.refl.upd (by decide)).trans i3, i4⟩
    show s_X14_forgets_7_b (s_X14_forgets_7 f) 104 (jI k) h = _
    unfold s_X14_forgets_7_b
    rw [show (62 : Int32) = jI 62 from rfl, if_neg (fun q => by have := (jI_le (by omega) (by omega)).mp q; omega), g62, Option.bind_some, e3, Option.bind_some, jI_inc]
    exact ih
end
