/-! the reference gathers; guesses, fits, probes -/
theorem anyR_snoc {f : Nat → Bool} : ∀ (n w : Nat), anyR f w (n + 1) = (anyR f w n || f (w + n))
  | 0, w => by
    show (f w || false) = (false || f (w + 0))
    rw [Bool.or_false, Bool.false_or, Nat.add_zero]
  | n + 1, w => by
    show (f w || anyR f (w + 1) (n + 1)) = ((f w || anyR f (w + 1) n) || f (w + (n + 1)))
    rw [anyR_snoc n (w + 1), Bool.or_assoc, show w + 1 + n = w + (n + 1) by omega]
section
variable {S : Nat → Int32} {wd : Int64} {t : Nat} {fv nv : Value} {Z : Nat → Nat → Int64} {A : Nat → Nat → Int32} {m F : Nat → Nat} {B : Nat → Nat → Int32} {W : Nat → Int64} {G : Nat → Nat} {good : Nat → Bool} {tp ta tv : Nat → Int32} {bn fl tick : Nat}
theorem ga3_go {a1 a2 a3 : Int32} : ∀ (n c f : Nat) (h : aH) (V : Nat → Nat → Int32), c + n = F 12 → n < f → RC h S wd t fv nv V Z A m F B W G → (∀ d, d < c → V 180 d = 0) →
    ∃ h' V', s_X14_gathers_3 f 104 a1 a2 a3 (jI c) h = s_X14_gathers_29 FU 104 a1 a2 a3 0 h' ∧ RC h' S wd t fv nv V' Z A m F B W G ∧ Ou h h' ∧ Sm [180] V V' ∧ ∀ d, d < F 12 → V' 180 d = 0
  | _, _, 0, _, _, _, hf, _, _ => by omega
  | 0, c, f + 1, h, V, hn, hf, C, h2 => by
    have h400 := C.2.2.2.2.2.1.2.2.2.2.1
    refine ⟨h, V, ?_, C, Ou.refl, Sm.refl, fun d hd => h2 d (by omega)⟩
    show s_X14_gathers_3_b (s_X14_gathers_3 f) 104 a1 a2 a3 (jI c) h = _
    unfold s_X14_gathers_3_b
    rw [C.g20, Option.bind_some, if_pos ((jI_le (by omega) (by omega)).mpr (by omega))]
  | n + 1, c, f + 1, h, V, hn, hf, C, h2 => by
    have h400 := C.2.2.2.2.2.1.2.2.2.2.1
    have g65 : gO h (.ref 104) 14 65 = some 180 := gO_of (ltE (by decide)) C.1.1 rfl
    obtain ⟨h3, e3, X3, O3⟩ := C.1.stN (a := 180) (j := c) rfl (show c < 400 by omega) 0
    rw [show vp_nar (ryR 180) 0 = 0 from bool_nar.1] at X3
    have e3' : stN .boolean h (.ref 180) (jI c) 0 = some h3 := e3
    obtain ⟨h', V', ih, i1, i2, i3, i4⟩ := ga3_go (a1 := a1) (a2 := a2) (a3 := a3) n (c + 1) f h3 _ (by omega) (by omega) (C.to X3 O3) (fun d hd => by
      rw [upd2_eq]
      by_cases u : d = c
      · rw [u, upd_eq]
      · rw [upd_ne u]; exact h2 d (by omega))
    refine ⟨h', V', ?_, i1, O3.trans i2, (Sm.refl.upd (by decide)).trans i3, i4⟩
    show s_X14_gathers_3_b (s_X14_gathers_3 f) 104 a1 a2 a3 (jI c) h = _
    unfold s_X14_gathers_3_b
    rw [C.g20, Option.bind_some, if_neg (fun q => by have := (jI_le (by omega) (by omega)).mp q; omega), g65, Option.bind_some, e3', Option.bind_some, jI_inc]
    exact ih
theorem ga56_go {a1 a2 a3 : Int32} {k : Nat} {H : Nat → Bool} {k29 : Nat → Int32 → Int32 → Int32 → Int32 → aH → aO} : ∀ (n c f : Nat) (h : aH) (V : Nat → Nat → Int32) (T : Nat → Bool), c + n = F 12 → n < f → RC h S wd t fv nv V Z A m F B W G → (∀ d, d < F 12 → V 178 d = b01 (H d)) → (∀ d, d < F 12 → V 180 d = b01 (T d || (decide (d < c) && H d))) →
    ∃ h' V', s_X14_gathers_56 k29 f 104 a1 a2 a3 (jI k) (jI c) h = k29 104 a1 a2 a3 (jI (k + 1)) h' ∧ RC h' S wd t fv nv V' Z A m F B W G ∧ Ou h h' ∧ Sm [180] V V' ∧ ∀ d, d < F 12 → V' 180 d = b01 (T d || H d)
  | _, _, 0, _, _, _, _, hf, _, _, _ => by omega
  | 0, c, f + 1, h, V, T, hn, hf, C, h1, h2 => by
    have h400 := C.2.2.2.2.2.1.2.2.2.2.1
    refine ⟨h, V, ?_, C, Ou.refl, Sm.refl, fun d hd => by rw [h2 d hd, decide_eq_true (show d < c by omega), Bool.true_and]⟩
    show s_X14_gathers_56_b k29 (s_X14_gathers_56 k29 f) 104 a1 a2 a3 (jI k) (jI c) h = _
    unfold s_X14_gathers_56_b
    rw [C.g20, Option.bind_some, if_pos ((jI_le (by omega) (by omega)).mpr (by omega)), jI_inc]
  | n + 1, c, f + 1, h, V, T, hn, hf, C, h1, h2 => by
    have h400 := C.2.2.2.2.2.1.2.2.2.2.1
    have g65 : gO h (.ref 104) 14 65 = some 180 := gO_of (ltE (by decide)) C.1.1 rfl
    have g63 : gO h (.ref 104) 14 63 = some 178 := gO_of (ltE (by decide)) C.1.1 rfl
    have l178 : ldI .boolean h (.ref 178) (jI c) = some (b01 (H c)) := (h1 c (by omega)) ▸ C.1.ld (a := 178) rfl (show c < 400 by omega)
    have l180 : ldI .boolean h (.ref 180) (jI c) = some (b01 (T c)) := by
      have := C.1.ld (a := 180) (j := c) rfl (show c < 400 by omega)
      rw [h2 c (by omega), decide_eq_false (Nat.lt_irrefl c), Bool.false_and, Bool.or_false] at this
      exact this
    obtain ⟨h3, e3, X3, O3⟩ := C.1.stN (a := 180) (j := c) rfl (show c < 400 by omega) (b01 (T c || H c))
    rw [show vp_nar (ryR 180) (b01 (T c || H c)) = b01 (T c || H c) from b01_nar] at X3
    have e3' : stN .boolean h (.ref 180) (jI c) (b01 (T c || H c)) = some h3 := e3
    obtain ⟨h', V', ih, i1, i2, i3, i4⟩ := ga56_go (a1 := a1) (a2 := a2) (a3 := a3) (k := k) (k29 := k29) (H := H) n (c + 1) f h3 _ T (by omega) (by omega) (C.to X3 O3) (fun d hd => by rw [upd2_ne (by decide)]; exact h1 d hd) (fun d hd => by
      rw [upd2_eq]
      by_cases u : d = c
      · rw [u, upd_eq, decide_eq_true (show c < c + 1 by omega), Bool.true_and]
      · rw [upd_ne u, h2 d hd, show decide (d < c + 1) = decide (d < c) from decide_eq_decide.mpr (by omega)])
    refine ⟨h', V', ?_, i1, O3.trans i2, (Sm.refl.upd (by decide)).trans i3, i4⟩
    show s_X14_gathers_56_b k29 (s_X14_gathers_56 k29 f) 104 a1 a2 a3 (jI k) (jI c) h = _
    unfold s_X14_gathers_56_b s_X14_gathers_91 s_X14_gathers_96
    rw [C.g20, Option.bind_some, if_neg (fun q => by have := (jI_le (by omega) (by omega)).mp q; omega), g65, Option.bind_some, Option.bind_some, l180, Option.bind_some, g63, Option.bind_some, l178, Option.bind_some, jI_inc]
    refine Eq.trans ?_ ih
    cases z : T c with
    | false =>
      rw [if_pos b01_f]
      rw [z, Bool.false_or] at e3'
      cases y : H c with
      | false =>
        rw [y] at e3'
        have e3'' : stN .boolean h (.ref 180) (jI c) 0 = some h3 := e3'
        rw [if_pos b01_f, e3'', Option.bind_some]
      | true =>
        rw [y] at e3'
        have e3'' : stN .boolean h (.ref 180) (jI c) 1 = some h3 := e3'
        rw [if_neg (show ¬ b01 true = 0 by decide), e3'', Option.bind_some]
    | true =>
      rw [z, Bool.true_or] at e3'
      have e3'' : stN .boolean h (.ref 180) (jI c) 1 = some h3 := e3'
      rw [if_neg (show ¬ b01 true = 0 by decide), e3'', Option.bind_some]
theorem ga115_go {h : aH} {V : Nat → Nat → Int32} (C : RC h S wd t fv nv V Z A m F B W G) {T : Nat → Bool} (hT : ∀ d, d < F 12 → V 180 d = b01 (T d)) : ∀ (n c f g : Nat), c + n = F 12 → n < f → g + n < 1000000 → s_X14_gathers_115 f 104 (jI g) (jI c) h = some (.inl (some (.int (jI (g + cntR T c n)))), h)
  | _, _, 0, _, _, hf, _ => by omega
  | 0, c, f + 1, g, hn, hf, hg => by
    have h400 := C.2.2.2.2.2.1.2.2.2.2.1
    show s_X14_gathers_115_b (s_X14_gathers_115 f) 104 (jI g) (jI c) h = _
    unfold s_X14_gathers_115_b
    rw [C.g20, Option.bind_some, if_pos ((jI_le (by omega) (by omega)).mpr (by omega))]
    rfl
  | n + 1, c, f + 1, g, hn, hf, hg => by
    have h400 := C.2.2.2.2.2.1.2.2.2.2.1
    have g65 : gO h (.ref 104) 14 65 = some 180 := gO_of (ltE (by decide)) C.1.1 rfl
    have l180 : ldI .boolean h (.ref 180) (jI c) = some (b01 (T c)) := (hT c (by omega)) ▸ C.1.ld (a := 180) rfl (show c < 400 by omega)
    have ih := fun g hg => ga115_go C hT n (c + 1) f g (by omega) (by omega) hg
    show s_X14_gathers_115_b (s_X14_gathers_115 f) 104 (jI g) (jI c) h = some (.inl (some (.int (jI (g + ((if T c then 1 else 0) + cntR T (c + 1) n))))), h)
    unfold s_X14_gathers_115_b s_X14_gathers_141
    rw [C.g20, Option.bind_some, if_neg (fun q => by have := (jI_le (by omega) (by omega)).mp q; omega), g65, Option.bind_some, l180, Option.bind_some, jI_inc, jI_inc, ← Nat.add_assoc]
    cases z : T c with
    | false =>
      rw [if_pos b01_f, Int32.add_zero]
      exact ih g (by omega)
    | true =>
      rw [if_neg (show ¬ b01 true = 0 by decide)]
      exact ih (g + 1) (by omega)
theorem ga29_go (htk : tick ≤ 30) (hfl : fl ≤ 100) (hpq : ∀ e, 1 ≤ e → e ≤ tick → ∃ q, tp e = jI q ∧ q < F 13) : ∀ (n k f : Nat) (h : aH) (V : Nat → Nat → Int32), k + n = F 15 → n < f → RC h S wd t fv nv V Z A m F B W G → okTr V ta tv → gdR V (F 12) good → (∀ e, 1 ≤ e → e ≤ tick → V 175 e = tp e) → (∀ d, d < F 12 → V 180 d = b01 (anyR (fun q => wS A m F good tp ta tv (jI bn) fl q tick d) 0 k)) →
    ∃ h' V', s_X14_gathers_29 f 104 (jI tick) (jI bn) (jI fl) (jI k) h = some (.inl (some (.int (jI (cntB (caS A m F good tp ta tv (jI bn) fl tick) (F 12))))), h') ∧ RC h' S wd t fv nv V' Z A m F B W G ∧ Ou h h' ∧ Sm [148, 149, 178, 179, 180] V V' ∧ ∀ d, d < F 12 → V' 180 d = b01 (caS A m F good tp ta tv (jI bn) fl tick d)
  | _, _, 0, _, _, _, hf, _, _, _, _, _ => by omega
  | 0, k, f + 1, h, V, hn, hf, C, Tr, hg, h175, hT => by
    have hC := C.2.2.2.2.2.1
    have h400 := hC.2.2.2.2.1
    have pos := hC.pos
    have hk : k = F 15 := by omega
    rw [hk] at hT
    have e0 : (0 : Nat) + cntR (caS A m F good tp ta tv (jI bn) fl tick) 0 (F 12) = cntB (caS A m F good tp ta tv (jI bn) fl tick) (F 12) := by
      have := cntR_B (caS A m F good tp ta tv (jI bn) fl tick) (F 12) 0
      rw [Nat.zero_add] at this
      exact this
    have e1 := ga115_go C (T := caS A m F good tp ta tv (jI bn) fl tick) hT (F 12) 0 FU 0 (by omega) (by unfold FU; omega) (by omega)
    rw [e0] at e1
    refine ⟨h, V, ?_, C, Ou.refl, Sm.refl, hT⟩
    show s_X14_gathers_29_b (s_X14_gathers_29 f) 104 (jI tick) (jI bn) (jI fl) (jI k) h = _
    unfold s_X14_gathers_29_b
    rw [C.g23, Option.bind_some, if_pos ((jI_le (by omega) (by omega)).mpr (by omega))]
    exact e1
  | n + 1, k, f + 1, h, V, hn, hf, C, Tr, hg, h175, hT => by
    have hC := C.2.2.2.2.2.1
    have h400 := hC.2.2.2.2.1
    have pos := hC.pos
    obtain ⟨h1, V1, e1, C1, O1, M1, a1⟩ := C.goes (tick := tick) (bn := bn) (fl := fl) (k := k) htk hfl (by omega) hpq Tr hg h175
    have cont : ∀ (h2 : aH) (V2 : Nat → Nat → Int32), RC h2 S wd t fv nv V2 Z A m F B W G → Ou h h2 → Sm [148, 149, 178, 179, 180] V V2 → (∀ d, d < F 12 → V2 180 d = b01 (anyR (fun q => wS A m F good tp ta tv (jI bn) fl q tick d) 0 (k + 1))) →
        ∃ h' V', s_X14_gathers_29 f 104 (jI tick) (jI bn) (jI fl) (jI (k + 1)) h2 = some (.inl (some (.int (jI (cntB (caS A m F good tp ta tv (jI bn) fl tick) (F 12))))), h') ∧ RC h' S wd t fv nv V' Z A m F B W G ∧ Ou h h' ∧ Sm [148, 149, 178, 179, 180] V V' ∧ ∀ d, d < F 12 → V' 180 d = b01 (caS A m F good tp ta tv (jI bn) fl tick d) := by
      intro h2 V2 C2 O2 M2 hT2
      obtain ⟨h', V', ih, i1, i2, i3, i4⟩ := ga29_go htk hfl hpq n (k + 1) f h2 V2 (by omega) (by omega) C2 (Tr.sm (M2 177 (by decide)) (M2 176 (by decide))) (fun d hd => by rw [M2 146 (by decide)]; exact hg d hd) (fun e x1 x2 => by rw [M2 175 (by decide)]; exact h175 e x1 x2) hT2
      exact ⟨h', V', ih, i1, O2.trans i2, M2.trans i3, i4⟩
    cases z : fiS A m F good tp ta tv (jI bn) fl tick k with
    | false =>
      obtain ⟨h', V', r1, r2⟩ := cont h1 V1 C1 O1 (M1.mono (by decide)) (fun d hd => by
        rw [M1 180 (by decide), hT d hd, anyR_snoc, Nat.zero_add]
        have : wS A m F good tp ta tv (jI bn) fl k tick d = false := by
          cases y : wS A m F good tp ta tv (jI bn) fl k tick d with
          | false => rfl
          | true =>
            have : fiS A m F good tp ta tv (jI bn) fl tick k = true := (anyR_iff _ _).mpr ⟨d, Nat.zero_le _, by omega, y⟩
            rw [z] at this
            cases this
        rw [this, Bool.or_false])
      refine ⟨h', V', ?_, r2⟩
      show s_X14_gathers_29_b (s_X14_gathers_29 f) 104 (jI tick) (jI bn) (jI fl) (jI k) h = _
      unfold s_X14_gathers_29_b
      rw [C.g23, Option.bind_some, if_neg (fun q => by have := (jI_le (by omega) (by omega)).mp q; omega), C.kO, e1, z]
      simp only [cI]
      rw [if_pos b01_f, jI_inc]
      exact r1
    | true =>
      obtain ⟨h2, V2, e2, C2, O2, M2, a2⟩ := ga56_go (a1 := jI tick) (a2 := jI bn) (a3 := jI fl) (k := k) (k29 := s_X14_gathers_29 f) (H := wS A m F good tp ta tv (jI bn) fl k tick) (F 12) 0 FU h1 V1 (fun d => anyR (fun q => wS A m F good tp ta tv (jI bn) fl q tick d) 0 k) (by omega) (by unfold FU; omega) C1 a1 (fun d hd => by rw [M1 180 (by decide), hT d hd, decide_eq_false (by omega), Bool.false_and, Bool.or_false])
      obtain ⟨h', V', r1, r2⟩ := cont h2 V2 C2 (O1.trans O2) ((M1.mono (by decide)).trans (M2.mono (by decide))) (fun d hd => by rw [a2 d hd, anyR_snoc, Nat.zero_add])
      refine ⟨h', V', ?_, r2⟩
      show s_X14_gathers_29_b (s_X14_gathers_29 f) 104 (jI tick) (jI bn) (jI fl) (jI k) h = _
      unfold s_X14_gathers_29_b
      have e2' : s_X14_gathers_56 (s_X14_gathers_29 f) FU 104 (jI tick) (jI bn) (jI fl) (jI k) 0 h1 = _ := e2
      rw [C.g23, Option.bind_some, if_neg (fun q => by have := (jI_le (by omega) (by omega)).mp q; omega), C.kO, e1, z]
      simp only [cI]
      rw [if_neg (show ¬ b01 true = 0 by decide), e2']
      exact r1
theorem RC.gathers (htk : tick ≤ 30) (hfl : fl ≤ 100) (hpq : ∀ e, 1 ≤ e → e ≤ tick → ∃ q, tp e = jI q ∧ q < F 13) {h : aH} {V : Nat → Nat → Int32} (C : RC h S wd t fv nv V Z A m F B W G) (Tr : okTr V ta tv) (hg : gdR V (F 12) good) (h175 : ∀ e, 1 ≤ e → e ≤ tick → V 175 e = tp e) :
    ∃ h' V', s_X14_gathers 104 (jI tick) (jI bn) (jI fl) h = some (.inl (some (.int (jI (cntB (caS A m F good tp ta tv (jI bn) fl tick) (F 12))))), h') ∧ RC h' S wd t fv nv V' Z A m F B W G ∧ Ou h h' ∧ Sm [148, 149, 178, 179, 180] V V' ∧ ∀ d, d < F 12 → V' 180 d = b01 (caS A m F good tp ta tv (jI bn) fl tick d) := by
  have hC := C.2.2.2.2.2.1
  have h400 := hC.2.2.2.2.1
  have pos := hC.pos
  obtain ⟨h1, V1, e1, C1, O1, M1, a1⟩ := ga3_go (a1 := jI tick) (a2 := jI bn) (a3 := jI fl) (F 12) 0 FU h V (by omega) (by unfold FU; omega) C (fun d hd => by omega)
  obtain ⟨h2, V2, e2, C2, O2, M2, a2⟩ := ga29_go (bn := bn) (good := good) (tp := tp) (ta := ta) (tv := tv) htk hfl hpq (F 15) 0 FU h1 V1 (by omega) (by unfold FU; omega) C1 (Tr.sm (M1 177 (by decide)) (M1 176 (by decide))) (fun d hd => by rw [M1 146 (by decide)]; exact hg d hd) (fun e x1 x2 => by rw [M1 175 (by decide)]; exact h175 e x1 x2) a1
  refine ⟨h2, V2, ?_, C2, O1.trans O2, (M1.mono (by decide)).trans M2, a2⟩
  have e1' : s_X14_gathers_3 FU 104 (jI tick) (jI bn) (jI fl) 0 h = _ := e1
  have e2' : s_X14_gathers_29 FU 104 (jI tick) (jI bn) (jI fl) 0 h1 = _ := e2
  unfold s_X14_gathers
  rw [e1', e2']
end
/-- guesses: from the end of the span -/
def gsG (T : Nat → Bool) (f : Nat → Int32) (mo : Bool) : Nat → Nat → Int32 → Int32
  | _, 0, a => a
  | c, n + 1, a => if T c then gsG T f mo (c + 1) n (if mo then jmax a (f c) else jmin a (f c)) else gsG T f mo (c + 1) n a
theorem gs_bd {T : Nat → Bool} {f : Nat → Int32} {mo : Bool} (hf : ∀ c, f c ≠ -2147483648) : ∀ (n c : Nat) (a : Int32), a ≠ -2147483648 → bdG T f mo c n a = gsG T f mo c n a
  | 0, _, _, _ => rfl
  | n + 1, c, a, ha => by
    show (if T c then (if a = -2147483648 then bdG T f mo (c + 1) n (f c) else if (if mo then decide (a < f c) else decide (f c < a)) then bdG T f mo (c + 1) n (f c) else bdG T f mo (c + 1) n a) else bdG T f mo (c + 1) n a) = (if T c then gsG T f mo (c + 1) n (if mo then jmax a (f c) else jmin a (f c)) else gsG T f mo (c + 1) n a)
    rw [if_neg ha, gs_bd hf n (c + 1) (f c) (hf c), gs_bd hf n (c + 1) a ha]
    cases T c with
    | false => rfl
    | true =>
      rw [if_pos rfl, if_pos rfl]
      cases mo with
      | true =>
        simp only [if_true, decide_eq_true_eq]
        unfold jmax
        by_cases w : a < f c
        · rw [if_pos w, if_pos w]
        · rw [if_neg w, if_neg w]
      | false =>
        simp only [Bool.false_eq_true, if_false, decide_eq_true_eq]
        unfold jmin
        by_cases w : f c < a
        · rw [if_pos w, if_pos w]
        · rw [if_neg w, if_neg w]
theorem bd_first {T : Nat → Bool} {f : Nat → Int32} {mo : Bool} {e : Int32} (hf : ∀ c, f c ≠ -2147483648) (he : ∀ c, if mo then e ≤ f c else f c ≤ e) : ∀ (n c : Nat), bdG T f mo c n (-2147483648) = if anyR T c n then gsG T f mo c n e else -2147483648
  | 0, _ => rfl
  | n + 1, c => by
    show (if T c then (if (-2147483648 : Int32) = -2147483648 then bdG T f mo (c + 1) n (f c) else _) else bdG T f mo (c + 1) n (-2147483648)) = if (T c || anyR T (c + 1) n) then (if T c then gsG T f mo (c + 1) n (if mo then jmax e (f c) else jmin e (f c)) else gsG T f mo (c + 1) n e) else -2147483648
    cases T c with
    | false =>
      rw [Bool.false_or, if_neg (show ¬ (false = true) by decide), if_neg (show ¬ (false = true) by decide)]
      exact bd_first hf he n (c + 1)
    | true =>
      rw [if_pos rfl, if_pos rfl, Bool.true_or, if_pos rfl, if_pos rfl, gs_bd hf n (c + 1) (f c) (hf c)]
      have h := he c
      cases mo with
      | true =>
        rw [if_pos rfl] at h ⊢
        congr 1
        unfold jmax
        by_cases w : e < f c
        · rw [if_pos w]
        · rw [if_neg w]
          exact Int32.le_antisymm (i32_nlt.mp w) h
      | false =>
        rw [if_neg (by decide)] at h ⊢
        congr 1
        unfold jmin
        by_cases w : f c < e
        · rw [if_pos w]
        · rw [if_neg w]
          exact Int32.le_antisymm h (i32_nlt.mp w)
