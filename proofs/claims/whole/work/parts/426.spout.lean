/-! the reference's spreadsOut -/
theorem bit_orb13 {R : Nat → Int32} {e e' d d' : Nat} (hd : d < 416) (hd' : d' < 416) : bit (orb R (13 * e) d) (13 * e') d' = true ↔ bit R (13 * e') d' = true ∨ (e' = e ∧ d' = d) := by
  by_cases q : e' = e
  · subst q
    rw [bit_orb, Bool.or_eq_true, decide_eq_true_eq]
    exact ⟨fun z => z.elim Or.inl (fun z => Or.inr ⟨rfl, z⟩), fun z => z.elim Or.inl (fun z => Or.inr z.2)⟩
  · have : orb R (13 * e) d (13 * e' + d' / 32) = R (13 * e' + d' / 32) := orb_out (by omega)
    unfold bit
    rw [this]
    exact ⟨Or.inl, fun z => z.elim id (fun z => absurd z.1 q)⟩
theorem bool_nar : vp_nar .boolean 0 = 0 ∧ vp_nar .boolean 1 = 1 := by decide +kernel
section
variable {S : Nat → Int32} {wd : Int64} {t : Nat} {fv nv : Value} {Z : Nat → Nat → Int64} {A : Nat → Nat → Int32} {m F : Nat → Nat} {B : Nat → Nat → Int32} {W : Nat → Int64} {G : Nat → Nat}
theorem wide_at {h : aH} {V : Nat → Nat → Int32} (C : RC h S wd t fv nv V Z A m F B W G) {w c p x : Nat} (hw : w ≤ 2) (hc : c < F 12) (hp : p < F 13) (hx : x < nWd A m F w) :
    ∃ h1 h2 h3 h4 h5 h6 V6, s_X14_lays 104 (jI c) h = some (.inl none, h1) ∧ s_X14_pushed 104 (jI p) h1 = some (.inl none, h2) ∧ s_X14_spreads 104 3 (jI (x % F 15)) h2 = some (.inl (some (.int (lft A 7 (m 3) (jI (x % F 15))))), h3) ∧
      ldI .int h3 (.ref (t + 2)) 5 = some (B 2 5) ∧ stI h3 (.ref 148) 5 ((B 2 5 - jI w) + jI (x / F 15 / twoN A m w)) = some h4 ∧ ldI .int h4 (.ref (t + 2)) 6 = some (B 2 6) ∧ stI h4 (.ref 148) 6 ((B 2 6 - jI w) + jI (x / F 15 % twoN A m w)) = some h5 ∧
      s_X14_nextHere 104 h5 = some (.inl (some (.int (ldW A m F w c p x))), h6) ∧ (∀ V', RC h1 S wd t fv nv V' Z A m F B W G → True) ∧
      (∃ V1, RC h1 S wd t fv nv V1 Z A m F B W G) ∧ (∃ V1, RC h2 S wd t fv nv V1 Z A m F B W G) ∧ (∃ V1, RC h3 S wd t fv nv V1 Z A m F B W G) ∧ (∃ V1, RC h4 S wd t fv nv V1 Z A m F B W G) ∧ (∃ V1, RC h5 S wd t fv nv V1 Z A m F B W G) ∧
      RC h6 S wd t fv nv V6 Z A m F B W G ∧ Ou h h6 ∧ Sm [148, 149] V V6 := by
  obtain ⟨X, -, -, sim, K, hC, s20, s21, s22, s23⟩ := id C
  have hpos := hC.pos
  have h400 := hC.2.2.2.2.1
  have h9 := hC.2.2.2.2.2.1
  have hm2 := K.1.1.2.2.1
  obtain ⟨h1, e1, C1, O1⟩ := C.lays (jI c)
  obtain ⟨h2, e2, C2, O2⟩ := C1.pushed (jI p)
  obtain ⟨h3, e3, C3, O3⟩ := C2.spreads (k := 3) (by decide) (jI (x % F 15))
  have b3 : baseN 3 = 7 := rfl
  simp only [upd2_2, upd2_eq, b3] at C3
  have l5 : ldI .int h3 (.ref (t + 2)) 5 = some (B 2 5) := C3.2.1.ld (k := 2) (j := 5) (by decide) (by decide) (by decide) (by decide)
  obtain ⟨h4, e4, X4, O4⟩ := C3.1.st (a := 148) (j := 5) rfl rfl (by decide) ((B 2 5 - jI w) + jI (x / F 15 / twoN A m w))
  have C4 := C3.to X4 O4
  have l6 : ldI .int h4 (.ref (t + 2)) 6 = some (B 2 6) := C4.2.1.ld (k := 2) (j := 6) (by decide) (by decide) (by decide) (by decide)
  obtain ⟨h5, e5, X5, O5⟩ := C4.1.st (a := 148) (j := 6) rfl rfl (by decide) ((B 2 6 - jI w) + jI (x / F 15 % twoN A m w))
  have C5 := C4.to X5 O5
  simp only [upd2_2, upd2_eq] at C5
  have hot := oneTwo (A := A) K.1.1 w
  have hwl := wide_le (A := A) K.1.1 K.2.2.1 hw
  have hnle : oneN A m w * twoN A m w ≤ 45 * 45 := Nat.mul_le_mul hwl.1 hwl.2
  have hx2 : x / F 15 < oneN A m w * twoN A m w := by
    rw [hot]
    exact Nat.div_lt_of_lt_mul (by rw [Nat.mul_comm]; exact hx)
  have hxs : x < 2147483648 := by
    have h1 : nWd A m F w ≤ (45 * 45) * 27 := by
      unfold nWd
      rw [← hot]
      exact Nat.mul_le_mul hnle hpos.2.2.2.2
    omega
  have ag := wide_agree (A := A) (m := m) K.1.1 (P := F 15) (w := w) (x := x) hpos.2.2.1 (by omega) hxs hx2 (jI c) (jI p) (B 2 5) (B 2 6) (fun q => (sim.2.1 5 (Or.inr (Or.inr (Or.inl ⟨by omega, by omega⟩)))).1) (fun q => (sim.2.1 6 (Or.inr (Or.inr (Or.inl ⟨by omega, by omega⟩)))).1) (V 148) zV
  have svs := spX_sm (A := A) (m := m) K.1.1 K.2.2.1 (P := F 15) (w := w) (c := c) (p := p) (x := x) hw hpos.2.2.1 (by omega) (by omega) (by omega) hxs zV
  obtain ⟨h6, p6, e6, C6, O6⟩ := C5.nextHere (by
    rw [upd2_eq]
    intro s hs
    rw [ag s hs]
    exact svs s hs)
  rw [upd2_eq, leadV_congr ag K.2.1] at e6
  refine ⟨h1, h2, h3, h4, h5, h6, _, e1, e2, e3, l5, e4, l6, e5, e6, fun _ _ => trivial, ⟨_, C1⟩, ⟨_, C2⟩, ⟨_, C3⟩, ⟨_, C4⟩, ⟨_, C5⟩, C6, ((((O1.trans O2).trans O3).trans O4).trans O5).trans O6, ?_⟩
  exact (Sm.refl.upd (by decide)).upd (by decide)
theorem spo126_go {k84 : Nat → Int32 → Int32 → Int32 → Int32 → aH → aO} {k96 : Nat → Int32 → Int32 → Int32 → Int32 → Int32 → aH → aO} {w c p : Nat} (hw : w ≤ 2) (hc : c < F 12) (hp : p < F 13) :
    ∀ (n x f : Nat) (h : aH) (V : Nat → Nat → Int32), x + n = nWd A m F w → n < f → RC h S wd t fv nv V Z A m F B W G →
      ∃ h' V', s_X14_spreadsOut_126 k84 k96 f 104 (jI w) (jI (oneN A m w)) (jI (twoN A m w)) (jI c) (jI p) (jI (c * 9 + p)) (jI x) h = k96 104 (jI w) (jI (oneN A m w)) (jI (twoN A m w)) (jI c) (jI (p + 1)) h' ∧ RC h' S wd t fv nv V' Z A m F B W G ∧ Ou h h' ∧ Sm [148, 149, 152, 161] V V' ∧
        (V' 161 (c * 9 + p) = 0 ↔ V 161 (c * 9 + p) = 0 ∧ ∀ y, x ≤ y → y < nWd A m F w → ldW A m F w c p y ≠ -2) ∧ (∀ i, i ≠ c * 9 + p → V' 161 i = V 161 i) ∧
        ∀ e d, d < 416 → (bit (V' 152) (13 * e) d = true ↔ bit (V 152) (13 * e) d = true ∨ (e = c * 9 + p ∧ ∃ y, x ≤ y ∧ y < nWd A m F w ∧ ldW A m F w c p y = jI d))
  | _, _, 0, _, _, _, hf, _ => by omega
  | 0, x, f + 1, h, V, hi, hf, C => by
    refine ⟨h, V, ?_, C, Ou.refl, Sm.refl, ⟨fun z => ⟨z, fun y h1 h2 => by omega⟩, fun z => z.1⟩, fun _ _ => rfl, fun e d hd => ⟨Or.inl, fun z => z.elim id (fun ⟨_, y, h1, h2, _⟩ => by omega)⟩⟩
    obtain ⟨X, -, -, sim, K, hC, s20, s21, s22, s23⟩ := id C
    have hot := oneTwo (A := A) K.1.1 w
    have hwl := wide_le (A := A) K.1.1 K.2.2.1 hw
    have hnle : oneN A m w * twoN A m w * F 15 ≤ (45 * 45) * 27 := Nat.mul_le_mul (Nat.mul_le_mul hwl.1 hwl.2) hC.pos.2.2.2.2
    have hxe : x = oneN A m w * twoN A m w * F 15 := by rw [hot]; exact (show x = nWd A m F w by omega)
    show s_X14_spreadsOut_126_b k84 k96 (s_X14_spreadsOut_126 k84 k96 f) 104 (jI w) (jI (oneN A m w)) (jI (twoN A m w)) (jI c) (jI p) (jI (c * 9 + p)) (jI x) h = _
    unfold s_X14_spreadsOut_126_b
    have g : gI h (.ref 104) 14 23 = some (jI (F 15)) := s23 ▸ gI_of (ltE (by decide)) X.1 rfl
    rw [g, Option.bind_some, jI_mul, jI_mul, if_pos ((jI_le (by omega) (by omega)).mpr (by omega)), jI_inc]
  | n + 1, x, f + 1, h, V, hi, hf, C => by
    obtain ⟨X, -, -, sim, K, hC, s20, s21, s22, s23⟩ := id C
    have hpos := hC.pos
    have h400 := hC.2.2.2.2.1
    have h9 := hC.2.2.2.2.2.1
    have hot := oneTwo (A := A) K.1.1 w
    have hwl := wide_le (A := A) K.1.1 K.2.2.1 hw
    have hnle : oneN A m w * twoN A m w * F 15 ≤ (45 * 45) * 27 := Nat.mul_le_mul (Nat.mul_le_mul hwl.1 hwl.2) hC.pos.2.2.2.2
    have hne : nWd A m F w = oneN A m w * twoN A m w * F 15 := by rw [hot]; rfl
    have g : gI h (.ref 104) 14 23 = some (jI (F 15)) := s23 ▸ gI_of (ltE (by decide)) X.1 rfl
    have tp := (twoN_pos A m w).1
    have hxs : x < 2147483648 := by omega
    have hdx : x / F 15 ≤ x := Nat.div_le_self _ _
    obtain ⟨h1, h2, h3, h4, h5, h6, V6, e1, e2, e3, l5, e4, l6, e5, e6, -, ⟨V1, C1⟩, ⟨V2, C2⟩, ⟨V3, C3⟩, ⟨V4, C4⟩, ⟨V5, C5⟩, C6, O6, M6⟩ := wide_at C hw hc hp (show x < nWd A m F w by omega)
    have z15 : jI (F 15) ≠ 0 := fun z => by have := (jI_inj (k := 0) (by omega) (by omega)).mp z; omega
    have ztw : jI (twoN A m w) ≠ 0 := fun z => by have := (jI_inj (k := 0) (by omega) (by omega)).mp z; omega
    have T3 := C3.2.1.1
    have T4 := C4.2.1.1
    have g2 : gI h2 (.ref 104) 14 23 = some (jI (F 15)) := s23 ▸ gI_of (ltE (by decide)) C2.1.1 rfl
    have g3 : gI h3 (.ref 104) 14 23 = some (jI (F 15)) := s23 ▸ gI_of (ltE (by decide)) C3.1.1 rfl
    have g4 : gI h4 (.ref 104) 14 23 = some (jI (F 15)) := s23 ▸ gI_of (ltE (by decide)) C4.1.1 rfl
    have o29 : gO h3 (.ref 104) 14 29 = some 148 := gO_of (ltE (by decide)) C3.1.1 rfl
    have o29' : gO h4 (.ref 104) 14 29 = some 148 := gO_of (ltE (by decide)) C4.1.1 rfl
    have o4 : gO h3 (.ref 104) 14 4 = some t := gO_of (ltE (by decide)) C3.1.1 rfl
    have o4' : gO h4 (.ref 104) 14 4 = some t := gO_of (ltE (by decide)) C4.1.1 rfl
    have t1 : gO h3 (.ref t) 13 1 = some (t + 2) := gO_of (by omega) C3.2.1.2.1 rfl
    have t1' : gO h4 (.ref t) 13 1 = some (t + 2) := gO_of (by omega) C4.2.1.2.1 rfl
    have d2 : jI x / jI (F 15) = jI (x / F 15) := jI_div hxs hpos.2.2.1 (by omega)
    have d1 : jI x - jI (x / F 15) * jI (F 15) = jI (x % F 15) := by
      rw [← d2]
      exact jI_mod hxs hpos.2.2.1 (by omega)
    have d3 : jI (x / F 15) / jI (twoN A m w) = jI (x / F 15 / twoN A m w) := jI_div (by omega) tp (by omega)
    have d4 : jI (x / F 15) - jI (x / F 15 / twoN A m w) * jI (twoN A m w) = jI (x / F 15 % twoN A m w) := by
      rw [← d3]
      exact jI_mod (by omega) tp (by omega)
    have start : ∀ r : aO, (if ldW A m F w c p x = -2 then ((gO h6 (.ref 104) 14 43).bind fun x235 => (stN .boolean h6 (.ref x235) (jI (c * 9 + p)) 1).bind fun h241 => s_X14_spreadsOut_126 k84 k96 f 104 (jI w) (jI (oneN A m w)) (jI (twoN A m w)) (jI c) (jI p) (jI (c * 9 + p)) (jI (x + 1)) h241) else ((gO h6 (.ref 104) 14 34).bind fun x246 => cN (s_X14_puts x246 (13 * jI (c * 9 + p)) (ldW A m F w c p x) h6) fun h256 => s_X14_spreadsOut_126 k84 k96 f 104 (jI w) (jI (oneN A m w)) (jI (twoN A m w)) (jI c) (jI p) (jI (c * 9 + p)) (jI (x + 1)) h256)) = r →
        s_X14_spreadsOut_126 k84 k96 (f + 1) 104 (jI w) (jI (oneN A m w)) (jI (twoN A m w)) (jI c) (jI p) (jI (c * 9 + p)) (jI x) h = r := by
      intro r hr
      show s_X14_spreadsOut_126_b k84 k96 (s_X14_spreadsOut_126 k84 k96 f) 104 (jI w) (jI (oneN A m w)) (jI (twoN A m w)) (jI c) (jI p) (jI (c * 9 + p)) (jI x) h = _
      unfold s_X14_spreadsOut_126_b
      rw [g, Option.bind_some, jI_mul, jI_mul, if_neg (fun q => by have := (jI_le (by omega) (by omega)).mp q; omega)]
      simp only [C.kO, e1, cN, C1.kO, e2, g2, g3, g4, Option.bind_some, nz_of z15, nz_of ztw, C2.kO, d1, d2, d3, d4, e3, cI, o29, o29', o4, o4', t1, t1', l5, l6, e4, e5, C5.kO, e6, jI_inc]
      exact hr
    rcases ldW_is K hC w c p x with z | ⟨d, z, hd⟩
    · have g43 : gO h6 (.ref 104) 14 43 = some 161 := gO_of (ltE (by decide)) C6.1.1 rfl
      obtain ⟨h7, e7, X7, O7⟩ := C6.1.stN (a := 161) (j := c * 9 + p) rfl (show c * 9 + p < 3600 by omega) 1
      have e7' : stN .boolean h6 (.ref 161) (jI (c * 9 + p)) 1 = some h7 := e7
      rw [show vp_nar (ryR 161) 1 = 1 from bool_nar.2] at X7
      obtain ⟨h', V', ih, i1, i2, i3, i4, i5, i6⟩ := spo126_go (k84 := k84) (k96 := k96) hw hc hp n (x + 1) f h7 _ (by omega) (by omega) (C6.to X7 O7)
      refine ⟨h', V', ?_, i1, (O6.trans O7).trans i2, ?_, ?_, ?_, ?_⟩
      · apply start
        rw [if_pos z, g43, Option.bind_some, e7', Option.bind_some]
        exact ih
      · refine Sm.trans ?_ i3
        exact (M6.mono (by decide)).upd (by decide)
      · rw [i4, upd2_eq, upd_eq]
        refine ⟨fun q => absurd q.1 (by decide), fun q => absurd z (q.2 x (Nat.le_refl _) (by omega))⟩
      · intro i hi
        rw [i5 i hi, upd2_eq, upd_ne hi, M6 161 (by decide)]
      · intro e d hd
        rw [i6 e d hd, upd2_ne (by decide), M6 152 (by decide)]
        refine or_congr Iff.rfl (and_congr Iff.rfl ⟨fun ⟨y, h1, h2, h3⟩ => ⟨y, by omega, h2, h3⟩, fun ⟨y, h1, h2, h3⟩ => ⟨y, ?_, h2, h3⟩⟩)
        have : y ≠ x := by
          rintro rfl
          rw [z] at h3
          have := congrArg Int32.toInt h3
          rw [jI_int (by omega)] at this
          have h2 : (-2 : Int32).toInt = -2 := rfl
          omega
        omega
    · have g34 : gO h6 (.ref 104) 14 34 = some 152 := gO_of (ltE (by decide)) C6.1.1 rfl
      have zne : ldW A m F w c p x ≠ -2 := by
        rw [z]
        intro h3
        have := congrArg Int32.toInt h3
        rw [jI_int (by omega)] at this
        have h2 : (-2 : Int32).toInt = -2 := rfl
        omega
      obtain ⟨h7, e7, X7, O7⟩ := puts_at C6.1 (a := 152) (b := 13 * (c * 9 + p)) (c := d) rfl rfl (by omega) (show 13 * (c * 9 + p) + d / 32 < 46800 by omega)
      obtain ⟨h', V', ih, i1, i2, i3, i4, i5, i6⟩ := spo126_go (k84 := k84) (k96 := k96) hw hc hp n (x + 1) f h7 _ (by omega) (by omega) (C6.to X7 O7)
      refine ⟨h', V', ?_, i1, (O6.trans O7).trans i2, ?_, ?_, ?_, ?_⟩
      · apply start
        rw [if_neg zne, g34, Option.bind_some, z, show (13 : Int32) = jI 13 from rfl, jI_mul, e7]
        exact ih
      · refine Sm.trans ?_ i3
        exact (M6.mono (by decide)).upd (by decide)
      · rw [i4, upd2_ne (by decide), M6 161 (by decide)]
        refine and_congr Iff.rfl ⟨fun H y h1 h2 => ?_, fun H y h1 h2 => H y (by omega) h2⟩
        by_cases q : y = x
        · rw [q]; exact zne
        · exact H y (by omega) h2
      · intro i hi
        rw [i5 i hi, upd2_ne (by decide), M6 161 (by decide)]
      · intro e d' hd'
        rw [i6 e d' hd', upd2_eq, M6 152 (by decide), bit_orb13 (by omega) hd']
        constructor
        · rintro ((h1 | ⟨h1, h2⟩) | ⟨h1, y, h2, h3, h4⟩)
          · exact Or.inl h1
          · exact Or.inr ⟨h1, x, Nat.le_refl _, by omega, by rw [h2]; exact z⟩
          · exact Or.inr ⟨h1, y, by omega, h3, h4⟩
        · rintro (h1 | ⟨h1, y, h2, h3, h4⟩)
          · exact Or.inl (Or.inl h1)
          · by_cases q : y = x
            · subst q
              exact Or.inl (Or.inr ⟨h1, (jI_inj (by omega) (by omega)).mp (h4.symm.trans z)⟩)
            · exact Or.inr ⟨h1, y, by omega, h3, h4⟩
theorem spo96_go {k84 : Nat → Int32 → Int32 → Int32 → Int32 → aH → aO} {w c : Nat} (hw : w ≤ 2) (hc : c < F 12) :
    ∀ (n p f : Nat) (h : aH) (V : Nat → Nat → Int32), p + n = F 13 → n < f → RC h S wd t fv nv V Z A m F B W G →
      ∃ h' V', s_X14_spreadsOut_96 k84 f 104 (jI w) (jI (oneN A m w)) (jI (twoN A m w)) (jI c) (jI p) h = k84 104 (jI w) (jI (oneN A m w)) (jI (twoN A m w)) (jI (c + 1)) h' ∧ RC h' S wd t fv nv V' Z A m F B W G ∧ Ou h h' ∧ Sm [148, 149, 152, 161] V V' ∧
        (∀ q, p ≤ q → q < F 13 → (V' 161 (c * 9 + q) = 0 ↔ ∀ y, y < nWd A m F w → ldW A m F w c q y ≠ -2)) ∧ (∀ i, (∀ q, p ≤ q → q < F 13 → i ≠ c * 9 + q) → V' 161 i = V 161 i) ∧
        ∀ e d, d < 416 → (bit (V' 152) (13 * e) d = true ↔ bit (V 152) (13 * e) d = true ∨ ∃ q, p ≤ q ∧ q < F 13 ∧ e = c * 9 + q ∧ ∃ y, y < nWd A m F w ∧ ldW A m F w c q y = jI d)
  | _, _, 0, _, _, _, hf, _ => by omega
  | 0, p, f + 1, h, V, hi, hf, C => by
    refine ⟨h, V, ?_, C, Ou.refl, Sm.refl, fun q h1 h2 => by omega, fun _ _ => rfl, fun e d hd => ⟨Or.inl, fun z => z.elim id (fun ⟨q, h1, h2, _⟩ => by omega)⟩⟩
    obtain ⟨X, -, -, sim, K, hC, s20, s21, s22, s23⟩ := id C
    have h9 := hC.2.2.2.2.2.1
    show s_X14_spreadsOut_96_b k84 (s_X14_spreadsOut_96 k84 f) 104 (jI w) (jI (oneN A m w)) (jI (twoN A m w)) (jI c) (jI p) h = _
    unfold s_X14_spreadsOut_96_b
    have g : gI h (.ref 104) 14 21 = some (jI (F 13)) := s21 ▸ gI_of (ltE (by decide)) X.1 rfl
    rw [g, Option.bind_some, if_pos ((jI_le (by omega) (by omega)).mpr (by omega)), jI_inc]
  | n + 1, p, f + 1, h, V, hi, hf, C => by
    obtain ⟨X, -, -, sim, K, hC, s20, s21, s22, s23⟩ := id C
    have h9 := hC.2.2.2.2.2.1
    have h400 := hC.2.2.2.2.1
    have hwl := wide_le (A := A) K.1.1 K.2.2.1 hw
    have hot := oneTwo (A := A) K.1.1 w
    have hnle : nWd A m F w ≤ (45 * 45) * 27 := by
      unfold nWd
      rw [← hot]
      exact Nat.mul_le_mul (Nat.mul_le_mul hwl.1 hwl.2) hC.pos.2.2.2.2
    have g : gI h (.ref 104) 14 21 = some (jI (F 13)) := s21 ▸ gI_of (ltE (by decide)) X.1 rfl
    have g43 : gO h (.ref 104) 14 43 = some 161 := gO_of (ltE (by decide)) X.1 rfl
    have ei : jI c * 9 + jI p = jI (c * 9 + p) := by rw [show (9 : Int32) = jI 9 from rfl, jI_mul, jI_add]
    obtain ⟨h1, e1, X1, O1⟩ := X.stN (a := 161) (j := c * 9 + p) rfl (show c * 9 + p < 3600 by omega) 0
    have e1' : stN .boolean h (.ref 161) (jI (c * 9 + p)) 0 = some h1 := e1
    rw [show vp_nar (ryR 161) 0 = 0 from bool_nar.1] at X1
    obtain ⟨h2, V2, e2, C2, O2, m2, a2, b2, c2⟩ := spo126_go (k84 := k84) (k96 := s_X14_spreadsOut_96 k84 f) hw hc (show p < F 13 by omega) (nWd A m F w) 0 FU h1 _ (by omega) (by unfold FU; omega) (C.to X1 O1)
    obtain ⟨h', V', ih, i1, i2, i3, i4, i5, i6⟩ := spo96_go (k84 := k84) hw hc n (p + 1) f h2 V2 (by omega) (by omega) C2
    refine ⟨h', V', ?_, i1, (O1.trans O2).trans i2, ?_, ?_, ?_, ?_⟩
    · show s_X14_spreadsOut_96_b k84 (s_X14_spreadsOut_96 k84 f) 104 (jI w) (jI (oneN A m w)) (jI (twoN A m w)) (jI c) (jI p) h = _
      unfold s_X14_spreadsOut_96_b
      rw [g, Option.bind_some, if_neg (fun q => by have := (jI_le (by omega) (by omega)).mp q; omega), g43, Option.bind_some, ei, e1', Option.bind_some]
      exact e2.trans ih
    · exact ((Sm.refl.upd (by decide)).trans m2).trans i3
    · intro q q1 q2
      by_cases z : q = p
      · subst z
        rw [i5 _ (fun r r1 r2 => by omega), a2, upd2_eq, upd_eq]
        exact ⟨fun H y hy => H.2 y (Nat.zero_le _) hy, fun H => ⟨rfl, fun y _ hy => H y hy⟩⟩
      · exact i4 q (by omega) q2
    · intro i hi
      rw [i5 i (fun q q1 q2 => hi q (by omega) q2), b2 i (hi p (Nat.le_refl _) (by omega)), upd2_eq, upd_ne (hi p (Nat.le_refl _) (by omega))]
    · intro e d hd
      rw [i6 e d hd, c2 e d hd, upd2_ne (by decide)]
      constructor
      · rintro ((h1 | ⟨h1, y, _, h3, h4⟩) | ⟨q, q1, q2, q3⟩)
        · exact Or.inl h1
        · exact Or.inr ⟨p, Nat.le_refl _, by omega, h1, y, h3, h4⟩
        · exact Or.inr ⟨q, by omega, q2, q3⟩
      · rintro (h1 | ⟨q, q1, q2, q3, y, h3, h4⟩)
        · exact Or.inl (Or.inl h1)
        · by_cases z : q = p
          · subst z
            exact Or.inl (Or.inr ⟨q3, y, Nat.zero_le _, h3, h4⟩)
          · exact Or.inr ⟨q, by omega, q2, q3, y, h3, h4⟩
theorem spo84_go {w : Nat} (hw : w ≤ 2) :
    ∀ (n c f : Nat) (h : aH) (V : Nat → Nat → Int32), c + n = F 12 → n < f → RC h S wd t fv nv V Z A m F B W G →
      ∃ h' V', s_X14_spreadsOut_84 f 104 (jI w) (jI (oneN A m w)) (jI (twoN A m w)) (jI c) h = some (.inl none, h') ∧ RC h' S wd t fv nv V' Z A m F B W G ∧ Ou h h' ∧ Sm [148, 149, 152, 161] V V' ∧
        (∀ b q, c ≤ b → b < F 12 → q < F 13 → (V' 161 (b * 9 + q) = 0 ↔ ∀ y, y < nWd A m F w → ldW A m F w b q y ≠ -2)) ∧ (∀ i, (∀ b q, c ≤ b → b < F 12 → q < F 13 → i ≠ b * 9 + q) → V' 161 i = V 161 i) ∧
        ∀ e d, d < 416 → (bit (V' 152) (13 * e) d = true ↔ bit (V 152) (13 * e) d = true ∨ ∃ b q, c ≤ b ∧ b < F 12 ∧ q < F 13 ∧ e = b * 9 + q ∧ ∃ y, y < nWd A m F w ∧ ldW A m F w b q y = jI d)
  | _, _, 0, _, _, _, hf, _ => by omega
  | 0, c, f + 1, h, V, hi, hf, C => by
    refine ⟨h, V, ?_, C, Ou.refl, Sm.refl, fun b q h1 h2 => by omega, fun _ _ => rfl, fun e d hd => ⟨Or.inl, fun z => z.elim id (fun ⟨b, q, h1, h2, _⟩ => by omega)⟩⟩
    obtain ⟨X, -, -, sim, K, hC, s20, s21, s22, s23⟩ := id C
    have h400 := hC.2.2.2.2.1
    show s_X14_spreadsOut_84_b (s_X14_spreadsOut_84 f) 104 (jI w) (jI (oneN A m w)) (jI (twoN A m w)) (jI c) h = _
    unfold s_X14_spreadsOut_84_b
    have g : gI h (.ref 104) 14 20 = some (jI (F 12)) := s20 ▸ gI_of (ltE (by decide)) X.1 rfl
    rw [g, Option.bind_some, if_pos ((jI_le (by omega) (by omega)).mpr (by omega))]
  | n + 1, c, f + 1, h, V, hi, hf, C => by
    obtain ⟨X, -, -, sim, K, hC, s20, s21, s22, s23⟩ := id C
    have h9 := hC.2.2.2.2.2.1
    have h400 := hC.2.2.2.2.1
    have g : gI h (.ref 104) 14 20 = some (jI (F 12)) := s20 ▸ gI_of (ltE (by decide)) X.1 rfl
    obtain ⟨h2, V2, e2, C2, O2, m2, a2, b2, c2⟩ := spo96_go (k84 := s_X14_spreadsOut_84 f) hw (show c < F 12 by omega) (F 13) 0 FU h V (by omega) (by unfold FU; omega) C
    obtain ⟨h', V', ih, i1, i2, i3, i4, i5, i6⟩ := spo84_go hw n (c + 1) f h2 V2 (by omega) (by omega) C2
    refine ⟨h', V', ?_, i1, O2.trans i2, m2.trans i3, ?_, ?_, ?_⟩
    · show s_X14_spreadsOut_84_b (s_X14_spreadsOut_84 f) 104 (jI w) (jI (oneN A m w)) (jI (twoN A m w)) (jI c) h = _
      unfold s_X14_spreadsOut_84_b
      rw [g, Option.bind_some, if_neg (fun q => by have := (jI_le (by omega) (by omega)).mp q; omega)]
      exact e2.trans ih
    · intro b q b1 b2' q2
      by_cases z : b = c
      · subst z
        rw [i5 _ (fun r s r1 r2 r3 => by omega)]
        exact a2 q (Nat.zero_le _) q2
      · exact i4 b q (by omega) b2' q2
    · intro i hi
      rw [i5 i (fun b q b1 b2 q2 => hi b q (by omega) b2 q2)]
      exact b2 i (fun q _ q2 => hi c q (Nat.le_refl _) (by omega) q2)
    · intro e d hd
      rw [i6 e d hd, c2 e d hd]
      constructor
      · rintro ((h1 | ⟨q, _, q2, q3⟩) | ⟨b, q, b1, b2, q3⟩)
        · exact Or.inl h1
        · exact Or.inr ⟨c, q, Nat.le_refl _, by omega, q2, q3⟩
        · exact Or.inr ⟨b, q, by omega, b2, q3⟩
      · rintro (h1 | ⟨b, q, b1, b2, q2, q3⟩)
        · exact Or.inl (Or.inl h1)
        · by_cases z : b = c
          · subst z
            exact Or.inl (Or.inr ⟨q, Nat.zero_le _, q2, q3⟩)
          · exact Or.inr ⟨b, q, by omega, b2, q2, q3⟩
theorem spo2_go {w : Nat} (hw : w ≤ 2) :
    ∀ (n i f : Nat) (h : aH) (V : Nat → Nat → Int32), i + n = 46800 → n < f → RC h S wd t fv nv V Z A m F B W G → (∀ j, j < i → V 152 j = 0) →
      ∃ h' V', s_X14_spreadsOut_2 f 104 (jI w) (jI i) h = some (.inl none, h') ∧ RC h' S wd t fv nv V' Z A m F B W G ∧ Ou h h' ∧ Sm [148, 149, 152, 161] V V' ∧ okMb V' (F 12) (F 13) (nWd A m F w) (ldW A m F w)
  | _, _, 0, _, _, _, hf, _, _ => by omega
  | 0, i, f + 1, h, V, hi, hf, C, hz => by
    obtain ⟨X, HT, -, sim, K, hC, s20, s21, s22, s23⟩ := id C
    have h9 := hC.2.2.2.2.2.1
    have h400 := hC.2.2.2.2.1
    have hm2 := K.1.1.2.2.1
    have hT := HT.1
    obtain ⟨h', V', ih, i1, i2, i3, i4, i5, i6⟩ := spo84_go hw (F 12) 0 FU h V (by omega) (by unfold FU; omega) C
    refine ⟨h', V', ?_, i1, i2, i3, ?_⟩
    · show s_X14_spreadsOut_2_b (s_X14_spreadsOut_2 f) 104 (jI w) (jI i) h = _
      unfold s_X14_spreadsOut_2_b
      rw [show (46800 : Int32) = jI 46800 from rfl, if_pos ((jI_le (by omega) (by omega)).mpr (by omega))]
      have o4 : gO h (.ref 104) 14 4 = some t := gO_of (ltE (by decide)) X.1 rfl
      have t0 : gO h (.ref t) 13 0 = some (t + 1) := gO_of (by omega) HT.2.1 rfl
      have l2 : ldI .int h (.ref (t + 1)) 2 = some (jI (m 2)) := (sim.1 2 (by decide)) ▸ HT.ld (k := 1) (j := 2) (by decide) (by decide) (by decide) (by decide)
      have sz5 : s_X13_size t 5 h = some (.inl (some (.int (szT B 5))), h) := size_at HT (s := 5) (by decide)
      have sz6 : s_X13_size t 6 h = some (.inl (some (.int (szT B 6))), h) := size_at HT (s := 6) (by decide)
      have v5 : 0 < m 2 → szT B 5 + 2 * jI w = jI (oneN A m w) := fun q => by
        have hd : decl m 5 := Or.inr (Or.inr (Or.inl ⟨by omega, by omega⟩))
        obtain ⟨s2, s3⟩ := sim.2.1 5 hd
        unfold szT oneN
        rw [s2, s3, (wdN_Rw (K.2.2.1 5 hd) hw).2.2, if_neg (by omega), wdt_N]
      have v6 : 1 < m 2 → szT B 6 + 2 * jI w = jI (twoN A m w) := fun q => by
        have hd : decl m 6 := Or.inr (Or.inr (Or.inl ⟨by omega, by omega⟩))
        obtain ⟨s2, s3⟩ := sim.2.1 6 hd
        unfold szT twoN
        rw [s2, s3, (wdN_Rw (K.2.2.1 6 hd) hw).2.2, if_neg (by omega), wdt_N]
      have go49 : s_X14_spreadsOut_49 104 (jI w) (jI (oneN A m w)) h = some (.inl none, h') := by
        unfold s_X14_spreadsOut_49
        rw [o4, Option.bind_some, t0, Option.bind_some, l2, Option.bind_some, show (1 : Int32) = jI 1 from rfl]
        by_cases q : m 2 ≤ 1
        · have t1 : twoN A m w = 1 := by unfold twoN; rw [if_pos q]
          rw [if_pos ((jI_le (by omega) (by omega)).mpr q), ← t1]
          exact ih
        · rw [if_neg (fun z => q ((jI_le (by omega) (by omega)).mp z)), Option.bind_some, HT.kO, sz6]
          simp only [cI]
          rw [v6 (by omega)]
          exact ih
      rw [o4, Option.bind_some, t0, Option.bind_some, l2, Option.bind_some, show (0 : Int32) = jI 0 from rfl]
      by_cases q : m 2 ≤ 0
      · have t1 : oneN A m w = 1 := by unfold oneN; rw [if_pos (by omega)]
        rw [if_pos ((jI_le (by omega) (by omega)).mpr q)]
        rw [t1] at go49
        exact go49
      · rw [if_neg (fun z => q ((jI_le (by omega) (by omega)).mp z)), Option.bind_some, HT.kO, sz5]
        simp only [cI]
        rw [v5 (by omega)]
        exact go49
    · intro c p hc hp
      refine ⟨i4 c p (Nat.zero_le _) hc hp, fun d hd => ?_⟩
      rw [i6 _ d hd]
      constructor
      · rintro (z | ⟨b, q, _, b2, q2, q3, y, y1, y2⟩)
        · unfold bit at z
          rw [hz _ (by omega)] at z
          simp at z
        · have e1 : c = b ∧ p = q := by omega
          rw [e1.1, e1.2]
          exact ⟨y, y1, y2⟩
      · rintro ⟨y, y1, y2⟩
        exact Or.inr ⟨c, p, Nat.zero_le _, hc, hp, rfl, y, y1, y2⟩
  | n + 1, i, f + 1, h, V, hi, hf, C, hz => by
    have X := C.1
    have g34 : gO h (.ref 104) 14 34 = some 152 := gO_of (ltE (by decide)) X.1 rfl
    obtain ⟨h1, e1, X1, O1⟩ := X.st (a := 152) (j := i) rfl rfl (show i < 46800 by omega) 0
    obtain ⟨h', V', ih, i1, i2, i3, i4⟩ := spo2_go hw n (i + 1) f h1 _ (by omega) (by omega) (C.to X1 O1) (fun j hj => by
      rw [upd2_eq]
      by_cases q : j = i
      · rw [q, upd_eq]
      · rw [upd_ne q]; exact hz j (by omega))
    refine ⟨h', V', ?_, i1, O1.trans i2, (Sm.refl.upd (by decide)).trans i3, i4⟩
    show s_X14_spreadsOut_2_b (s_X14_spreadsOut_2 f) 104 (jI w) (jI i) h = _
    unfold s_X14_spreadsOut_2_b
    rw [show (46800 : Int32) = jI 46800 from rfl, if_neg (fun q => by have := (jI_le (by omega) (by omega)).mp q; omega), g34, Option.bind_some, e1, Option.bind_some, jI_inc]
    exact ih
theorem RC.spreadsOut {h : aH} {V : Nat → Nat → Int32} (C : RC h S wd t fv nv V Z A m F B W G) {w : Nat} (hw : w ≤ 2) :
    ∃ h' V', s_X14_spreadsOut 104 (jI w) h = some (.inl none, h') ∧ RC h' S wd t fv nv V' Z A m F B W G ∧ Ou h h' ∧ Sm [148, 149, 152, 161] V V' ∧ okMb V' (F 12) (F 13) (nWd A m F w) (ldW A m F w) :=
  spo2_go hw 46800 0 FU h V rfl (by decide) C (fun j hj => by omega)
end
