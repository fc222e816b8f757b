/-! the reference's hardest worlds -/
section
variable {h : aH} {S : Nat → Int32} {wd : Int64} {t : Nat} {fv nv : Value} {V : Nat → Nat → Int32} {Z : Nat → Nat → Int64} {A : Nat → Nat → Int32} {m F : Nat → Nat} {B : Nat → Nat → Int32} {W : Nat → Int64} {G : Nat → Nat}
theorem RC.ahead (C : RC h S wd t fv nv V Z A m F B W G) {k : Nat} (hk : k ≤ 20) {bs : Nat → Int32} (hb : ∀ d, d < F 12 → V 159 (400 * k + d) = bs d) {y : Int32} (hy : isLd y (F 12)) : s_X14_ahead 104 y (jI k) h = some (.inl (some (.int (ahd y bs))), h) := by
  obtain ⟨X, -, -, -, KW, hC, -⟩ := id C
  have h400 := hC.2.2.2.2.1
  unfold s_X14_ahead
  rcases hy with z | ⟨d, z, hd⟩
  · rw [z, if_pos rfl]
    rfl
  · have g41 : gO h (.ref 104) 14 41 = some 159 := gO_of (ltE (by decide)) X.1 rfl
    have l : ldI .int h (.ref 159) (jI (400 * k + d)) = some (bs d) := (hb d hd) ▸ X.ld (a := 159) rfl (show 400 * k + d < 8400 by omega)
    rw [z, if_neg (jI_m2 (by omega)), g41, Option.bind_some, show (400 : Int32) = jI 400 from rfl, jI_mul, jI_add, l, Option.bind_some, ahd_in (by omega)]
theorem w115_go (C : RC h S wd t fv nv V Z A m F B W G) (L : okLd V A m F) {c p hz to i past : Nat} {bs : Nat → Int32} (hc : c < F 12) (hp : p < F 13) (hz1 : 1 ≤ hz) (hz2 : hz ≤ 20) (hb : ∀ d, d < F 12 → V 159 (400 * (hz - 1) + d) = bs d) {k61 : Nat → Int32 → Int32 → Int32 → Int32 → Int32 → aH → aO} :
    ∀ (n w f wi : Nat), w + n = F 14 → n < f → wi < F 14 →
      ∃ wj, wj < F 14 ∧ jI wj = hwG (fun w => ahd (ldV A m F c p w) bs) w n (jI wi) (ahd (ldV A m F c p wi) bs) ∧ s_X14_worst_115 k61 f 104 (jI to) (jI i) (jI c) (jI wi) (jI past) (jI hz) (jI p) (jI w) h = k61 104 (jI to) (jI i) (ldV A m F c p wj) (jI wj) (jI (past + 1)) h
  | _, _, 0, _, _, hf, _ => by omega
  | 0, w, f + 1, wi, hk, hf, hwi => by
    obtain ⟨X, -, -, -, KW, hC, s20, s21, s22, s23⟩ := id C
    have h27 := hC.2.2.2.2.2.2.1
    have g : gI h (.ref 104) 14 22 = some (jI (F 14)) := s22 ▸ gI_of (ltE (by decide)) X.1 rfl
    refine ⟨wi, hwi, rfl, ?_⟩
    show s_X14_worst_115_b k61 (s_X14_worst_115 k61 f) 104 (jI to) (jI i) (jI c) (jI wi) (jI past) (jI hz) (jI p) (jI w) h = _
    unfold s_X14_worst_115_b
    rw [g, Option.bind_some, if_pos ((jI_le (by omega) (by omega)).mpr (by omega)), C.kO, C.to_at L hc hp hwi]
    simp only [cI, jI_inc]
  | n + 1, w, f + 1, wi, hk, hf, hwi => by
    obtain ⟨X, -, -, -, KW, hC, s20, s21, s22, s23⟩ := id C
    have h27 := hC.2.2.2.2.2.2.1
    have g : gI h (.ref 104) 14 22 = some (jI (F 14)) := s22 ▸ gI_of (ltE (by decide)) X.1 rfl
    have e1 := C.to_at L hc hp (show w < F 14 by omega)
    have e2 := C.to_at L hc hp hwi
    have a1 := C.ahead (k := hz - 1) (by omega) hb (ldV_is KW hC c p w)
    have a2 := C.ahead (k := hz - 1) (by omega) hb (ldV_is KW hC c p wi)
    have one : s_X14_worst_115 k61 (f + 1) 104 (jI to) (jI i) (jI c) (jI wi) (jI past) (jI hz) (jI p) (jI w) h = if ahd (ldV A m F c p w) bs ≤ ahd (ldV A m F c p wi) bs then s_X14_worst_115 k61 f 104 (jI to) (jI i) (jI c) (jI wi) (jI past) (jI hz) (jI p) (jI (w + 1)) h else s_X14_worst_115 k61 f 104 (jI to) (jI i) (jI c) (jI w) (jI past) (jI hz) (jI p) (jI (w + 1)) h := by
      show s_X14_worst_115_b k61 (s_X14_worst_115 k61 f) 104 (jI to) (jI i) (jI c) (jI wi) (jI past) (jI hz) (jI p) (jI w) h = _
      unfold s_X14_worst_115_b
      rw [g, Option.bind_some, if_neg (fun q => by have := (jI_le (by omega) (by omega)).mp q; omega)]
      simp only [C.kO, e1, cI, jI_dec (show 0 < hz by omega), a1, e2, a2, jI_inc]
    rw [one]
    show ∃ wj, wj < F 14 ∧ jI wj = (if ahd (ldV A m F c p w) bs ≤ ahd (ldV A m F c p wi) bs then _ else _) ∧ _
    by_cases q : ahd (ldV A m F c p w) bs ≤ ahd (ldV A m F c p wi) bs
    · rw [if_pos q, if_pos q]
      exact w115_go C L hc hp hz1 hz2 hb n (w + 1) f wi (by omega) (by omega) hwi
    · rw [if_neg q, if_neg q]
      exact w115_go C L hc hp hz1 hz2 hb n (w + 1) f w (by omega) (by omega) (by omega)
theorem w61_go (C : RC h S wd t fv nv V Z A m F B W G) (L : okLd V A m F) {good : Nat → Bool} (hgd : gdR V (F 12) good) {bb : Nat → Nat → Int32 × Int32} (hbb : ∀ k d, d < F 12 → k ≤ 20 → V 159 (400 * k + d) = (bb k d).1 ∧ V 160 (400 * k + d) = (bb k d).2) (hlw : ∀ k c, 1 ≤ k → good c = true → ∃ p, p < F 13 ∧ (bb k c).2 = jI p) {to i : Nat} (hto : to ≤ 20) (hi : i < to) :
    ∀ (n past f : Nat) (y w : Int32), past + n = i + 1 → n < f → isLd y (F 12) → s_X14_worst_61 f 104 (jI to) (jI i) y w (jI past) h = some (.inl (some (.int (hdS (ldV A m F) (F 14) good bb to n past y w))), h)
  | _, _, 0, _, _, _, hf, _ => by omega
  | 0, past, f + 1, y, w, hk, hf, hy => by
    show s_X14_worst_61_b (s_X14_worst_61 f) 104 (jI to) (jI i) y w (jI past) h = _
    unfold s_X14_worst_61_b
    rw [if_pos ((jI_lt (by omega) (by omega)).mpr (by omega))]
    rfl
  | n + 1, past, f + 1, y, w, hk, hf, hy => by
    obtain ⟨X, -, -, -, KW, hC, s20, s21, s22, s23⟩ := id C
    have h400 := hC.2.2.2.2.1
    have h27 := hC.2.2.2.2.2.2.1
    have h9 := hC.2.2.2.2.2.1
    have pos := hC.pos
    show s_X14_worst_61_b (s_X14_worst_61 f) 104 (jI to) (jI i) y w (jI past) h = _
    unfold s_X14_worst_61_b
    rw [if_neg (fun q => by have := (jI_lt (by omega) (by omega)).mp q; omega)]
    unfold hdS
    by_cases z : y = -2
    · rw [if_pos z, if_pos z]
    · rw [if_neg z, if_neg z]
      obtain ⟨d, rfl, hd⟩ := (hy.neg h400).2 z
      rw [jI_cl (show d < 2147483648 by omega)]
      have g27 : gO h (.ref 104) 14 27 = some 146 := gO_of (ltE (by decide)) X.1 rfl
      have g42 : gO h (.ref 104) 14 42 = some 160 := gO_of (ltE (by decide)) X.1 rfl
      have l1 : ldI .boolean h (.ref 146) (jI d) = some (b01 (good d)) := (hgd d hd) ▸ X.ld (a := 146) rfl (show d < 400 by omega)
      rw [g27, Option.bind_some, l1, Option.bind_some]
      cases gd : good d with
      | false => rw [if_pos b01_f, if_neg (by decide)]
      | true =>
        have l2 : ldI .int h (.ref 160) (jI (400 * (to - past) + d)) = some ((bb (to - past) d).2) := (hbb (to - past) d hd (by omega)).2 ▸ X.ld (a := 160) rfl (show 400 * (to - past) + d < 8400 by omega)
        rw [if_neg (show ¬ b01 true = 0 by decide), if_pos rfl, g42, Option.bind_some, jI_sub (by omega), show (400 : Int32) = jI 400 from rfl, jI_mul, jI_add, l2, Option.bind_some]
        obtain ⟨p, hp, ep⟩ := hlw (to - past) d (by omega) gd
        rw [ep, jI_cl (show p < 2147483648 by omega)]
        obtain ⟨wj, j1, j2, j3⟩ := w115_go C L (c := d) (p := p) (hz := to - past) (to := to) (i := i) (past := past) (bs := fun d => (bb (to - past - 1) d).1) hd hp (by omega) (by omega) (fun e he => (hbb (to - past - 1) e he (by omega)).1) (k61 := s_X14_worst_61 f) (F 14 - 1) 1 FU 0 (by omega) (by unfold FU; omega) pos.2.2.2.1
        have j2' : hwS (fun w => ahd (ldV A m F d p w) (fun d => (bb (to - past - 1) d).1)) (F 14) = jI wj := j2.symm
        rw [j2', jI_cl (show wj < 2147483648 by omega)]
        refine j3.trans ?_
        exact w61_go C L hgd hbb hlw hto hi n (past + 1) f _ _ (by omega) (by omega) (ldV_is KW hC d p wj)
end
