/-! the class's lanes -/
def okTl (V : Nat → Nat → Int32) (ta tv : Nat → Int32) : Prop := ∀ j, j < 62 → V 96 j = ta j ∧ V 95 j = tv j
theorem okTl.sm {V V' : Nat → Nat → Int32} {ta tv : Nat → Int32} (H : okTl V ta tv) (h1 : V' 96 = V 96) (h2 : V' 95 = V 95) : okTl V' ta tv := fun j hj => by rw [h1, h2]; exact H j hj
section
variable {S : Nat → Nat → Int32} {Z : Nat → Nat → Int64} {D Ln : Nat → Nat} {b : Nat} {A : Nat → Nat → Int32} {N : Nat → Int64} {m F : Nat → Nat}
theorem ag6_go {ta tv : Nat → Int32} {by' : Int32} {fl t c : Nat} {vv : Nat → Int32} (ht : t ≤ 30) (hfl : fl ≤ 100) (hok : ∀ j, j < 62 → ta j = -1 ∨ 0 ≤ ta j) (hvs : ∀ s, s < m 0 → vv s = sprGo A 0 0 (m 0) (jI c) zV s) (hby : S 92 10 = by') : ∀ (n i f : Nat) (sp : Bool) (h : aH) (V : Nat → Nat → Int32), i + n = m 4 → n < f → CC h S V Z D Ln b A N m F → okTl V ta tv → (∀ s, 3 ≤ s → decl m s → V 93 s = vv s) → (sp = true → ∀ s, s < m 0 → V 93 s = vv s) →
    ∃ h' V', s_X9_agrees_6 f 92 (jI t) (jI c) (jI fl) (b01 sp) (jI i) h = some (.inl (some (.int (b01 (allR (fit1 A m ta tv t by' fl vv) i n)))), h') ∧ CC h' S V' Z D Ln b A N m F ∧ Oc D h h' ∧ Sm [93] V V' ∧ ∀ s, 3 ≤ s → V' 93 s = V 93 s
  | _, _, 0, _, _, _, _, hf, _, _, _, _ => by omega
  | 0, i, f + 1, sp, h, V, hk, hf, C, T, h1, h2 => by
    obtain ⟨X, HM, K, hC, hwd⟩ := id C
    have k4 := K.1.1.2.2.2.2
    have g0 : gO h (.ref 92) 9 0 = some 3 := gO_of (ltE (by decide)) (X.1 92 rfl) rfl
    have l4 : ldI .int h (.ref (3 + 1)) 4 = some (jI (m 4)) := (K.1.2.1 4 (by decide)) ▸ HM.ldmn (s := 4) (by decide)
    refine ⟨h, V, ?_, C, Oc.refl, Sm.refl, fun _ _ => rfl⟩
    show s_X9_agrees_6_b (s_X9_agrees_6 f) 92 (jI t) (jI c) (jI fl) (b01 sp) (jI i) h = _
    unfold s_X9_agrees_6_b
    rw [g0, Option.bind_some, HM.mn, Option.bind_some, l4, Option.bind_some, if_pos ((jI_le (by omega) (by omega)).mpr (by omega))]
    rfl
  | n + 1, i, f + 1, sp, h, V, hk, hf, C, T, h1, h2 => by
    obtain ⟨X, HM, K, hC, hwd⟩ := id C
    obtain ⟨k0, k1, k2, k3, k4⟩ := K.1.1
    have hj : 2 * t + i < 62 := by omega
    have ei : (jI t * 2) + jI i = jI (2 * t + i) := by
      rw [show (2 : Int32) = jI 2 from rfl, jI_mul, jI_add, Nat.mul_comm]
    have g0 : gO h (.ref 92) 9 0 = some 3 := gO_of (ltE (by decide)) (X.1 92 rfl) rfl
    have g3 : gO h (.ref 92) 9 3 = some 93 := gO_of (ltE (by decide)) (X.1 92 rfl) rfl
    have g7 : gO h (.ref 92) 9 7 = some 96 := gO_of (ltE (by decide)) (X.1 92 rfl) rfl
    have g10 : gI h (.ref 92) 9 10 = some by' := hby ▸ gI_of (ltE (by decide)) (X.1 92 rfl) rfl
    have l4 : ldI .int h (.ref (3 + 1)) 4 = some (jI (m 4)) := (K.1.2.1 4 (by decide)) ▸ HM.ldmn (s := 4) (by decide)
    have l96 : ldI .int h (.ref 96) (jI (2 * t + i)) = some (ta (2 * t + i)) := (T _ hj).1 ▸ X.ld (a := 96) rfl (show 2 * t + i < 62 from hj)
    have start : ∀ {y : aO}, (if ta (2 * t + i) < 0 then s_X9_agrees_6 f 92 (jI t) (jI c) (jI fl) (b01 sp) (jI (i + 1)) h else if by' < ta (2 * t + i) then s_X9_agrees_6 f 92 (jI t) (jI c) (jI fl) (b01 sp) (jI (i + 1)) h else if b01 sp = 0 then cN (s_X2_spread 3 0 (jI c) 0 93 h) (fun h68 => s_X9_agrees_74 (s_X9_agrees_6 f) 92 (jI t) (jI c) (jI fl) 1 (jI i) (jI (2 * t + i)) h68) else s_X9_agrees_74 (s_X9_agrees_6 f) 92 (jI t) (jI c) (jI fl) (b01 sp) (jI i) (jI (2 * t + i)) h) = y → s_X9_agrees_6 (f + 1) 92 (jI t) (jI c) (jI fl) (b01 sp) (jI i) h = y := by
      intro y hy
      show s_X9_agrees_6_b (s_X9_agrees_6 f) 92 (jI t) (jI c) (jI fl) (b01 sp) (jI i) h = _
      unfold s_X9_agrees_6_b
      rw [g0, Option.bind_some, HM.mn, Option.bind_some, l4, Option.bind_some, if_neg (fun q => by have := (jI_le (by omega) (by omega)).mp q; omega)]
      simp only [g0, g3, g7, g10, ei, l96, Option.bind_some, jI_inc, HM.kO]
      exact hy
    show ∃ h' V', s_X9_agrees_6 (f + 1) 92 (jI t) (jI c) (jI fl) (b01 sp) (jI i) h = some (.inl (some (.int (b01 (fit1 A m ta tv t by' fl vv i && allR (fit1 A m ta tv t by' fl vv) (i + 1) n)))), h') ∧ _
    by_cases z : ta (2 * t + i) = -1
    · obtain ⟨h', V', ih, r⟩ := ag6_go ht hfl hok hvs hby n (i + 1) f sp h V (by omega) (by omega) C T h1 h2
      refine ⟨h', V', start ?_, r⟩
      have e1 : fit1 A m ta tv t by' fl vv i = true := by unfold fit1; rw [if_pos z]
      rw [if_pos (by rw [z]; decide), e1, Bool.true_and]
      exact ih
    · have z0 : ¬ ta (2 * t + i) < 0 := fun q => z ((neg1 (hok _ hj)).mp q)
      by_cases y : ta (2 * t + i) ≤ by'
      · have y0 : ¬ by' < ta (2 * t + i) := i32_nlt.mpr y
        have e1 : fit1 A m ta tv t by' fl vv i = decide ((if fl = m 1 + 1 + i then 0 else sumV vv (sgm A 10 11 i)) = tv (2 * t + i)) := by
          unfold fit1
          rw [if_neg z, if_pos y]
        obtain ⟨hh, VV, es, CC2, OO, MM, w1, w2⟩ : ∃ hh VV, (if b01 sp = 0 then cN (s_X2_spread 3 0 (jI c) 0 93 h) (fun h68 => s_X9_agrees_74 (s_X9_agrees_6 f) 92 (jI t) (jI c) (jI fl) 1 (jI i) (jI (2 * t + i)) h68) else s_X9_agrees_74 (s_X9_agrees_6 f) 92 (jI t) (jI c) (jI fl) (b01 sp) (jI i) (jI (2 * t + i)) h) = s_X9_agrees_74 (s_X9_agrees_6 f) 92 (jI t) (jI c) (jI fl) 1 (jI i) (jI (2 * t + i)) hh ∧ CC hh S VV Z D Ln b A N m F ∧ Oc D h hh ∧ Sm [93] V VV ∧ (∀ s, 3 ≤ s → VV 93 s = V 93 s) ∧ ∀ s, s < m 0 → VV 93 s = vv s := by
          cases sp with
          | false =>
            obtain ⟨h3, e3, C3, O3⟩ := C.spr (a := 93) rfl rfl (k := 0) (by decide) (jI c)
            have e3' : s_X2_spread 3 0 (jI c) 0 93 h = some (.inl none, h3) := e3
            refine ⟨h3, _, ?_, C3, O3, Sm.refl.upd (by decide), fun s hs => ?_, fun s hs => ?_⟩
            · rw [if_pos b01_f, e3']
              rfl
            · rw [upd2_eq]
              exact spr_out A 0 0 (m 0) _ _ s (by omega)
            · rw [upd2_eq, hvs s hs]
              exact spr_in A 0 0 (m 0) _ _ _ s (Nat.zero_le _) (by omega)
          | true =>
            refine ⟨h, V, ?_, C, Oc.refl, Sm.refl, fun _ _ => rfl, h2 rfl⟩
            rw [if_neg (show ¬ b01 true = 0 by decide)]
            rfl
        have ag : agree m (VV 93) vv := fun s hs => by
          by_cases q : s < m 0
          · exact w2 s q
          · have s3 : 3 ≤ s := by unfold decl at hs; omega
            rw [w1 s s3]
            exact h1 s s3 hs
        have X2 := CC2.1
        have a0 : gO hh (.ref 92) 9 0 = some 3 := gO_of (ltE (by decide)) (X2.1 92 rfl) rfl
        have a3 : gO hh (.ref 92) 9 3 = some 93 := gO_of (ltE (by decide)) (X2.1 92 rfl) rfl
        have a6 : gO hh (.ref 92) 9 6 = some 95 := gO_of (ltE (by decide)) (X2.1 92 rfl) rfl
        have b1 : ldI .int hh (.ref (3 + 1)) 1 = some (jI (m 1)) := (K.1.2.1 1 (by decide)) ▸ CC2.2.1.ldmn (s := 1) (by decide)
        have T2 : okTl VV ta tv := T.sm (MM 96 (by decide)) (MM 95 (by decide))
        have b95 : ldI .int hh (.ref 95) (jI (2 * t + i)) = some (tv (2 * t + i)) := (T2 _ hj).2 ▸ X2.ld (a := 95) rfl (show 2 * t + i < 62 from hj)
        have esn := CC2.seen (a := 93) rfl rfl (i := i) (by omega)
        rw [sumV_congr ag (K.2.1.2 i (by omega))] at esn
        have e121 : ∀ x, s_X9_agrees_121 (s_X9_agrees_6 f) 92 (jI t) (jI c) (jI fl) 1 (jI i) (jI (2 * t + i)) x hh = if x = tv (2 * t + i) then s_X9_agrees_6 f 92 (jI t) (jI c) (jI fl) 1 (jI (i + 1)) hh else some (.inl (some (.int 0)), hh) := by
          intro x
          unfold s_X9_agrees_121
          rw [a6, Option.bind_some, b95, Option.bind_some, jI_inc]
          rfl
        have e74 : s_X9_agrees_74 (s_X9_agrees_6 f) 92 (jI t) (jI c) (jI fl) 1 (jI i) (jI (2 * t + i)) hh = if (if fl = m 1 + 1 + i then 0 else sumV vv (sgm A 10 11 i)) = tv (2 * t + i) then s_X9_agrees_6 f 92 (jI t) (jI c) (jI fl) 1 (jI (i + 1)) hh else some (.inl (some (.int 0)), hh) := by
          unfold s_X9_agrees_74 s_X9_agrees_97
          rw [a0, Option.bind_some, CC2.2.1.mn, Option.bind_some, b1, Option.bind_some, jI_inc, jI_add]
          by_cases u : fl = m 1 + 1 + i
          · rw [if_pos ((jI_inj (by omega) (by omega)).mpr u), if_neg (by decide), e121, if_pos u]
          · rw [if_neg (fun v => u ((jI_inj (by omega) (by omega)).mp v)), if_pos rfl, if_neg u, Option.bind_some, a3, Option.bind_some, CC2.kO3, esn]
            simp only [cI]
            exact e121 _
        by_cases u : (if fl = m 1 + 1 + i then 0 else sumV vv (sgm A 10 11 i)) = tv (2 * t + i)
        · obtain ⟨h', V', ih, r1, r2, r3, r4⟩ := ag6_go ht hfl hok hvs hby n (i + 1) f true hh VV (by omega) (by omega) CC2 T2 (fun s s3 hs => by rw [w1 s s3]; exact h1 s s3 hs) (fun _ => w2)
          refine ⟨h', V', start ?_, r1, OO.trans r2, MM.trans r3, fun s s3 => by rw [r4 s s3, w1 s s3]⟩
          rw [if_neg z0, if_neg y0, es, e74, if_pos u, e1, decide_eq_true u, Bool.true_and]
          exact ih
        · refine ⟨hh, VV, start ?_, CC2, OO, MM, w1⟩
          rw [if_neg z0, if_neg y0, es, e74, if_neg u, e1, decide_eq_false u, Bool.false_and]
          rfl
      · have y0 : by' < ta (2 * t + i) := i32_nle.mp y
        obtain ⟨h', V', ih, r⟩ := ag6_go ht hfl hok hvs hby n (i + 1) f sp h V (by omega) (by omega) C T h1 h2
        refine ⟨h', V', start ?_, r⟩
        have e1 : fit1 A m ta tv t by' fl vv i = true := by
          unfold fit1
          rw [if_neg z, if_neg y]
        rw [if_neg z0, if_pos y0, e1, Bool.true_and]
        exact ih
theorem CC.agrees {ta tv : Nat → Int32} {by' : Int32} {fl t c : Nat} {vv : Nat → Int32} (ht : t ≤ 30) (hfl : fl ≤ 100) (hok : ∀ j, j < 62 → ta j = -1 ∨ 0 ≤ ta j) (hvs : ∀ s, s < m 0 → vv s = sprGo A 0 0 (m 0) (jI c) zV s) (hby : S 92 10 = by') {h : aH} {V : Nat → Nat → Int32} (C : CC h S V Z D Ln b A N m F) (T : okTl V ta tv) (h1 : ∀ s, 3 ≤ s → decl m s → V 93 s = vv s) :
    ∃ h' V', s_X9_agrees 92 (jI t) (jI c) (jI fl) h = some (.inl (some (.int (b01 (fitS A m ta tv t by' fl vv)))), h') ∧ CC h' S V' Z D Ln b A N m F ∧ Oc D h h' ∧ Sm [93] V V' ∧ ∀ s, 3 ≤ s → V' 93 s = V 93 s := by
  have k4 := C.2.2.1.1.1.2.2.2.2
  exact ag6_go ht hfl hok hvs hby (m 4) 0 FU false h V (by omega) (by unfold FU; omega) C T h1 (fun z => by cases z)
end
