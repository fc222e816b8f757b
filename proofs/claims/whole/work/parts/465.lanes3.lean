/-! lanes moved, lanes brought -/
section
variable {S : Nat → Nat → Int32} {Z : Nat → Nat → Int64} {D Ln : Nat → Nat} {b : Nat} {A : Nat → Nat → Int32} {N : Nat → Int64} {m F : Nat → Nat}
theorem mv113_go {ta tv : Nat → Int32} {by' : Int32} {fl t p x st : Nat} (ht : t ≤ 30) (hfl : fl ≤ 100) (hok : ∀ j, j < 62 → ta j = -1 ∨ 0 ≤ ta j) (hby : S 92 10 = by') (hp : p < F 13) (hx : x < F 14) (hst0 : F 12 ≤ st) (hst : st + F 12 ≤ Ln 97) (L : lenMv Ln F) {k75 : Nat → Int32 → Int32 → Int32 → Int32 → Int32 → Int32 → aH → aO} : ∀ (n c f : Nat) (h : aH) (V : Nat → Nat → Int32), c + n = F 12 → n < f → CC h S V Z D Ln b A N m F → okMv V A m F → okTl V ta tv → (∀ s, 3 ≤ s → decl m s → V 93 s = v1S A m F 0 p x s) →
    ∃ h' V', s_X9_moveLane_113 k75 f 92 (jI st) (jI fl) (jI t) (jI p) (jI (F 15)) (jI x) (1 <<< (jI (x % F 15) &&& 31)) (jI c) h = k75 92 (jI st) (jI fl) (jI t) (jI p) (jI (F 15)) (jI (x + 1)) h' ∧ CC h' S V' Z D Ln b A N m F ∧ Oc D h h' ∧ Sm [93, 97] V V' ∧ (∀ s, 3 ≤ s → V' 93 s = V 93 s) ∧
      (∀ d, d < F 12 → ∀ q, q < 32 → (bitI (V' 97 (st + d)) q = true ↔ bitI (V 97 (st + d)) q = true ∨ (q = x % F 15 ∧ ∃ e, c ≤ e ∧ e < F 12 ∧ bitI (V 97 (st - F 12 + e)) q = true ∧ ldV A m F e p x = jI d ∧ fitS A m ta tv t by' fl (v1S A m F d p x) = true))) ∧ ∀ i, (i < st ∨ st + F 12 ≤ i) → V' 97 i = V 97 i
  | _, _, 0, _, _, _, hf, _, _, _, _ => by omega
  | 0, c, f + 1, h, V, hk, hf, C, M, T, hv => by
    have h400 := C.2.2.2.1.2.2.2.2.1
    have h27 := C.2.2.2.1.2.2.2.2.2.2.1
    have g0 : gO h (.ref 92) 9 0 = some 3 := gO_of (ltE (by decide)) (C.1.1 92 rfl) rfl
    refine ⟨h, V, ?_, C, Oc.refl, Sm.refl, fun _ _ => rfl, fun d hd q hq => ⟨Or.inl, fun z => z.elim id (fun ⟨_, e, z1, z2, _⟩ => by omega)⟩, fun _ _ => rfl⟩
    show s_X9_moveLane_113_b k75 (s_X9_moveLane_113 k75 f) 92 (jI st) (jI fl) (jI t) (jI p) (jI (F 15)) (jI x) (1 <<< (jI (x % F 15) &&& 31)) (jI c) h = _
    unfold s_X9_moveLane_113_b
    rw [g0, Option.bind_some, C.f12, Option.bind_some, if_pos ((jI_le (by omega) (by omega)).mpr (by omega)), jI_inc]
  | n + 1, c, f + 1, h, V, hk, hf, C, M, T, hv => by
    obtain ⟨X, HM, K, hC, hwd⟩ := id C
    have h400 := hC.2.2.2.2.1
    have h27 := hC.2.2.2.2.2.2.1
    have pos := hC.pos
    have hL := X.lnD (i := 97) rfl
    have hk32 : x % F 15 < 32 := by have := Nat.mod_lt x pos.2.2.1; omega
    have g0 : gO h (.ref 92) 9 0 = some 3 := gO_of (ltE (by decide)) (X.1 92 rfl) rfl
    have g1 : gO h (.ref 92) 9 1 = some 56 := gO_of (ltE (by decide)) (X.1 92 rfl) rfl
    have g8 : gO h (.ref 92) 9 8 = some (D 97) := gO_of (ltE (by decide)) (X.1 92 rfl) rfl
    have lp : ldI .int h (.ref (D 97)) (jI (st - F 12 + c)) = some (V 97 (st - F 12 + c)) := X.ldD (i := 97) rfl (by omega)
    have el := C.leadOf M L (show c < F 12 by omega) hp hx
    obtain ⟨bt, hbt⟩ : ∃ bt : Int32, bt = 1 <<< (jI (x % F 15) &&& 31) := ⟨_, rfl⟩
    rw [← hbt]
    have start : ∀ {y : aO}, (if (V 97 (st - F 12 + c) &&& bt) = 0 then s_X9_moveLane_113 k75 f 92 (jI st) (jI fl) (jI t) (jI p) (jI (F 15)) (jI x) bt (jI (c + 1)) h else if ldV A m F c p x < 0 then s_X9_moveLane_113 k75 f 92 (jI st) (jI fl) (jI t) (jI p) (jI (F 15)) (jI x) bt (jI (c + 1)) h else ((ldI .int h (.ref (D 97)) (jI st + ldV A m F c p x)).bind fun x176 => if (x176 &&& bt) = 0 then (cI (s_X9_agrees 92 (jI t) (ldV A m F c p x) (jI fl) h) fun x188 h188 => if x188 = 0 then s_X9_moveLane_113 k75 f 92 (jI st) (jI fl) (jI t) (jI p) (jI (F 15)) (jI x) bt (jI (c + 1)) h188 else ((gO h188 (.ref 92) 9 8).bind fun x195 => (ldI .int h188 (.ref x195) (jI st + ldV A m F c p x)).bind fun x203 => (stI h188 (.ref x195) (jI st + ldV A m F c p x) (x203 ||| bt)).bind fun h207 => s_X9_moveLane_113 k75 f 92 (jI st) (jI fl) (jI t) (jI p) (jI (F 15)) (jI x) bt (jI (c + 1)) h207)) else s_X9_moveLane_113 k75 f 92 (jI st) (jI fl) (jI t) (jI p) (jI (F 15)) (jI x) bt (jI (c + 1)) h)) = y → s_X9_moveLane_113 k75 (f + 1) 92 (jI st) (jI fl) (jI t) (jI p) (jI (F 15)) (jI x) bt (jI c) h = y := by
      intro y hy
      show s_X9_moveLane_113_b k75 (s_X9_moveLane_113 k75 f) 92 (jI st) (jI fl) (jI t) (jI p) (jI (F 15)) (jI x) bt (jI c) h = _
      unfold s_X9_moveLane_113_b
      rw [g0, Option.bind_some, C.f12, Option.bind_some, if_neg (fun q => by have := (jI_le (by omega) (by omega)).mp q; omega)]
      simp only [g8, g0, g1, C.f12, Option.bind_some, jI_sub hst0, jI_add, lp, jI_inc, kO_of (ltE (show 56 < 1000000 by decide)) (X.1 56 rfl), el, cI, kO_of (ltE (show 92 < 1000000 by decide)) (X.1 92 rfl)]
      exact hy
    have skip : ∀ (h1 : aH) (V1 : Nat → Nat → Int32), CC h1 S V1 Z D Ln b A N m F → Oc D h h1 → Sm [93] V V1 → (∀ s, 3 ≤ s → V1 93 s = V 93 s) → (∀ d, d < F 12 → ¬ (bitI (V 97 (st - F 12 + c)) (x % F 15) = true ∧ ldV A m F c p x = jI d ∧ fitS A m ta tv t by' fl (v1S A m F d p x) = true) ∨ bitI (V 97 (st + d)) (x % F 15) = true) →
        ∃ h' V', s_X9_moveLane_113 k75 f 92 (jI st) (jI fl) (jI t) (jI p) (jI (F 15)) (jI x) bt (jI (c + 1)) h1 = k75 92 (jI st) (jI fl) (jI t) (jI p) (jI (F 15)) (jI (x + 1)) h' ∧ CC h' S V' Z D Ln b A N m F ∧ Oc D h h' ∧ Sm [93, 97] V V' ∧ (∀ s, 3 ≤ s → V' 93 s = V 93 s) ∧
          (∀ d, d < F 12 → ∀ q, q < 32 → (bitI (V' 97 (st + d)) q = true ↔ bitI (V 97 (st + d)) q = true ∨ (q = x % F 15 ∧ ∃ e, c ≤ e ∧ e < F 12 ∧ bitI (V 97 (st - F 12 + e)) q = true ∧ ldV A m F e p x = jI d ∧ fitS A m ta tv t by' fl (v1S A m F d p x) = true))) ∧ ∀ i, (i < st ∨ st + F 12 ≤ i) → V' 97 i = V 97 i := by
      intro h1 V1 C1 O1 M1 w1 zz
      have e97 : V1 97 = V 97 := M1 97 (by decide)
      obtain ⟨h', V', ih, i1, i2, i3, i4, i5, i6⟩ := mv113_go ht hfl hok hby hp hx hst0 hst L (k75 := k75) n (c + 1) f h1 V1 (by omega) (by omega) C1 (M.sm (M1 58 (by decide)) (M1 59 (by decide))) (T.sm (M1 96 (by decide)) (M1 95 (by decide))) (fun s s3 hs => by rw [w1 s s3]; exact hv s s3 hs)
      rw [← hbt] at ih
      rw [e97] at i5 i6
      refine ⟨h', V', ih, i1, O1.trans i2, (M1.mono (by decide)).trans i3, fun s s3 => by rw [i4 s s3, w1 s s3], fun d hd q hq => (i5 d hd q hq).trans ⟨?_, ?_⟩, i6⟩
      · rintro (v | ⟨v, e, v1, v2, v3⟩)
        · exact Or.inl v
        · exact Or.inr ⟨v, e, by omega, v2, v3⟩
      · rintro (v | ⟨v, e, v1, v2, v3⟩)
        · exact Or.inl v
        · by_cases u : e = c
          · rw [u] at v3
            rcases zz d hd with w | w
            · exact absurd (by rw [v] at v3; exact v3) w
            · exact Or.inl (by rw [v]; exact w)
          · exact Or.inr ⟨v, e, by omega, v2, v3⟩
    by_cases z1 : bitI (V 97 (st - F 12 + c)) (x % F 15) = true
    · have z1' : ¬ (V 97 (st - F 12 + c) &&& bt) = 0 := fun u => by rw [hbt, and_b1 hk32, z1] at u; cases u
      rcases ldV_is K hC c p x with y | ⟨d, y, hd⟩
      · obtain ⟨h', V', ih, r⟩ := skip h V C Oc.refl Sm.refl (fun _ _ => rfl) (fun d hd => Or.inl (fun u => by rw [y] at u; exact absurd u.2.1.symm (jI_m2 (by omega))))
        exact ⟨h', V', start (by rw [if_neg z1', if_pos (by rw [y]; decide)]; exact ih), r⟩
      · have y0 : ¬ ldV A m F c p x < 0 := by rw [y]; exact jI_neg (by omega)
        have l1 : ldI .int h (.ref (D 97)) (jI (st + d)) = some (V 97 (st + d)) := X.ldD (i := 97) rfl (by omega)
        have uq : ∀ d', d' < F 12 → ldV A m F c p x = jI d' → d' = d := fun d' hd' e => by
          rw [y] at e
          exact ((jI_inj (by omega) (by omega)).mp e).symm
        by_cases z2 : bitI (V 97 (st + d)) (x % F 15) = true
        · have z2' : ¬ (V 97 (st + d) &&& bt) = 0 := fun u => by rw [hbt, and_b1 hk32, z2] at u; cases u
          obtain ⟨h', V', ih, r⟩ := skip h V C Oc.refl Sm.refl (fun _ _ => rfl) (fun d' hd' => by
            by_cases e : d' = d
            · rw [e]; exact Or.inr z2
            · exact Or.inl (fun u => e (uq d' hd' u.2.1)))
          exact ⟨h', V', start (by rw [if_neg z1', if_neg y0, y, jI_add, l1, Option.bind_some, if_neg z2']; exact ih), r⟩
        · have z2' : (V 97 (st + d) &&& bt) = 0 := by
            rw [hbt, and_b1 hk32]
            cases u : bitI (V 97 (st + d)) (x % F 15) with
            | false => rfl
            | true => exact absurd u z2
          obtain ⟨h1, V1, e1, C1, O1, M1, w1⟩ := CC.agrees (t := t) (c := d) (vv := v1S A m F d p x) ht hfl hok (fun s hs => v1S_0 K.1.1 hs) hby C T (fun s s3 hs => by rw [hv s s3 hs]; exact v1S_3 K.1.1 s3)
          cases z3 : fitS A m ta tv t by' fl (v1S A m F d p x) with
          | false =>
            obtain ⟨h', V', ih, r⟩ := skip h1 V1 C1 O1 M1 w1 (fun d' hd' => Or.inl (fun u => by
              have e := uq d' hd' u.2.1
              rw [e, z3] at u
              cases u.2.2))
            refine ⟨h', V', start ?_, r⟩
            rw [if_neg z1', if_neg y0, y, jI_add, l1, Option.bind_some, if_pos z2', e1, z3]
            simp only [cI]
            rw [if_pos b01_f]
            exact ih
          | true =>
            have G8 : gO h1 (.ref 92) 9 8 = some (D 97) := gO_of (ltE (by decide)) (C1.1.1 92 rfl) rfl
            have e97 : V1 97 = V 97 := M1 97 (by decide)
            have l2 : ldI .int h1 (.ref (D 97)) (jI (st + d)) = some (V 97 (st + d)) := by
              rw [← e97]
              exact C1.1.ldD (i := 97) rfl (by omega)
            obtain ⟨h2, e2, X2, O2⟩ := C1.1.stD (i := 97) (j := st + d) rfl (by omega) (V 97 (st + d) ||| bt)
            have C2 := C1.to X2 O2 rfl
            have V2M : Sm [93, 97] V (upd2 V1 97 (upd (V1 97) (st + d) (V 97 (st + d) ||| bt))) := (M1.mono (by decide)).upd (by decide)
            obtain ⟨h', V', ih, i1, i2, i3, i4, i5, i6⟩ := mv113_go ht hfl hok hby hp hx hst0 hst L (k75 := k75) n (c + 1) f h2 _ (by omega) (by omega) C2 (M.sm (V2M 58 (by decide)) (V2M 59 (by decide))) (T.sm (V2M 96 (by decide)) (V2M 95 (by decide))) (fun s s3 hs => by rw [upd2_ne (by decide), w1 s s3]; exact hv s s3 hs)
            rw [← hbt] at ih
            rw [upd2_eq, e97] at i5 i6
            refine ⟨h', V', start ?_, i1, (O1.trans O2).trans i2, V2M.trans i3, fun s s3 => by rw [i4 s s3, upd2_ne (by decide), w1 s s3], fun d' hd' q hq => (i5 d' hd' q hq).trans ?_, fun i hi => by rw [i6 i hi, upd_ne (by omega)]⟩
            · rw [if_neg z1', if_neg y0, y, jI_add, l1, Option.bind_some, if_pos z2', e1, z3]
              simp only [cI]
              rw [if_neg (show ¬ b01 true = 0 by decide), G8, Option.bind_some, l2, Option.bind_some, e2, Option.bind_some]
              exact ih
            · have pe : ∀ e, e < F 12 → upd (V 97) (st + d) (V 97 (st + d) ||| bt) (st - F 12 + e) = V 97 (st - F 12 + e) := fun e he => upd_ne (by omega)
              have re : (∃ e, c + 1 ≤ e ∧ e < F 12 ∧ bitI (upd (V 97) (st + d) (V 97 (st + d) ||| bt) (st - F 12 + e)) q = true ∧ ldV A m F e p x = jI d' ∧ fitS A m ta tv t by' fl (v1S A m F d' p x) = true) ↔ ∃ e, c + 1 ≤ e ∧ e < F 12 ∧ bitI (V 97 (st - F 12 + e)) q = true ∧ ldV A m F e p x = jI d' ∧ fitS A m ta tv t by' fl (v1S A m F d' p x) = true := by
                constructor
                · rintro ⟨e, v1, v2, v3⟩
                  rw [pe e v2] at v3
                  exact ⟨e, v1, v2, v3⟩
                · rintro ⟨e, v1, v2, v3⟩
                  refine ⟨e, v1, v2, ?_⟩
                  rw [pe e v2]
                  exact v3
              rw [re]
              have eb : bitI (upd (V 97) (st + d) (V 97 (st + d) ||| bt) (st + d')) q = true ↔ bitI (V 97 (st + d')) q = true ∨ (d' = d ∧ q = x % F 15) := by
                by_cases u : d' = d
                · rw [u, upd_eq, hbt, bitI_or1 hk32 hq, Bool.or_eq_true, decide_eq_true_eq]
                  exact or_congr Iff.rfl ⟨fun v => ⟨rfl, v⟩, fun v => v.2⟩
                · rw [upd_ne (by omega)]
                  exact ⟨Or.inl, fun v => v.elim id (fun v => absurd v.1 u)⟩
              rw [eb]
              constructor
              · rintro ((v | ⟨v1, v2⟩) | ⟨v, e, v1, v2, v3⟩)
                · exact Or.inl v
                · exact Or.inr ⟨v2, c, Nat.le_refl _, by omega, by rw [v2]; exact z1, by rw [v1]; exact y, by rw [v1]; exact z3⟩
                · exact Or.inr ⟨v, e, by omega, v2, v3⟩
              · rintro (v | ⟨v, e, v1, v2, v3⟩)
                · exact Or.inl (Or.inl v)
                · by_cases u : e = c
                  · rw [u] at v3
                    exact Or.inl (Or.inr ⟨uq d' hd' v3.2.1, v⟩)
                  · exact Or.inr ⟨v, e, by omega, v2, v3⟩
    · have z1' : (V 97 (st - F 12 + c) &&& bt) = 0 := by
        rw [hbt, and_b1 hk32]
        cases u : bitI (V 97 (st - F 12 + c)) (x % F 15) with
        | false => rfl
        | true => exact absurd u z1
      obtain ⟨h', V', ih, r⟩ := skip h V C Oc.refl Sm.refl (fun _ _ => rfl) (fun d hd => Or.inl (fun u => z1 u.1))
      exact ⟨h', V', start (by rw [if_pos z1']; exact ih), r⟩
theorem mv75_go {ta tv : Nat → Int32} {by' : Int32} {fl t p st : Nat} (ht : t ≤ 30) (hfl : fl ≤ 100) (hok : ∀ j, j < 62 → ta j = -1 ∨ 0 ≤ ta j) (hby : S 92 10 = by') (hp : p < F 13) (hst0 : F 12 ≤ st) (hst : st + F 12 ≤ Ln 97) (L : lenMv Ln F) : ∀ (n x f : Nat) (h : aH) (V : Nat → Nat → Int32), x + n = F 14 → n < f → CC h S V Z D Ln b A N m F → okMv V A m F → okTl V ta tv → (∀ s, 3 ≤ s → s < 5 → decl m s → V 93 s = v1S A m F 0 p 0 s) →
    ∃ h' V', s_X9_moveLane_75 f 92 (jI st) (jI fl) (jI t) (jI p) (jI (F 15)) (jI x) h = some (.inl none, h') ∧ CC h' S V' Z D Ln b A N m F ∧ Oc D h h' ∧ Sm [93, 97] V V' ∧
      (∀ d, d < F 12 → ∀ q, q < 32 → (bitI (V' 97 (st + d)) q = true ↔ bitI (V 97 (st + d)) q = true ∨ ∃ y, x ≤ y ∧ y < F 14 ∧ q = y % F 15 ∧ ∃ e, e < F 12 ∧ bitI (V 97 (st - F 12 + e)) q = true ∧ ldV A m F e p y = jI d ∧ fitS A m ta tv t by' fl (v1S A m F d p y) = true)) ∧ ∀ i, (i < st ∨ st + F 12 ≤ i) → V' 97 i = V 97 i
  | _, _, 0, _, _, _, hf, _, _, _, _ => by omega
  | 0, x, f + 1, h, V, hk, hf, C, M, T, hv => by
    have h27 := C.2.2.2.1.2.2.2.2.2.2.1
    have g0 : gO h (.ref 92) 9 0 = some 3 := gO_of (ltE (by decide)) (C.1.1 92 rfl) rfl
    refine ⟨h, V, ?_, C, Oc.refl, Sm.refl, fun d hd q hq => ⟨Or.inl, fun z => z.elim id (fun ⟨y, z1, z2, _⟩ => by omega)⟩, fun _ _ => rfl⟩
    show s_X9_moveLane_75_b (s_X9_moveLane_75 f) 92 (jI st) (jI fl) (jI t) (jI p) (jI (F 15)) (jI x) h = _
    unfold s_X9_moveLane_75_b
    rw [g0, Option.bind_some, C.f14, Option.bind_some, if_pos ((jI_le (by omega) (by omega)).mpr (by omega))]
  | n + 1, x, f + 1, h, V, hk, hf, C, M, T, hv => by
    obtain ⟨X, HM, K, hC, hwd⟩ := id C
    have h27 := hC.2.2.2.2.2.2.1
    have h400 := hC.2.2.2.2.1
    have pos := hC.pos
    obtain ⟨k0, k1, k2, k3, -⟩ := K.1.1
    have g0 : gO h (.ref 92) 9 0 = some 3 := gO_of (ltE (by decide)) (X.1 92 rfl) rfl
    have g3 : gO h (.ref 92) 9 3 = some 93 := gO_of (ltE (by decide)) (X.1 92 rfl) rfl
    obtain ⟨h1, e1, C1, O1⟩ := C.sprW (a := 93) rfl rfl (jI x) 0
    have hv1 : ∀ s, 3 ≤ s → decl m s → upd2 V 93 (spW A m (jI (F 15)) 0 (jI x) (V 93)) 93 s = v1S A m F 0 p x s := fun s s3 hs => by
      rw [upd2_eq]
      unfold v1S spM spW
      by_cases q7 : 7 ≤ s ∧ s < 7 + m 3
      · exact spr_in A 0 7 (m 3) _ _ _ s q7.1 q7.2
      · rw [spr_out A 0 7 (m 3) _ _ s (by omega), spr_out A 0 7 (m 3) _ _ s (by omega)]
        by_cases q5 : 5 ≤ s ∧ s < 5 + m 2
        · exact spr_in A 0 5 (m 2) _ _ _ s q5.1 q5.2
        · rw [spr_out A 0 5 (m 2) _ _ s (by omega), spr_out A 0 5 (m 2) _ _ s (by omega), hv s s3 (by unfold decl at hs; omega) hs]
          unfold v1S spM spW
          rw [spr_out A 0 7 (m 3) _ _ s (by omega), spr_out A 0 5 (m 2) _ _ s (by omega)]
    obtain ⟨h2, V2, e2, C2, O2, M2, w2, a2, b2⟩ := mv113_go ht hfl hok hby hp (show x < F 14 by omega) hst0 hst L (k75 := s_X9_moveLane_75 f) (F 12) 0 FU h1 _ (by omega) (by unfold FU; omega) C1 (M.sm (upd2_ne (by decide)) (upd2_ne (by decide))) (T.sm (upd2_ne (by decide)) (upd2_ne (by decide))) hv1
    rw [upd2_ne (by decide)] at a2 b2
    have M02 : Sm [93, 97] V V2 := (Sm.refl.upd (by decide)).trans M2
    obtain ⟨h', V', ih, i1, i2, i3, i4, i5⟩ := mv75_go ht hfl hok hby hp hst0 hst L n (x + 1) f h2 V2 (by omega) (by omega) C2 (M.sm (M02 58 (by decide)) (M02 59 (by decide))) (T.sm (M02 96 (by decide)) (M02 95 (by decide))) (fun s s3 s5 hs => by
      rw [w2 s s3, upd2_eq]
      unfold spW
      rw [spr_out A 0 7 (m 3) _ _ s (by omega), spr_out A 0 5 (m 2) _ _ s (by omega)]
      exact hv s s3 s5 hs)
    refine ⟨h', V', ?_, i1, (O1.trans O2).trans i2, M02.trans i3, fun d hd q hq => (i4 d hd q hq).trans ?_, fun i hi => by rw [i5 i hi, b2 i hi]⟩
    · show s_X9_moveLane_75_b (s_X9_moveLane_75 f) 92 (jI st) (jI fl) (jI t) (jI p) (jI (F 15)) (jI x) h = _
      unfold s_X9_moveLane_75_b
      have e2' : s_X9_moveLane_113 (s_X9_moveLane_75 f) FU 92 (jI st) (jI fl) (jI t) (jI p) (jI (F 15)) (jI x) (1 <<< (jI (x % F 15) &&& 31)) 0 h1 = _ := e2
      rw [g0, Option.bind_some, C.f14, Option.bind_some, if_neg (fun q => by have := (jI_le (by omega) (by omega)).mp q; omega), Option.bind_some, g3, Option.bind_some, C.kO3, e1]
      simp only [cN]
      rw [nz_of (fun z => by have := (jI_inj (k := 0) (by omega) (by omega)).mp z; omega), jI_mod (by omega) pos.2.2.1 (by omega), e2']
      exact ih
    · have pv : ∀ e, e < F 12 → V2 97 (st - F 12 + e) = V 97 (st - F 12 + e) := fun e he => b2 _ (Or.inl (by omega))
      rw [a2 d hd q hq]
      constructor
      · rintro ((v | ⟨v1, e, _, v2, v3⟩) | ⟨y, v1, v2, v3, e, v4, v5⟩)
        · exact Or.inl v
        · exact Or.inr ⟨x, Nat.le_refl _, by omega, v1, e, v2, v3⟩
        · rw [pv e v4] at v5
          exact Or.inr ⟨y, by omega, v2, v3, e, v4, v5⟩
      · rintro (v | ⟨y, v1, v2, v3, e, v4, v5⟩)
        · exact Or.inl (Or.inl v)
        · by_cases u : y = x
          · rw [u] at v3 v5
            exact Or.inl (Or.inr ⟨v3, e, Nat.zero_le _, v4, v5⟩)
          · refine Or.inr ⟨y, by omega, v2, v3, e, v4, ?_⟩
            rw [pv e v4]
            exact v5
/-- a lane's row at a tick -/
def okLa (V : Nat → Nat → Int32) (A : Nat → Nat → Int32) (m F : Nat → Nat) (good : Nat → Bool) (tp ta tv : Nat → Int32) (by' : Int32) (fl st e : Nat) : Prop := ∀ c, c < F 12 → ∀ q, q < 32 → bitI (V 97 (st + c)) q = (decide (q < F 15) && wS A m F good tp ta tv by' fl q e c)
theorem CC.moveLane {ta tv tp : Nat → Int32} {by' : Int32} {fl t st : Nat} {good : Nat → Bool} (ht : t + 1 ≤ 30) (hfl : fl ≤ 100) (hok : ∀ j, j < 62 → ta j = -1 ∨ 0 ≤ ta j) (hby : S 92 10 = by') (hst0 : F 12 ≤ st) (hst : st + F 12 ≤ Ln 97) (L : lenMv Ln F) {h : aH} {V : Nat → Nat → Int32} (C : CC h S V Z D Ln b A N m F) (M : okMv V A m F) (T : okTl V ta tv) (htp : V 94 (t + 1) = tp (t + 1)) (hpq : ∃ q, tp (t + 1) = jI q ∧ q < F 13) (hz : ∀ d, d < F 12 → V 97 (st + d) = 0) (hpr : okLa V A m F good tp ta tv by' fl (st - F 12) t) :
    ∃ h' V', s_X9_moveLane 92 (jI st) (jI fl) (jI (t + 1)) h = some (.inl none, h') ∧ CC h' S V' Z D Ln b A N m F ∧ Oc D h h' ∧ Sm [93, 97] V V' ∧ okLa V' A m F good tp ta tv by' fl st (t + 1) ∧ ∀ i, (i < st ∨ st + F 12 ≤ i) → V' 97 i = V 97 i := by
  obtain ⟨X, HM, K, hC, hwd⟩ := id C
  obtain ⟨k0, k1, k2, k3, -⟩ := id K.1.1
  have pos := hC.pos
  have h9 := hC.2.2.2.2.2.1
  have h27 := hC.2.2.2.2.2.2.1
  obtain ⟨pq, pe, pl⟩ := hpq
  have hp := pf_lt K hC (fl := fl) pe pl
  obtain ⟨p, hpd⟩ : ∃ p, p = pfS A m tp (t + 1) fl := ⟨_, rfl⟩
  rw [← hpd] at hp
  have g5 : gO h (.ref 92) 9 5 = some 94 := gO_of (ltE (by decide)) (X.1 92 rfl) rfl
  have g0 : gO h (.ref 92) 9 0 = some 3 := gO_of (ltE (by decide)) (X.1 92 rfl) rfl
  have g3 : gO h (.ref 92) 9 3 = some 93 := gO_of (ltE (by decide)) (X.1 92 rfl) rfl
  have l94 : ldI .int h (.ref 94) (jI (t + 1)) = some (jI pq) := by
    rw [← pe, ← htp]
    exact X.ld (a := 94) rfl (show t + 1 < 31 by omega)
  have l1 : ldI .int h (.ref (3 + 1)) 1 = some (jI (m 1)) := (K.1.2.1 1 (by decide)) ▸ HM.ldmn (s := 1) (by decide)
  obtain ⟨h1, V1, e1, C1, O1, M1⟩ : ∃ h1 V1, s_X9_moveLane 92 (jI st) (jI fl) (jI (t + 1)) h = s_X9_moveLane_44 92 (jI st) (jI fl) (jI (t + 1)) (jI p) h1 ∧ CC h1 S V1 Z D Ln b A N m F ∧ Oc D h h1 ∧ Sm [93] V V1 := by
    by_cases z : 1 ≤ fl ∧ fl ≤ m 1
    · obtain ⟨r1, r2, r3⟩ := C.r9 (a := 93) rfl rfl
      have ef := failing_at HM K.1 r2 r3 r1 (jI pq) (i := fl - 1) (by omega)
      rw [pf_idx K hC (tp := tp) (t := t + 1) pe pl z, ← hpd] at ef
      have rr := C.set9 (a := 93) rfl rfl (failV A m (jI pq) (fl - 1) (V 93))
      refine ⟨_, _, ?_, rr.1, rr.2, Sm.refl.upd (by decide)⟩
      unfold s_X9_moveLane
      rw [g5, Option.bind_some, l94, Option.bind_some, if_neg (fun u => by have := (jI_lt (k := 1) (by omega) (by omega)).mp u; omega), g0, Option.bind_some, HM.mn, Option.bind_some, l1, Option.bind_some, if_neg (fun u => by have := (jI_lt (by omega) (by omega)).mp u; omega), Option.bind_some, g3, Option.bind_some, HM.kO, jI_dec (by omega), ef]
      rfl
    · refine ⟨h, V, ?_, C, Oc.refl, Sm.refl⟩
      have ep : jI pq = jI p := by
        rw [hpd]
        unfold pfS
        rw [if_neg z, pe, jI_cl (by omega)]
      unfold s_X9_moveLane
      rw [g5, Option.bind_some, l94, Option.bind_some, ep]
      by_cases z1 : fl = 0
      · rw [if_pos (show jI fl < (1 : Int32) from (jI_lt (j := fl) (k := 1) (by omega) (by omega)).mpr (by omega))]
      · rw [if_neg (fun u => by have := (jI_lt (k := 1) (by omega) (by omega)).mp u; omega), g0, Option.bind_some, HM.mn, Option.bind_some, l1, Option.bind_some, if_pos ((jI_lt (by omega) (by omega)).mpr (by omega))]
  have G0 : gO h1 (.ref 92) 9 0 = some 3 := gO_of (ltE (by decide)) (C1.1.1 92 rfl) rfl
  have G3 : gO h1 (.ref 92) 9 3 = some 93 := gO_of (ltE (by decide)) (C1.1.1 92 rfl) rfl
  obtain ⟨h2, e2, C2, O2⟩ := C1.spr (a := 93) rfl rfl (k := 1) (by decide) (jI p)
  have e2' : s_X2_spread 3 1 (jI p) 0 93 h1 = some (.inl none, h2) := e2
  have H0 : gO h2 (.ref 92) 9 0 = some 3 := gO_of (ltE (by decide)) (C2.1.1 92 rfl) rfl
  have M02 : Sm [93, 97] V (upd2 V1 93 (sprGo A 0 (baseN 1) (m 1) (jI p) (V1 93))) := (M1.mono (by decide)).upd (by decide)
  obtain ⟨h', V', ih, i1, i2, i3, i4, i5⟩ := mv75_go ht hfl hok hby hp hst0 hst L (F 14) 0 FU h2 _ (by omega) (by unfold FU; omega) C2 (M.sm (M02 58 (by decide)) (M02 59 (by decide))) (T.sm (M02 96 (by decide)) (M02 95 (by decide))) (fun s s3 s5 hs => by
    rw [upd2_eq]
    show sprGo A 0 3 (m 1) (jI p) (V1 93) s = _
    unfold v1S spM spW
    rw [spr_out A 0 7 (m 3) _ _ s (by omega), spr_out A 0 5 (m 2) _ _ s (by omega)]
    exact spr_in A 0 3 (m 1) _ _ _ s s3 (by unfold decl at hs; omega))
  have e97 : ∀ i, upd2 V1 93 (sprGo A 0 (baseN 1) (m 1) (jI p) (V1 93)) 97 i = V 97 i := fun i => by rw [upd2_ne (by decide), M1 97 (by decide)]
  refine ⟨h', V', ?_, i1, (O1.trans O2).trans i2, M02.trans i3, fun d hd q hq => ?_, fun i hi => by rw [i5 i hi, e97]⟩
  · rw [e1]
    unfold s_X9_moveLane_44
    have ih' : s_X9_moveLane_75 FU 92 (jI st) (jI fl) (jI (t + 1)) (jI p) (jI (F 15)) 0 h2 = _ := ih
    rw [G0, Option.bind_some, G3, Option.bind_some, C1.kO3, e2']
    simp only [cN, H0, C2.f15, Option.bind_some]
    rw [jmax1_N pos.2.2.1 (by omega)]
    exact ih'
  · apply Bool_ext
    rw [i4 d hd q hq, e97, hz d hd, bitI_00 hq, Bool.and_eq_true, decide_eq_true_eq]
    show _ ↔ q < F 15 ∧ anyR (fun c' => wS A m F good tp ta tv by' fl q t c' && anyR (fun w => decide (ldV A m F c' (pfS A m tp (t + 1) fl) (w * F 15 + q) = jI d) && fitS A m ta tv (t + 1) by' fl (v1S A m F d (pfS A m tp (t + 1) fl) (w * F 15 + q))) 0 (F 14 / F 15)) 0 (F 12) = true
    rw [← hpd, anyR_iff]
    have dv : F 14 / F 15 = prtN A 0 5 (m 2) := by rw [hC.2.2.2.1, Nat.mul_div_cancel _ pos.2.2.1]
    constructor
    · rintro (v | ⟨y, _, v2, v3, e, v4, v5, v6, v7⟩)
      · cases v
      · have hm := Nat.mod_lt y pos.2.2.1
        rw [e97, hpr e v4 q hq, Bool.and_eq_true, decide_eq_true_eq] at v5
        refine ⟨v5.1, e, Nat.zero_le _, by omega, ?_⟩
        show (wS A m F good tp ta tv by' fl q t e && _) = true
        rw [Bool.and_eq_true, anyR_iff]
        have ey : y / F 15 * F 15 + q = y := by
          rw [v3, Nat.mul_comm]
          exact Nat.div_add_mod y (F 15)
        refine ⟨v5.2, y / F 15, Nat.zero_le _, ?_, ?_⟩
        · rw [Nat.zero_add, dv]
          have := hC.2.2.2.1
          rw [this] at v2
          exact (Nat.div_lt_iff_lt_mul pos.2.2.1).mpr v2
        · rw [ey, Bool.and_eq_true, decide_eq_true_eq]
          exact ⟨v6, v7⟩
    · rintro ⟨v1, e, _, v2, v3⟩
      rw [Nat.zero_add] at v2
      have v3 : (wS A m F good tp ta tv by' fl q t e && _) = true := v3
      rw [Bool.and_eq_true, anyR_iff] at v3
      obtain ⟨v4, w, _, v5, v6⟩ := v3
      rw [Nat.zero_add, dv] at v5
      rw [Bool.and_eq_true, decide_eq_true_eq] at v6
      refine Or.inr ⟨w * F 15 + q, Nat.zero_le _, ?_, ?_, e, v2, ?_, v6⟩
      · rw [hC.2.2.2.1]
        have := Nat.mul_le_mul_right (F 15) (show w + 1 ≤ prtN A 0 5 (m 2) by omega)
        rw [Nat.add_mul] at this
        omega
      · rw [Nat.mul_comm, Nat.mul_add_mod, Nat.mod_eq_of_lt v1]
      · rw [e97, hpr e v2 q hq, v4, decide_eq_true v1]
        rfl
end
