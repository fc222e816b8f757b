/-! lanes begun and moved -/
theorem and_b1 {x : Int32} {k : Nat} (hk : k < 32) : (x &&& ((1 : Int32) <<< (jI k &&& 31))) = 0 ↔ bitI x k = false := by
  have e : (1 : Int32) <<< (jI k &&& 31) = b1 k := by
    have h1 := b1_code k (by omega)
    have h2 := and31_code k (by omega)
    rw [Nat.mod_eq_of_lt hk] at h1 h2
    rw [h2] at h1
    exact h1
  rw [e, and_zero]
  constructor
  · intro h
    have := h k hk
    rw [b1_bit k hk k hk, decide_eq_true rfl, Bool.and_true] at this
    exact this
  · intro h i hi
    rw [b1_bit k hk i hi]
    by_cases q : i = k
    · rw [q]
      unfold bitI at h
      rw [h]
      rfl
    · rw [decide_eq_false q, Bool.and_false]
section
variable {A : Nat → Nat → Int32} {m F : Nat → Nat}
theorem v0S_3 (K : okm m) {c c' k s : Nat} (hs : 3 ≤ s) : v0S A m F c k s = v0S A m F c' k s := by
  obtain ⟨k0, k1, k2, k3, -⟩ := K
  unfold v0S spW
  by_cases q7 : 7 ≤ s ∧ s < 7 + m 3
  · exact spr_in A 0 7 (m 3) _ _ _ s q7.1 q7.2
  · rw [spr_out A 0 7 (m 3) _ _ s (by omega), spr_out A 0 7 (m 3) _ _ s (by omega)]
    by_cases q5 : 5 ≤ s ∧ s < 5 + m 2
    · exact spr_in A 0 5 (m 2) _ _ _ s q5.1 q5.2
    · rw [spr_out A 0 5 (m 2) _ _ s (by omega), spr_out A 0 5 (m 2) _ _ s (by omega), spr_out A 0 0 (m 0) _ _ s (by omega), spr_out A 0 0 (m 0) _ _ s (by omega)]
theorem v0S_0 (K : okm m) {c k s : Nat} (hs : s < m 0) : v0S A m F c k s = sprGo A 0 0 (m 0) (jI c) zV s := by
  obtain ⟨k0, k1, k2, k3, -⟩ := K
  unfold v0S spW
  rw [spr_out A 0 7 (m 3) _ _ s (by omega), spr_out A 0 5 (m 2) _ _ s (by omega)]
theorem v1S_3 (K : okm m) {c c' p x s : Nat} (hs : 3 ≤ s) : v1S A m F c p x s = v1S A m F c' p x s := by
  obtain ⟨k0, k1, k2, k3, -⟩ := K
  unfold v1S spM spW
  by_cases q7 : 7 ≤ s ∧ s < 7 + m 3
  · exact spr_in A 0 7 (m 3) _ _ _ s q7.1 q7.2
  · rw [spr_out A 0 7 (m 3) _ _ s (by omega), spr_out A 0 7 (m 3) _ _ s (by omega)]
    by_cases q5 : 5 ≤ s ∧ s < 5 + m 2
    · exact spr_in A 0 5 (m 2) _ _ _ s q5.1 q5.2
    · rw [spr_out A 0 5 (m 2) _ _ s (by omega), spr_out A 0 5 (m 2) _ _ s (by omega)]
      by_cases q3 : 3 ≤ s ∧ s < 3 + m 1
      · exact spr_in A 0 3 (m 1) _ _ _ s q3.1 q3.2
      · rw [spr_out A 0 3 (m 1) _ _ s (by omega), spr_out A 0 3 (m 1) _ _ s (by omega), spr_out A 0 0 (m 0) _ _ s (by omega), spr_out A 0 0 (m 0) _ _ s (by omega)]
theorem v1S_0 (K : okm m) {c p x s : Nat} (hs : s < m 0) : v1S A m F c p x s = sprGo A 0 0 (m 0) (jI c) zV s := by
  obtain ⟨k0, k1, k2, k3, -⟩ := K
  unfold v1S spM spW
  rw [spr_out A 0 7 (m 3) _ _ s (by omega), spr_out A 0 5 (m 2) _ _ s (by omega), spr_out A 0 3 (m 1) _ _ s (by omega)]
end
section
variable {S : Nat → Nat → Int32} {Z : Nat → Nat → Int64} {D Ln : Nat → Nat} {b : Nat} {A : Nat → Nat → Int32} {N : Nat → Int64} {m F : Nat → Nat}
theorem bl52_go {ta tv : Nat → Int32} {by' : Int32} {fl k st : Nat} {good : Nat → Bool} (hfl : fl ≤ 100) (hok : ∀ j, j < 62 → ta j = -1 ∨ 0 ≤ ta j) (hby : S 92 10 = by') (hk27 : k < 27) (hst : st + F 12 ≤ Ln 97) {k24 : Nat → Int32 → Int32 → Int32 → aH → aO} : ∀ (n c f : Nat) (h : aH) (V : Nat → Nat → Int32), c + n = F 12 → n < f → CC h S V Z D Ln b A N m F → okTl V ta tv → gdC V good → (∀ s, 3 ≤ s → decl m s → V 93 s = v0S A m F 0 k s) →
    ∃ h' V', s_X9_beginLane_52 k24 f 92 (jI st) (jI fl) (jI k) (jI c) h = k24 92 (jI st) (jI fl) (jI (k + 1)) h' ∧ CC h' S V' Z D Ln b A N m F ∧ Oc D h h' ∧ Sm [93, 97] V V' ∧ (∀ s, 3 ≤ s → V' 93 s = V 93 s) ∧
      (∀ d, d < F 12 → ∀ q, q < 32 → (bitI (V' 97 (st + d)) q = true ↔ bitI (V 97 (st + d)) q = true ∨ (q = k ∧ c ≤ d ∧ good d = true ∧ fitS A m ta tv 0 by' fl (v0S A m F d k) = true))) ∧ ∀ i, (i < st ∨ st + F 12 ≤ i) → V' 97 i = V 97 i
  | _, _, 0, _, _, _, hf, _, _, _, _ => by omega
  | 0, c, f + 1, h, V, hk, hf, C, T, hg, hv => by
    have h400 := C.2.2.2.1.2.2.2.2.1
    have g0 : gO h (.ref 92) 9 0 = some 3 := gO_of (ltE (by decide)) (C.1.1 92 rfl) rfl
    refine ⟨h, V, ?_, C, Oc.refl, Sm.refl, fun _ _ => rfl, fun d hd q hq => ⟨Or.inl, fun z => z.elim id (fun z => by omega)⟩, fun _ _ => rfl⟩
    show s_X9_beginLane_52_b k24 (s_X9_beginLane_52 k24 f) 92 (jI st) (jI fl) (jI k) (jI c) h = _
    unfold s_X9_beginLane_52_b
    rw [g0, Option.bind_some, C.f12, Option.bind_some, if_pos ((jI_le (by omega) (by omega)).mpr (by omega)), jI_inc]
  | n + 1, c, f + 1, h, V, hk, hf, C, T, hg, hv => by
    obtain ⟨X, HM, K, hC, hwd⟩ := id C
    have h400 := hC.2.2.2.2.1
    have hL := X.lnD (i := 97) rfl
    have g0 : gO h (.ref 92) 9 0 = some 3 := gO_of (ltE (by decide)) (X.1 92 rfl) rfl
    have g2 : gO h (.ref 92) 9 2 = some 60 := gO_of (ltE (by decide)) (X.1 92 rfl) rfl
    have ig := isGood_at X hg (c := c) (by omega)
    have skip : ∀ (h1 : aH) (V1 : Nat → Nat → Int32), CC h1 S V1 Z D Ln b A N m F → Oc D h h1 → Sm [93] V V1 → (∀ s, 3 ≤ s → V1 93 s = V 93 s) → (good c && fitS A m ta tv 0 by' fl (v0S A m F c k)) = false →
        ∃ h' V', s_X9_beginLane_52 k24 f 92 (jI st) (jI fl) (jI k) (jI (c + 1)) h1 = k24 92 (jI st) (jI fl) (jI (k + 1)) h' ∧ CC h' S V' Z D Ln b A N m F ∧ Oc D h h' ∧ Sm [93, 97] V V' ∧ (∀ s, 3 ≤ s → V' 93 s = V 93 s) ∧
          (∀ d, d < F 12 → ∀ q, q < 32 → (bitI (V' 97 (st + d)) q = true ↔ bitI (V 97 (st + d)) q = true ∨ (q = k ∧ c ≤ d ∧ good d = true ∧ fitS A m ta tv 0 by' fl (v0S A m F d k) = true))) ∧ ∀ i, (i < st ∨ st + F 12 ≤ i) → V' 97 i = V 97 i := by
      intro h1 V1 C1 O1 M1 w1 zz
      obtain ⟨h', V', ih, i1, i2, i3, i4, i5, i6⟩ := bl52_go hfl hok hby hk27 hst (k24 := k24) (good := good) n (c + 1) f h1 V1 (by omega) (by omega) C1 (T.sm (M1 96 (by decide)) (M1 95 (by decide))) (fun d hd => by rw [M1 62 (by decide)]; exact hg d hd) (fun s s3 hs => by rw [w1 s s3]; exact hv s s3 hs)
      have e97 : V1 97 = V 97 := M1 97 (by decide)
      rw [e97] at i5 i6
      refine ⟨h', V', ih, i1, O1.trans i2, (M1.mono (by decide)).trans i3, fun s s3 => by rw [i4 s s3, w1 s s3], fun d hd q hq => (i5 d hd q hq).trans (or_congr Iff.rfl ⟨fun u => ⟨u.1, by omega, u.2.2⟩, fun u => ⟨u.1, ?_, u.2.2⟩⟩), i6⟩
      have : d ≠ c := fun e => by
        rw [e] at u
        rw [u.2.2.1, u.2.2.2] at zz
        cases zz
      omega
    cases z : good c with
    | false =>
      obtain ⟨h', V', ih, r⟩ := skip h V C Oc.refl Sm.refl (fun _ _ => rfl) (by rw [z]; rfl)
      refine ⟨h', V', ?_, r⟩
      show s_X9_beginLane_52_b k24 (s_X9_beginLane_52 k24 f) 92 (jI st) (jI fl) (jI k) (jI c) h = _
      unfold s_X9_beginLane_52_b
      rw [g0, Option.bind_some, C.f12, Option.bind_some, if_neg (fun q => by have := (jI_le (by omega) (by omega)).mp q; omega), g2, Option.bind_some, kO_of (ltE (by decide)) (X.1 60 rfl), ig, z]
      simp only [cI]
      rw [if_pos b01_f, jI_inc]
      exact ih
    | true =>
      obtain ⟨h1, V1, e1, C1, O1, M1, w1⟩ := CC.agrees (t := 0) (c := c) (vv := v0S A m F c k) (Nat.zero_le _) hfl hok (fun s hs => v0S_0 K.1.1 hs) hby C T (fun s s3 hs => by rw [hv s s3 hs]; exact v0S_3 K.1.1 s3)
      have e1' : s_X9_agrees 92 0 (jI c) (jI fl) h = _ := e1
      cases y : fitS A m ta tv 0 by' fl (v0S A m F c k) with
      | false =>
        obtain ⟨h', V', ih, r⟩ := skip h1 V1 C1 O1 M1 w1 (by rw [y, Bool.and_false])
        refine ⟨h', V', ?_, r⟩
        show s_X9_beginLane_52_b k24 (s_X9_beginLane_52 k24 f) 92 (jI st) (jI fl) (jI k) (jI c) h = _
        unfold s_X9_beginLane_52_b
        rw [g0, Option.bind_some, C.f12, Option.bind_some, if_neg (fun q => by have := (jI_le (by omega) (by omega)).mp q; omega), g2, Option.bind_some, kO_of (ltE (by decide)) (X.1 60 rfl), ig, z]
        simp only [cI]
        rw [if_neg (show ¬ b01 true = 0 by decide), kO_of (ltE (by decide)) (X.1 92 rfl), e1', y]
        simp only
        rw [if_pos b01_f, jI_inc]
        exact ih
      | true =>
        have G8 : gO h1 (.ref 92) 9 8 = some (D 97) := gO_of (ltE (by decide)) (C1.1.1 92 rfl) rfl
        have e97 : V1 97 = V 97 := M1 97 (by decide)
        have l97 : ldI .int h1 (.ref (D 97)) (jI (st + c)) = some (V 97 (st + c)) := by
          rw [← e97]
          exact C1.1.ldD (i := 97) rfl (by omega)
        obtain ⟨h2, e2, X2, O2⟩ := C1.1.stD (i := 97) (j := st + c) rfl (by omega) (V 97 (st + c) ||| (1 <<< (jI k &&& 31)))
        have C2 := C1.to X2 O2 rfl
        obtain ⟨h', V', ih, i1, i2, i3, i4, i5, i6⟩ := bl52_go hfl hok hby hk27 hst (k24 := k24) (good := good) n (c + 1) f h2 _ (by omega) (by omega) C2 (T.sm (by rw [upd2_ne (by decide)]; exact M1 96 (by decide)) (by rw [upd2_ne (by decide)]; exact M1 95 (by decide))) (fun d hd => by rw [upd2_ne (by decide), M1 62 (by decide)]; exact hg d hd) (fun s s3 hs => by rw [upd2_ne (by decide), w1 s s3]; exact hv s s3 hs)
        rw [upd2_eq, e97] at i5 i6
        refine ⟨h', V', ?_, i1, (O1.trans O2).trans i2, ((M1.mono (by decide)).upd (by decide)).trans i3, fun s s3 => by rw [i4 s s3, upd2_ne (by decide), w1 s s3], fun d hd q hq => (i5 d hd q hq).trans ?_, fun i hi => by rw [i6 i hi, upd_ne (by omega)]⟩
        · show s_X9_beginLane_52_b k24 (s_X9_beginLane_52 k24 f) 92 (jI st) (jI fl) (jI k) (jI c) h = _
          unfold s_X9_beginLane_52_b
          rw [g0, Option.bind_some, C.f12, Option.bind_some, if_neg (fun q => by have := (jI_le (by omega) (by omega)).mp q; omega), g2, Option.bind_some, kO_of (ltE (by decide)) (X.1 60 rfl), ig, z]
          simp only [cI]
          rw [if_neg (show ¬ b01 true = 0 by decide), kO_of (ltE (by decide)) (X.1 92 rfl), e1', y]
          simp only
          rw [if_neg (show ¬ b01 true = 0 by decide), G8, Option.bind_some, jI_add, l97, Option.bind_some, e2, Option.bind_some, jI_inc]
          exact ih
        · by_cases u : d = c
          · rw [u, upd_eq, bitI_or1 (by omega) hq, Bool.or_eq_true, decide_eq_true_eq]
            constructor
            · rintro ((v | v) | v)
              · exact Or.inl v
              · exact Or.inr ⟨v, Nat.le_refl _, z, y⟩
              · omega
            · rintro (v | v)
              · exact Or.inl (Or.inl v)
              · exact Or.inl (Or.inr v.1)
          · rw [upd_ne (by omega)]
            exact or_congr Iff.rfl ⟨fun v => ⟨v.1, by omega, v.2.2⟩, fun v => ⟨v.1, by omega, v.2.2⟩⟩
theorem bl24_go {ta tv : Nat → Int32} {by' : Int32} {fl st : Nat} {good : Nat → Bool} (hfl : fl ≤ 100) (hok : ∀ j, j < 62 → ta j = -1 ∨ 0 ≤ ta j) (hby : S 92 10 = by') (hst : st + F 12 ≤ Ln 97) : ∀ (n k f : Nat) (h : aH) (V : Nat → Nat → Int32), k + n = F 15 → n < f → CC h S V Z D Ln b A N m F → okTl V ta tv → gdC V good → (∀ s, 3 ≤ s → s < 7 → V 93 s = v0S A m F 0 0 s) →
    ∃ h' V', s_X9_beginLane_24 f 92 (jI st) (jI fl) (jI k) h = some (.inl none, h') ∧ CC h' S V' Z D Ln b A N m F ∧ Oc D h h' ∧ Sm [93, 97] V V' ∧
      (∀ d, d < F 12 → ∀ q, q < 32 → (bitI (V' 97 (st + d)) q = true ↔ bitI (V 97 (st + d)) q = true ∨ (k ≤ q ∧ q < F 15 ∧ good d = true ∧ fitS A m ta tv 0 by' fl (v0S A m F d q) = true))) ∧ ∀ i, (i < st ∨ st + F 12 ≤ i) → V' 97 i = V 97 i
  | _, _, 0, _, _, _, hf, _, _, _, _ => by omega
  | 0, k, f + 1, h, V, hk, hf, C, T, hg, hv => by
    have p := C.2.2.2.1.pos
    have g0 : gO h (.ref 92) 9 0 = some 3 := gO_of (ltE (by decide)) (C.1.1 92 rfl) rfl
    refine ⟨h, V, ?_, C, Oc.refl, Sm.refl, fun d hd q hq => ⟨Or.inl, fun z => z.elim id (fun z => by omega)⟩, fun _ _ => rfl⟩
    show s_X9_beginLane_24_b (s_X9_beginLane_24 f) 92 (jI st) (jI fl) (jI k) h = _
    unfold s_X9_beginLane_24_b
    rw [g0, Option.bind_some, C.f15, Option.bind_some, if_pos ((jI_le (by omega) (by omega)).mpr (by omega))]
  | n + 1, k, f + 1, h, V, hk, hf, C, T, hg, hv => by
    obtain ⟨X, HM, K, hC, hwd⟩ := id C
    have p := hC.pos
    have h400 := hC.2.2.2.2.1
    have g0 : gO h (.ref 92) 9 0 = some 3 := gO_of (ltE (by decide)) (X.1 92 rfl) rfl
    have g3 : gO h (.ref 92) 9 3 = some 93 := gO_of (ltE (by decide)) (X.1 92 rfl) rfl
    obtain ⟨h1, e1, C1, O1⟩ := C.spr (a := 93) rfl rfl (k := 3) (by decide) (jI k)
    have e1' : s_X2_spread 3 3 (jI k) 0 93 h = some (.inl none, h1) := e1
    have hv1 : ∀ s, 3 ≤ s → decl m s → upd2 V 93 (sprGo A 0 (baseN 3) (m 3) (jI k) (V 93)) 93 s = v0S A m F 0 k s := fun s s3 hs => by
      obtain ⟨k0, k1, k2, k3, -⟩ := K.1.1
      rw [upd2_eq]
      show sprGo A 0 7 (m 3) (jI k) (V 93) s = _
      unfold v0S spW
      rw [jmax1_N p.2.2.1 (by omega), jI_mod (by omega) p.2.2.1 (by omega), jI_div (by omega) p.2.2.1 (by omega), Nat.mod_eq_of_lt (show k < F 15 by omega), Nat.div_eq_of_lt (show k < F 15 by omega)]
      by_cases q7 : 7 ≤ s ∧ s < 7 + m 3
      · exact spr_in A 0 7 (m 3) _ _ _ s q7.1 q7.2
      · rw [spr_out A 0 7 (m 3) _ _ s (by omega), spr_out A 0 7 (m 3) _ _ s (by omega)]
        have s7 : s < 7 := by unfold decl at hs; omega
        rw [hv s s3 s7]
        unfold v0S spW
        rw [jmax1_N p.2.2.1 (by omega), jI_mod (by omega) p.2.2.1 (by omega), jI_div (by omega) p.2.2.1 (by omega), Nat.zero_mod, Nat.zero_div, spr_out A 0 7 (m 3) _ _ s (by omega)]
    obtain ⟨h2, V2, e2, C2, O2, M2, w2, a2, b2⟩ := bl52_go hfl hok hby (show k < 27 by omega) hst (k24 := s_X9_beginLane_24 f) (good := good) (F 12) 0 FU h1 _ (by omega) (by unfold FU; omega) C1 (T.sm (upd2_ne (by decide)) (upd2_ne (by decide))) (fun d hd => by rw [upd2_ne (by decide)]; exact hg d hd) hv1
    have M02 : Sm [93, 97] V V2 := (Sm.refl.upd (by decide)).trans M2
    obtain ⟨h', V', ih, i1, i2, i3, i4, i5⟩ := bl24_go hfl hok hby hst (good := good) n (k + 1) f h2 V2 (by omega) (by omega) C2 (T.sm (M02 96 (by decide)) (M02 95 (by decide))) (fun d hd => by rw [M02 62 (by decide)]; exact hg d hd) (fun s s3 s7 => by
      rw [w2 s s3, upd2_eq]
      show sprGo A 0 7 (m 3) (jI k) (V 93) s = _
      rw [spr_out A 0 7 (m 3) _ _ s (by omega)]
      exact hv s s3 s7)
    rw [upd2_ne (by decide)] at a2 b2
    refine ⟨h', V', ?_, i1, (O1.trans O2).trans i2, M02.trans i3, fun d hd q hq => (i4 d hd q hq).trans ?_, fun i hi => by rw [i5 i hi, b2 i hi]⟩
    · show s_X9_beginLane_24_b (s_X9_beginLane_24 f) 92 (jI st) (jI fl) (jI k) h = _
      unfold s_X9_beginLane_24_b
      have e2' : s_X9_beginLane_52 (s_X9_beginLane_24 f) FU 92 (jI st) (jI fl) (jI k) 0 h1 = _ := e2
      rw [g0, Option.bind_some, C.f15, Option.bind_some, if_neg (fun q => by have := (jI_le (by omega) (by omega)).mp q; omega), Option.bind_some, g3, Option.bind_some, C.kO3, e1']
      simp only [cN]
      rw [e2']
      exact ih
    · rw [a2 d hd q hq]
      constructor
      · rintro ((v | ⟨v1, v2, v3, v4⟩) | ⟨v1, v2⟩)
        · exact Or.inl v
        · exact Or.inr ⟨by omega, by omega, v3, by rw [v1]; exact v4⟩
        · exact Or.inr ⟨by omega, v2⟩
      · rintro (v | ⟨v1, v2, v3, v4⟩)
        · exact Or.inl (Or.inl v)
        · by_cases u : q = k
          · exact Or.inl (Or.inr ⟨u, Nat.zero_le _, v3, by rw [← u]; exact v4⟩)
          · exact Or.inr ⟨by omega, v2, v3, v4⟩
theorem CC.beginLane {ta tv tp : Nat → Int32} {by' : Int32} {fl st : Nat} {good : Nat → Bool} (hfl : fl ≤ 100) (hok : ∀ j, j < 62 → ta j = -1 ∨ 0 ≤ ta j) (hby : S 92 10 = by') (hst : st + F 12 ≤ Ln 97) {h : aH} {V : Nat → Nat → Int32} (C : CC h S V Z D Ln b A N m F) (T : okTl V ta tv) (hg : gdC V good) (hz : ∀ d, d < F 12 → V 97 (st + d) = 0) :
    ∃ h' V', s_X9_beginLane 92 (jI st) (jI fl) h = some (.inl none, h') ∧ CC h' S V' Z D Ln b A N m F ∧ Oc D h h' ∧ Sm [93, 97] V V' ∧ (∀ d, d < F 12 → ∀ q, q < 32 → bitI (V' 97 (st + d)) q = (decide (q < F 15) && wS A m F good tp ta tv by' fl q 0 d)) ∧ ∀ i, (i < st ∨ st + F 12 ≤ i) → V' 97 i = V 97 i := by
  obtain ⟨X, HM, K, hC, hwd⟩ := id C
  have p := hC.pos
  have g3 : gO h (.ref 92) 9 3 = some 93 := gO_of (ltE (by decide)) (X.1 92 rfl) rfl
  obtain ⟨h1, e1, C1, O1⟩ := C.fill13 (a := 93) rfl rfl 0
  have G0 : gO h1 (.ref 92) 9 0 = some 3 := gO_of (ltE (by decide)) (C1.1.1 92 rfl) rfl
  have G3 : gO h1 (.ref 92) 9 3 = some 93 := gO_of (ltE (by decide)) (C1.1.1 92 rfl) rfl
  obtain ⟨h2, e2, C2, O2⟩ := C1.spr (a := 93) rfl rfl (k := 2) (by decide) 0
  have e2' : s_X2_spread 3 2 0 0 93 h1 = some (.inl none, h2) := e2
  have M2 : Sm [93, 97] V (upd2 (upd2 V 93 (filF (V 93) 0 (lnC 93) 0)) 93 (sprGo A 0 (baseN 2) (m 2) 0 (upd2 V 93 (filF (V 93) 0 (lnC 93) 0) 93))) := (Sm.refl.upd (by decide)).upd (by decide)
  obtain ⟨h', V', ih, i1, i2, i3, i4, i5⟩ := bl24_go hfl hok hby hst (good := good) (F 15) 0 FU h2 _ (by omega) (by unfold FU; omega) C2 (T.sm (M2 96 (by decide)) (M2 95 (by decide))) (fun d hd => by rw [M2 62 (by decide)]; exact hg d hd) (fun s s3 s7 => by
    obtain ⟨k0, k1, k2, k3, -⟩ := K.1.1
    rw [upd2_eq, upd2_eq]
    show sprGo A 0 5 (m 2) 0 (filF (V 93) 0 9 0) s = _
    unfold v0S spW
    rw [jmax1_N p.2.2.1 (by omega), jI_div (by omega) p.2.2.1 (by omega), Nat.zero_div, spr_out A 0 7 (m 3) _ _ s (by omega)]
    by_cases q5 : 5 ≤ s ∧ s < 5 + m 2
    · exact spr_in A 0 5 (m 2) _ _ _ s q5.1 q5.2
    · rw [spr_out A 0 5 (m 2) _ _ s (by omega), spr_out A 0 5 (m 2) _ _ s (by omega), spr_out A 0 0 (m 0) _ _ s (by omega)]
      unfold filF
      rw [if_pos ⟨Nat.zero_le _, by omega⟩]
      rfl)
  have e97 : ∀ i, upd2 (upd2 V 93 (filF (V 93) 0 (lnC 93) 0)) 93 (sprGo A 0 (baseN 2) (m 2) 0 (upd2 V 93 (filF (V 93) 0 (lnC 93) 0) 93)) 97 i = V 97 i := fun i => by rw [upd2_ne (by decide), upd2_ne (by decide)]
  refine ⟨h', V', ?_, i1, (O1.trans O2).trans i2, M2.trans i3, fun d hd q hq => ?_, fun i hi => by rw [i5 i hi, e97]⟩
  · have ih' : s_X9_beginLane_24 FU 92 (jI st) (jI fl) 0 h2 = _ := ih
    unfold s_X9_beginLane
    rw [g3, Option.bind_some, e1]
    simp only [cN]
    rw [G0, Option.bind_some, G3, Option.bind_some, C1.kO3, e2']
    exact ih'
  · apply Bool_ext
    rw [i4 d hd q hq, e97, hz d hd, bitI_00 hq, Bool.and_eq_true, decide_eq_true_eq]
    show _ ↔ q < F 15 ∧ (decide (d < F 12) && (good d && fitS A m ta tv 0 by' fl (v0S A m F d q))) = true
    rw [Bool.and_eq_true, Bool.and_eq_true, decide_eq_true_eq]
    constructor
    · rintro (v | v)
      · cases v
      · exact ⟨v.2.1, hd, v.2.2⟩
    · intro v
      exact Or.inr ⟨Nat.zero_le _, v.1, v.2.2⟩
end
