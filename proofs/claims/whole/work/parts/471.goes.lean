/-! the reference goes -/
theorem v0S_sm {A : Nat → Nat → Int32} {m F : Nat → Nat} (K : okW A m F) (C : okC A m F) {c k : Nat} (hc : c < 2147483648) (hk : k < 2147483648) : okVs m (v0S A m F c k) := by
  intro s hs
  have hr := K.2.2.1 s hs
  have pos := C.pos
  obtain ⟨k0, k1, k2, k3, -⟩ := K.1.1
  have hd : k / F 15 ≤ k := Nat.div_le_self _ _
  have hm : k % F 15 ≤ k := Nat.mod_le _ _
  unfold v0S spW
  rw [jmax1_N pos.2.2.1 (by omega), jI_mod hk pos.2.2.1 (by omega), jI_div hk pos.2.2.1 (by omega)]
  by_cases q7 : 7 ≤ s ∧ s < 7 + m 3
  · exact spr_sm _ _ _ s (by omega) q7.1 q7.2 hr
  · rw [spr_out A 0 7 (m 3) _ _ s (by omega)]
    by_cases q5 : 5 ≤ s ∧ s < 5 + m 2
    · exact spr_sm _ _ _ s (by omega) q5.1 q5.2 hr
    · rw [spr_out A 0 5 (m 2) _ _ s (by omega)]
      by_cases q0 : s < m 0
      · exact spr_sm _ _ _ s hc (Nat.zero_le _) (by omega) hr
      · rw [spr_out A 0 0 (m 0) _ _ s (by omega)]
        exact (by unfold sm zV; decide)
theorem okVs.agree {m : Nat → Nat} {v v' : Nat → Int32} (h : okVs m v') (ha : agree m v v') : okVs m v := fun s hs => by rw [ha s hs]; exact h s hs
section
variable {S : Nat → Int32} {wd : Int64} {t : Nat} {fv nv : Value} {Z : Nat → Nat → Int64} {A : Nat → Nat → Int32} {m F : Nat → Nat} {B : Nat → Nat → Int32} {W : Nat → Int64} {G : Nat → Nat} {good : Nat → Bool} {tp ta tv : Nat → Int32} {bn fl tick k : Nat}
theorem gz38 {k17 : Nat → Int32 → Int32 → Int32 → Int32 → Int32 → Int32 → Int32 → aH → aO} {a1 a2 a3 a4 a5 a6 a7 : Int32} {h : aH} {V : Nat → Nat → Int32} (C : RC h S wd t fv nv V Z A m F B W G) :
    ∃ h' V', s_X14_goes_38 k17 FU 104 a1 a2 a3 a4 a5 a6 a7 3 h = (kO h' 104 14 (cN (s_X14_worlded 104 a1 h') fun h63 => (gO h63 (.ref 104) 14 63).bind fun x67 => (gO h63 (.ref 104) 14 27).bind fun x73 => (ldI .boolean h63 (.ref x73) a7).bind fun x78 => if x78 = 0 then (s_X14_goes_97 k17 104 a1 a2 a3 a4 a5 a6 a7 a7 x67 h63) else (kO h63 104 14 (cI (s_X14_fitsHere 104 0 a3 a4 h63) fun x87 h87 => if x87 = 0 then (s_X14_goes_97 k17 104 a1 a2 a3 a4 a5 a6 a7 a7 x67 h87) else (s_X14_goes_98 k17 104 a1 a2 a3 a4 a5 a6 a7 1 a7 x67 h87))))) ∧ RC h' S wd t fv nv (upd2 V 148 (upd (upd (V 148) 3 0) 4 0)) Z A m F B W G ∧ Ou h h' ∧ V' = V := by
  have sc : ∀ f, s_X14_goes_38 k17 (f + 1) = s_X14_goes_38_b k17 (s_X14_goes_38 k17 f) := fun f => rfl
  have fu : FU = 999997 + 1 + 1 + 1 := rfl
  have es : ∀ h : aH, s_X14_slotOf 2 h = some (.inl (some (.int 5)), h) := fun h => slotOfR_at h 2 (by decide)
  have g29 : gO h (.ref 104) 14 29 = some 148 := gO_of (ltE (by decide)) C.1.1 rfl
  obtain ⟨h1, e1, X1, O1⟩ := C.1.st (a := 148) (j := 3) rfl rfl (show 3 < 11 by decide) 0
  have e1' : stI h (.ref 148) 3 0 = some h1 := e1
  have C1 := C.to X1 O1
  have g29' : gO h1 (.ref 104) 14 29 = some 148 := gO_of (ltE (by decide)) C1.1.1 rfl
  obtain ⟨h2, e2, X2, O2⟩ := C1.1.st (a := 148) (j := 4) rfl rfl (show 4 < 11 by decide) 0
  have e2' : stI h1 (.ref 148) 4 0 = some h2 := e2
  have C2 := C1.to X2 O2
  rw [upd2_2, upd2_eq] at C2
  refine ⟨h2, V, ?_, C2, O1.trans O2, rfl⟩
  rw [fu, sc]
  unfold s_X14_goes_38_b
  rw [es]
  simp only [cI]
  rw [if_neg (by decide), g29, Option.bind_some, e1', Option.bind_some, sc]
  unfold s_X14_goes_38_b
  rw [es]
  simp only [cI]
  rw [if_neg (by decide), show (3 : Int32) + 1 = 4 by decide, g29', Option.bind_some, e2', Option.bind_some, sc]
  unfold s_X14_goes_38_b
  rw [es]
  simp only [cI]
  rw [if_pos (by decide)]
theorem g17_go (hfl : fl ≤ 100) (hk : k < F 15) {each : Nat} : ∀ (n c f : Nat) (q : Bool) (h : aH) (V : Nat → Nat → Int32), c + n = F 12 → n < f → RC h S wd t fv nv V Z A m F B W G → okTr V ta tv → gdR V (F 12) good → (∀ d, d < c → V 178 d = b01 (wS A m F good tp ta tv (jI bn) fl k 0 d)) →
    ∃ h' V', s_X14_goes_17 f 104 (jI k) (jI tick) (jI bn) (jI fl) (b01 q) (jI each) (jI c) h = s_X14_goes_130 FU 104 (jI k) (jI tick) (jI bn) (jI fl) (b01 (q || anyR (wS A m F good tp ta tv (jI bn) fl k 0) c n)) (jI each) 1 h' ∧ RC h' S wd t fv nv V' Z A m F B W G ∧ Ou h h' ∧ Sm [148, 149, 178] V V' ∧ ∀ d, d < F 12 → V' 178 d = b01 (wS A m F good tp ta tv (jI bn) fl k 0 d)
  | _, _, 0, _, _, _, _, hf, _, _, _, _ => by omega
  | 0, c, f + 1, q, h, V, hn, hf, C, T, hg, hz => by
    have h400 := C.2.2.2.2.2.1.2.2.2.2.1
    refine ⟨h, V, ?_, C, Ou.refl, Sm.refl, fun d hd => hz d (by omega)⟩
    show s_X14_goes_17_b (s_X14_goes_17 f) 104 (jI k) (jI tick) (jI bn) (jI fl) (b01 q) (jI each) (jI c) h = s_X14_goes_130 FU 104 (jI k) (jI tick) (jI bn) (jI fl) (b01 (q || false)) (jI each) 1 h
    unfold s_X14_goes_17_b
    rw [C.g20, Option.bind_some, if_pos ((jI_le (by omega) (by omega)).mpr (by omega)), Bool.or_false]
  | n + 1, c, f + 1, q, h, V, hn, hf, C, T, hg, hz => by
    obtain ⟨X, HT, hot, sim, K, hC, -⟩ := id C
    have h400 := hC.2.2.2.2.1
    have pos := hC.pos
    obtain ⟨k0, k1, k2, k3, k4⟩ := K.1.1
    obtain ⟨h1, e1, C1, O1⟩ := C.lays (jI c)
    have es : s_X14_slotOf 1 h1 = some (.inl (some (.int 3)), h1) := slotOfR_at h1 1 (by decide)
    obtain ⟨h2, -, e2, C2, O2, -⟩ := gz38 (k17 := s_X14_goes_17 f) (a1 := jI k) (a2 := jI tick) (a3 := jI bn) (a4 := jI fl) (a5 := b01 q) (a6 := jI each) (a7 := jI c) C1
    rw [upd2_2, upd2_eq] at C2
    obtain ⟨h3, e3, C3, O3⟩ := C2.worlded (w := k) (by omega)
    rw [upd2_2, upd2_eq] at C3
    obtain ⟨v, hv⟩ : ∃ v, v = spW A m (jI (F 15)) 0 (jI k) (upd (upd (sprGo A 0 0 (m 0) (jI c) (V 148)) 3 0) 4 0) := ⟨_, rfl⟩
    rw [← hv] at C3
    have av : agree m v (v0S A m F c k) := fun s hs => by
      rw [hv]
      unfold v0S spW
      by_cases q7 : 7 ≤ s ∧ s < 7 + m 3
      · exact spr_in A 0 7 (m 3) _ _ _ s q7.1 q7.2
      · rw [spr_out A 0 7 (m 3) _ _ s (by omega), spr_out A 0 7 (m 3) _ _ s (by omega)]
        by_cases q5 : 5 ≤ s ∧ s < 5 + m 2
        · exact spr_in A 0 5 (m 2) _ _ _ s q5.1 q5.2
        · rw [spr_out A 0 5 (m 2) _ _ s (by omega), spr_out A 0 5 (m 2) _ _ s (by omega)]
          by_cases q0 : s < m 0
          · rw [upd_ne (by omega), upd_ne (by omega)]
            exact spr_in A 0 0 (m 0) _ _ _ s (Nat.zero_le _) (by omega)
          · have s34 : s = 3 ∨ s = 4 := by unfold decl at hs; omega
            rw [spr_out A 0 0 (m 0) _ _ s (by omega)]
            rcases s34 with rfl | rfl
            · rw [upd_ne (by decide), upd_eq]
              rfl
            · rw [upd_eq]
              rfl
    have O13 := (O1.trans O2).trans O3
    have M3 : Sm [148, 149, 178] V (upd2 V 148 v) := Sm.refl.upd (by decide)
    have g63 : gO h3 (.ref 104) 14 63 = some 178 := gO_of (ltE (by decide)) C3.1.1 rfl
    have g27 : gO h3 (.ref 104) 14 27 = some 146 := gO_of (ltE (by decide)) C3.1.1 rfl
    have l146 : ldI .boolean h3 (.ref 146) (jI c) = some (b01 (good c)) := by
      have := C3.1.ld (a := 146) (j := c) rfl (show c < 400 by omega)
      rw [upd2_ne (by decide), hg c (by omega)] at this
      exact this
    have ws : wS A m F good tp ta tv (jI bn) fl k 0 c = (good c && fitS A m ta tv 0 (jI bn) fl (v0S A m F c k)) := by
      show (decide (c < F 12) && (good c && fitS A m ta tv 0 (jI bn) fl (v0S A m F c k))) = _
      rw [decide_eq_true (show c < F 12 by omega), Bool.true_and]
    have fin : ∀ (h4 : aH) (V4 : Nat → Nat → Int32), RC h4 S wd t fv nv V4 Z A m F B W G → Ou h h4 → Sm [148, 149, 178] V V4 → (∀ d, d < c → V4 178 d = b01 (wS A m F good tp ta tv (jI bn) fl k 0 d)) →
        ∃ h' V', s_X14_goes_98 (s_X14_goes_17 f) 104 (jI k) (jI tick) (jI bn) (jI fl) (b01 q) (jI each) (jI c) (b01 (wS A m F good tp ta tv (jI bn) fl k 0 c)) (jI c) 178 h4 = s_X14_goes_130 FU 104 (jI k) (jI tick) (jI bn) (jI fl) (b01 (q || (wS A m F good tp ta tv (jI bn) fl k 0 c || anyR (wS A m F good tp ta tv (jI bn) fl k 0) (c + 1) n))) (jI each) 1 h' ∧ RC h' S wd t fv nv V' Z A m F B W G ∧ Ou h h' ∧ Sm [148, 149, 178] V V' ∧ ∀ d, d < F 12 → V' 178 d = b01 (wS A m F good tp ta tv (jI bn) fl k 0 d) := by
      intro h4 V4 C4 O4 M4 z4
      obtain ⟨h5, e5, X5, O5⟩ := C4.1.stN (a := 178) (j := c) rfl (show c < 400 by omega) (b01 (wS A m F good tp ta tv (jI bn) fl k 0 c))
      have nar : vp_nar (ryR 178) (b01 (wS A m F good tp ta tv (jI bn) fl k 0 c)) = b01 (wS A m F good tp ta tv (jI bn) fl k 0 c) := by
        cases wS A m F good tp ta tv (jI bn) fl k 0 c
        · exact bool_nar.1
        · exact bool_nar.2
      rw [nar] at X5
      have C5 := C4.to X5 O5
      have e5' : stN .boolean h4 (.ref 178) (jI c) (b01 (wS A m F good tp ta tv (jI bn) fl k 0 c)) = some h5 := e5
      have G63 : gO h5 (.ref 104) 14 63 = some 178 := gO_of (ltE (by decide)) C5.1.1 rfl
      have l178 : ldI .boolean h5 (.ref 178) (jI c) = some (b01 (wS A m F good tp ta tv (jI bn) fl k 0 c)) := by
        have := C5.1.ld (a := 178) (j := c) rfl (show c < 400 by omega)
        rw [upd2_eq, upd_eq] at this
        exact this
      have M5 : Sm [148, 149, 178] V (upd2 V4 178 (upd (V4 178) c (b01 (wS A m F good tp ta tv (jI bn) fl k 0 c)))) := M4.upd (by decide)
      obtain ⟨h', V', ih, i1, i2, i3, i4⟩ := g17_go hfl hk (each := each) n (c + 1) f (q || wS A m F good tp ta tv (jI bn) fl k 0 c) h5 _ (by omega) (by omega) C5 (T.sm (M5 177 (by decide)) (M5 176 (by decide))) (fun d hd => by rw [M5 146 (by decide)]; exact hg d hd) (fun d hd => by
        rw [upd2_eq]
        by_cases u : d = c
        · rw [u, upd_eq]
        · rw [upd_ne u]; exact z4 d (by omega))
      refine ⟨h', V', ?_, i1, (O4.trans O5).trans i2, M5.trans i3, i4⟩
      rw [← Bool.or_assoc, ← ih]
      unfold s_X14_goes_98 s_X14_goes_114 s_X14_goes_119
      rw [e5', Option.bind_some, jI_inc]
      cases q with
      | false =>
        rw [if_pos b01_f, G63, Option.bind_some, l178, Option.bind_some, Bool.false_or]
        cases wS A m F good tp ta tv (jI bn) fl k 0 c with
        | false =>
          rw [if_pos b01_f]
          rfl
        | true =>
          rw [if_neg (show ¬ b01 true = 0 by decide)]
          rfl
      | true =>
        rw [if_neg (show ¬ b01 true = 0 by decide), Bool.true_or]
        rfl
    have start : ∀ {y : aO}, (if b01 (good c) = 0 then (s_X14_goes_97 (s_X14_goes_17 f) 104 (jI k) (jI tick) (jI bn) (jI fl) (b01 q) (jI each) (jI c) (jI c) 178 h3) else (cI (s_X14_fitsHere 104 0 (jI bn) (jI fl) h3) fun x87 h87 => if x87 = 0 then (s_X14_goes_97 (s_X14_goes_17 f) 104 (jI k) (jI tick) (jI bn) (jI fl) (b01 q) (jI each) (jI c) (jI c) 178 h87) else (s_X14_goes_98 (s_X14_goes_17 f) 104 (jI k) (jI tick) (jI bn) (jI fl) (b01 q) (jI each) (jI c) 1 (jI c) 178 h87))) = y → s_X14_goes_17 (f + 1) 104 (jI k) (jI tick) (jI bn) (jI fl) (b01 q) (jI each) (jI c) h = y := by
      intro y hy
      show s_X14_goes_17_b (s_X14_goes_17 f) 104 (jI k) (jI tick) (jI bn) (jI fl) (b01 q) (jI each) (jI c) h = _
      unfold s_X14_goes_17_b
      rw [C.g20, Option.bind_some, if_neg (fun z => by have := (jI_le (by omega) (by omega)).mp z; omega), C.kO, e1]
      simp only [cN, es, cI]
      rw [e2, C2.kO, e3]
      simp only [cN, g63, g27, l146, Option.bind_some, C3.kO]
      exact hy
    show ∃ h' V', s_X14_goes_17 (f + 1) 104 (jI k) (jI tick) (jI bn) (jI fl) (b01 q) (jI each) (jI c) h = s_X14_goes_130 FU 104 (jI k) (jI tick) (jI bn) (jI fl) (b01 (q || (wS A m F good tp ta tv (jI bn) fl k 0 c || anyR (wS A m F good tp ta tv (jI bn) fl k 0) (c + 1) n))) (jI each) 1 h' ∧ _
    cases z : good c with
    | false =>
      obtain ⟨h', V', r1, r2⟩ := fin h3 _ C3 O13 M3 (fun d hd => by rw [upd2_ne (by decide)]; exact hz d hd)
      refine ⟨h', V', start ?_, r2⟩
      rw [z, if_pos b01_f, ← r1]
      rw [ws, z]
      rfl
    | true =>
      obtain ⟨h4, V4, e4, C4, O4, M4⟩ := C3.fitsHere (bn := bn) (fl := fl) (e := 0) (by decide) hfl (T.sm (M3 177 (by decide)) (M3 176 (by decide))) (by rw [upd2_eq]; exact (v0S_sm K hC (by omega) (by omega)).agree av) (v' := v0S A m F c k) (by rw [upd2_eq]; exact av)
      have e4' : s_X14_fitsHere 104 0 (jI bn) (jI fl) h3 = _ := e4
      obtain ⟨h', V', r1, r2⟩ := fin h4 V4 C4 (O13.trans O4) (M3.trans (M4.mono (by decide))) (fun d hd => by rw [M4 178 (by decide), upd2_ne (by decide)]; exact hz d hd)
      refine ⟨h', V', start ?_, r2⟩
      rw [z, if_neg (show ¬ b01 true = 0 by decide), e4']
      simp only [cI]
      rw [← r1, ws, z, Bool.true_and]
      cases y : fitS A m ta tv 0 (jI bn) fl (v0S A m F c k) with
      | false =>
        rw [if_pos b01_f]
        rfl
      | true =>
        rw [if_neg (show ¬ b01 true = 0 by decide)]
        rfl
end
