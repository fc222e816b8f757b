/-! the reference goes on, and gathers -/
theorem b01_nar {q : Bool} : vp_nar .boolean (b01 q) = b01 q := by
  cases q
  · exact bool_nar.1
  · exact bool_nar.2
section
variable {S : Nat → Int32} {wd : Int64} {t : Nat} {fv nv : Value} {Z : Nat → Nat → Int64} {A : Nat → Nat → Int32} {m F : Nat → Nat} {B : Nat → Nat → Int32} {W : Nat → Int64} {G : Nat → Nat} {good : Nat → Bool} {tp ta tv : Nat → Int32} {bn fl tick k : Nat}
/-- from cell c by a world, to d, and what is seen fits -/
def hopB (A : Nat → Nat → Int32) (m F : Nat → Nat) (tp ta tv : Nat → Int32) (by' : Int32) (fl k e c d w : Nat) : Bool := decide (ldV A m F c (pfS A m tp e fl) (w * F 15 + k) = jI d) && fitS A m ta tv e by' fl (v1S A m F d (pfS A m tp e fl) (w * F 15 + k))
theorem g180_go {e c pq : Nat} (he1 : 1 ≤ e) (he : e ≤ 30) (hfl : fl ≤ 100) (hk : k < F 15) (hc : c < F 12) (hpq : tp e = jI pq) (hpq2 : pq < F 13) {k130 : Nat → Int32 → Int32 → Int32 → Int32 → Int32 → Int32 → Int32 → aH → aO} {k168 : Nat → Int32 → Int32 → Int32 → Int32 → Int32 → Int32 → Int32 → Int32 → aH → aO} : ∀ (n w f : Nat) (q : Bool) (h : aH) (V : Nat → Nat → Int32) (T : Nat → Bool), w + n = F 14 / F 15 → n < f → RC h S wd t fv nv V Z A m F B W G → okTr V ta tv → V 175 e = tp e → V 178 c = b01 true → (∀ d, d < F 12 → V 179 d = b01 (T d)) →
    ∃ h' V' q', s_X14_goes_180 k130 k168 f 104 (jI k) (jI tick) (jI bn) (jI fl) (b01 q) (jI (F 14 / F 15)) (jI e) (jI c) (jI w) h = k168 104 (jI k) (jI tick) (jI bn) (jI fl) (b01 q') (jI (F 14 / F 15)) (jI e) (jI (c + 1)) h' ∧ RC h' S wd t fv nv V' Z A m F B W G ∧ Ou h h' ∧ Sm [148, 149, 179] V V' ∧ (∀ d, d < F 12 → V' 179 d = b01 (T d || anyR (hopB A m F tp ta tv (jI bn) fl k e c d) w n)) ∧ (q' = true ↔ q = true ∨ ∃ d, d < F 12 ∧ anyR (hopB A m F tp ta tv (jI bn) fl k e c d) w n = true)
  | _, _, 0, _, _, _, _, _, hf, _, _, _, _, _ => by omega
  | 0, w, f + 1, q, h, V, T, hn, hf, C, Tr, h175, h178, hT => by
    have h27 := C.2.2.2.2.2.1.2.2.2.2.2.2.1
    have dl : F 14 / F 15 ≤ F 14 := Nat.div_le_self _ _
    refine ⟨h, V, q, ?_, C, Ou.refl, Sm.refl, fun d hd => ?_, ⟨Or.inl, fun z => z.elim id (fun ⟨d, _, z⟩ => Bool.noConfusion (show false = true from z))⟩⟩
    · show s_X14_goes_180_b k130 k168 (s_X14_goes_180 k130 k168 f) 104 (jI k) (jI tick) (jI bn) (jI fl) (b01 q) (jI (F 14 / F 15)) (jI e) (jI c) (jI w) h = _
      unfold s_X14_goes_180_b
      rw [if_pos ((jI_le (by omega) (by omega)).mpr (by omega)), jI_inc]
    · rw [hT d hd]
      show b01 (T d) = b01 (T d || false)
      rw [Bool.or_false]
  | n + 1, w, f + 1, q, h, V, T, hn, hf, C, Tr, h175, h178, hT => by
    obtain ⟨X, HT, hot, sim, K, hC, -⟩ := id C
    have h400 := hC.2.2.2.2.1
    have h27 := hC.2.2.2.2.2.2.1
    have pos := hC.pos
    have dl : F 14 / F 15 ≤ F 14 := Nat.div_le_self _ _
    obtain ⟨k0, k1, k2, k3, k4⟩ := K.1.1
    have g63 : gO h (.ref 104) 14 63 = some 178 := gO_of (ltE (by decide)) X.1 rfl
    have l178 : ldI .boolean h (.ref 178) (jI c) = some (b01 true) := h178 ▸ X.ld (a := 178) rfl (show c < 400 by omega)
    obtain ⟨h1, e1, C1, O1⟩ := C.lays (jI c)
    obtain ⟨h2, g2, e2, C2, O2, a2, b2⟩ := C1.handed (fl := fl) he hfl (by rw [upd2_ne (by decide)]; exact h175) hpq hpq2
    rw [upd2_2] at C2
    rw [upd2_eq] at b2
    have wlt : w * F 15 + k < 2147483648 := by
      have : w * F 15 ≤ 27 * 27 := Nat.mul_le_mul (by omega) (by omega)
      omega
    obtain ⟨h3, e3, C3, O3⟩ := C2.worlded (w := w * F 15 + k) wlt
    rw [upd2_2, upd2_eq] at C3
    obtain ⟨p, hpd⟩ : ∃ p, p = pfS A m tp e fl := ⟨_, rfl⟩
    have hp : p < F 13 := by rw [hpd]; exact pf_lt K hC hpq hpq2
    have h9 := hC.2.2.2.2.2.1
    obtain ⟨v, hv⟩ : ∃ v, v = spW A m (jI (F 15)) 0 (jI (w * F 15 + k)) g2 := ⟨_, rfl⟩
    rw [← hv] at C3
    have av : agree m v (v1S A m F c p (w * F 15 + k)) := fun s hs => by
      rw [hv]
      unfold v1S spM spW
      by_cases q7 : 7 ≤ s ∧ s < 7 + m 3
      · exact spr_in A 0 7 (m 3) _ _ _ s q7.1 q7.2
      · rw [spr_out A 0 7 (m 3) _ _ s (by omega), spr_out A 0 7 (m 3) _ _ s (by omega)]
        by_cases q5 : 5 ≤ s ∧ s < 5 + m 2
        · exact spr_in A 0 5 (m 2) _ _ _ s q5.1 q5.2
        · rw [spr_out A 0 5 (m 2) _ _ s (by omega), spr_out A 0 5 (m 2) _ _ s (by omega)]
          by_cases q3 : 3 ≤ s ∧ s < 3 + m 1
          · rw [hpd]
            exact a2 s q3.1 q3.2 _
          · rw [b2 s (by omega), spr_out A 0 3 (m 1) _ _ s (by omega)]
            exact spr_in A 0 0 (m 0) _ _ _ s (Nat.zero_le _) (by unfold decl at hs; omega)
    have smv : okVs m (v1S A m F c p (w * F 15 + k)) := spM_sm (F := F) K.1.1 K.2.2.1 pos.2.2.1 (by omega) (by omega) (by omega) wlt _
    obtain ⟨h4, p4, e4, C4, O4⟩ := C3.nextHere (by rw [upd2_eq]; exact smv.agree av)
    rw [upd2_eq] at e4
    have ex : leadV A m F v = ldV A m F c p (w * F 15 + k) := leadV_congr av K.2.1
    rw [ex] at e4
    have O14 := ((O1.trans O2).trans O3).trans O4
    have M4 : Sm [148, 149, 179] V (upd2 (upd2 V 148 v) 149 p4) := (Sm.refl.upd (by decide)).upd (by decide)
    have start : ∀ {y : aO}, (if ldV A m F c p (w * F 15 + k) = -2 then (s_X14_goes_180 k130 k168 f 104 (jI k) (jI tick) (jI bn) (jI fl) (b01 q) (jI (F 14 / F 15)) (jI e) (jI c) (jI (w + 1)) h4) else (cN (s_X14_lays 104 (ldV A m F c p (w * F 15 + k)) h4) fun h243 => kO h243 104 14 (cI (s_X14_fitsHere 104 (jI e) (jI bn) (jI fl) h243) fun x252 h252 => if x252 = 0 then (s_X14_goes_180 k130 k168 f 104 (jI k) (jI tick) (jI bn) (jI fl) (b01 q) (jI (F 14 / F 15)) (jI e) (jI c) (jI (w + 1)) h252) else ((gO h252 (.ref 104) 14 64).bind fun x262 => (stN .boolean h252 (.ref x262) (ldV A m F c p (w * F 15 + k)) 1).bind fun h268 => s_X14_goes_180 k130 k168 f 104 (jI k) (jI tick) (jI bn) (jI fl) 1 (jI (F 14 / F 15)) (jI e) (jI c) (jI (w + 1)) h268)))) = y → s_X14_goes_180 k130 k168 (f + 1) 104 (jI k) (jI tick) (jI bn) (jI fl) (b01 q) (jI (F 14 / F 15)) (jI e) (jI c) (jI w) h = y := by
      intro y hy
      show s_X14_goes_180_b k130 k168 (s_X14_goes_180 k130 k168 f) 104 (jI k) (jI tick) (jI bn) (jI fl) (b01 q) (jI (F 14 / F 15)) (jI e) (jI c) (jI w) h = _
      unfold s_X14_goes_180_b
      rw [if_neg (fun z => by have := (jI_le (by omega) (by omega)).mp z; omega), g63, Option.bind_some, l178, Option.bind_some, if_neg (show ¬ b01 true = 0 by decide), C.kO, e1]
      simp only [cN, C1.kO, e2, C2.g23, Option.bind_some, C2.kO, jI_mul, jI_add, e3, C3.kO, e4, cI, C4.kO, jI_inc]
      exact hy
    have hop : ∀ d, hopB A m F tp ta tv (jI bn) fl k e c d w = (decide (ldV A m F c p (w * F 15 + k) = jI d) && fitS A m ta tv e (jI bn) fl (v1S A m F d p (w * F 15 + k))) := fun d => by
      unfold hopB
      rw [hpd]
    have skip : ∀ (h5 : aH) (V5 : Nat → Nat → Int32), RC h5 S wd t fv nv V5 Z A m F B W G → Ou h h5 → Sm [148, 149] V V5 → (∀ d, d < F 12 → hopB A m F tp ta tv (jI bn) fl k e c d w = false) →
        ∃ h' V' q', s_X14_goes_180 k130 k168 f 104 (jI k) (jI tick) (jI bn) (jI fl) (b01 q) (jI (F 14 / F 15)) (jI e) (jI c) (jI (w + 1)) h5 = k168 104 (jI k) (jI tick) (jI bn) (jI fl) (b01 q') (jI (F 14 / F 15)) (jI e) (jI (c + 1)) h' ∧ RC h' S wd t fv nv V' Z A m F B W G ∧ Ou h h' ∧ Sm [148, 149, 179] V V' ∧ (∀ d, d < F 12 → V' 179 d = b01 (T d || anyR (hopB A m F tp ta tv (jI bn) fl k e c d) w (n + 1))) ∧ (q' = true ↔ q = true ∨ ∃ d, d < F 12 ∧ anyR (hopB A m F tp ta tv (jI bn) fl k e c d) w (n + 1) = true) := by
      intro h5 V5 C5 O5 M5 hz
      have an : ∀ d, d < F 12 → anyR (hopB A m F tp ta tv (jI bn) fl k e c d) w (n + 1) = anyR (hopB A m F tp ta tv (jI bn) fl k e c d) (w + 1) n := fun d hd => by
        show (hopB A m F tp ta tv (jI bn) fl k e c d w || _) = _
        rw [hz d hd, Bool.false_or]
      obtain ⟨h', V', q', ih, i1, i2, i3, i4, i5⟩ := g180_go he1 he hfl hk hc hpq hpq2 (k130 := k130) (k168 := k168) n (w + 1) f q h5 V5 T (by omega) (by omega) C5 (Tr.sm (M5 177 (by decide)) (M5 176 (by decide))) (by rw [M5 175 (by decide)]; exact h175) (by rw [M5 178 (by decide)]; exact h178) (fun d hd => by rw [M5 179 (by decide)]; exact hT d hd)
      refine ⟨h', V', q', ih, i1, O5.trans i2, (M5.mono (by decide)).trans i3, fun d hd => by rw [i4 d hd, an d hd], i5.trans (or_congr Iff.rfl ⟨?_, ?_⟩)⟩
      · rintro ⟨d, d1, d2⟩
        exact ⟨d, d1, by rw [an d d1]; exact d2⟩
      · rintro ⟨d, d1, d2⟩
        exact ⟨d, d1, by rw [← an d d1]; exact d2⟩
    rcases ldV_is K hC c p (w * F 15 + k) with y | ⟨d, y, hd⟩
    · obtain ⟨h', V', q', r1, r2⟩ := skip h4 _ C4 O14 ((Sm.refl.upd (by decide)).upd (by decide)) (fun d hd => by
        rw [hop, y, decide_eq_false (fun z => jI_m2 (show d < 2147483648 by omega) z.symm)]
        rfl)
      exact ⟨h', V', q', start (by rw [if_pos y]; exact r1), r2⟩
    · have y0 : ¬ ldV A m F c p (w * F 15 + k) = -2 := by rw [y]; exact jI_m2 (by omega)
      obtain ⟨h5, e5, C5, O5⟩ := C4.lays (jI d)
      rw [upd2_ne (show (148 : Nat) ≠ 149 by decide), upd2_eq] at C5
      have av5 : agree m (sprGo A 0 0 (m 0) (jI d) v) (v1S A m F d p (w * F 15 + k)) := fun s hs => by
        by_cases q0 : s < m 0
        · rw [v1S_0 K.1.1 q0]
          exact spr_in A 0 0 (m 0) _ _ _ s (Nat.zero_le _) (by omega)
        · rw [spr_out A 0 0 (m 0) _ _ s (by omega), av s hs]
          exact v1S_3 K.1.1 (by unfold decl at hs; omega)
      have M5 : Sm [148, 149] V (upd2 (upd2 (upd2 V 148 v) 149 p4) 148 (sprGo A 0 0 (m 0) (jI d) v)) := ((Sm.refl.upd (by decide)).upd (by decide)).upd (by decide)
      have smd : okVs m (v1S A m F d p (w * F 15 + k)) := spM_sm (F := F) K.1.1 K.2.2.1 pos.2.2.1 (by omega) (by omega) (by omega) wlt _
      obtain ⟨h6, V6, e6, C6, O6, M6⟩ := C5.fitsHere (bn := bn) (fl := fl) (e := e) he hfl (Tr.sm (M5 177 (by decide)) (M5 176 (by decide))) (by rw [upd2_eq]; exact smd.agree av5) (v' := v1S A m F d p (w * F 15 + k)) (by rw [upd2_eq]; exact av5)
      have O16 := (O14.trans O5).trans O6
      have M16 : Sm [148, 149] V V6 := M5.trans (M6.mono (by decide))
      have uq : ∀ d', d' < F 12 → d' ≠ d → hopB A m F tp ta tv (jI bn) fl k e c d' w = false := fun d' hd' ne => by
        rw [hop, y, decide_eq_false (fun z => ne ((jI_inj (by omega) (by omega)).mp z).symm)]
        rfl
      cases z : fitS A m ta tv e (jI bn) fl (v1S A m F d p (w * F 15 + k)) with
      | false =>
        obtain ⟨h', V', q', r1, r2⟩ := skip h6 V6 C6 O16 M16 (fun d' hd' => by
          by_cases u : d' = d
          · rw [hop, u, z, Bool.and_false]
          · exact uq d' hd' u)
        refine ⟨h', V', q', start ?_, r2⟩
        rw [if_neg y0, y, e5]
        simp only [cN]
        rw [C5.kO, e6, z]
        simp only [cI]
        rw [if_pos b01_f]
        exact r1
      | true =>
        have g64 : gO h6 (.ref 104) 14 64 = some 179 := gO_of (ltE (by decide)) C6.1.1 rfl
        obtain ⟨h7, e7, X7, O7⟩ := C6.1.stN (a := 179) (j := d) rfl (show d < 400 by omega) 1
        rw [show vp_nar (ryR 179) 1 = 1 from bool_nar.2] at X7
        have C7 := C6.to X7 O7
        have e7' : stN .boolean h6 (.ref 179) (jI d) 1 = some h7 := e7
        have M7 : Sm [148, 149, 179] V (upd2 V6 179 (upd (V6 179) d 1)) := (M16.mono (by decide)).upd (by decide)
        have hd1 : hopB A m F tp ta tv (jI bn) fl k e c d w = true := by rw [hop, y, z, decide_eq_true rfl]; rfl
        obtain ⟨h', V', q', ih, i1, i2, i3, i4, i5⟩ := g180_go he1 he hfl hk hc hpq hpq2 (k130 := k130) (k168 := k168) n (w + 1) f true h7 _ (fun d' => T d' || hopB A m F tp ta tv (jI bn) fl k e c d' w) (by omega) (by omega) C7 (Tr.sm (M7 177 (by decide)) (M7 176 (by decide))) (by rw [M7 175 (by decide)]; exact h175) (by rw [M7 178 (by decide)]; exact h178) (fun d' hd' => by
          rw [upd2_eq]
          by_cases u : d' = d
          · rw [u, upd_eq, hd1, Bool.or_true]
            rfl
          · rw [upd_ne u, M16 179 (by decide), hT d' hd', uq d' hd' u, Bool.or_false])
        refine ⟨h', V', q', start ?_, i1, (O16.trans O7).trans i2, M7.trans i3, fun d' hd' => ?_, i5.trans ⟨fun _ => ?_, fun _ => Or.inl rfl⟩⟩
        · rw [if_neg y0, y, e5]
          simp only [cN]
          rw [C5.kO, e6, z]
          simp only [cI]
          rw [if_neg (show ¬ b01 true = 0 by decide), g64, Option.bind_some, e7', Option.bind_some]
          exact ih
        · rw [i4 d' hd', Bool.or_assoc]
          rfl
        · refine Or.inr ⟨d, hd, ?_⟩
          show (hopB A m F tp ta tv (jI bn) fl k e c d w || _) = true
          rw [hd1, Bool.true_or]
theorem g287_go {k130 : Nat → Int32 → Int32 → Int32 → Int32 → Int32 → Int32 → Int32 → aH → aO} {a1 a2 a3 a4 a5 a6 : Int32} {e : Nat} : ∀ (n c f : Nat) (h : aH) (V : Nat → Nat → Int32) (T : Nat → Bool), c + n = F 12 → n < f → RC h S wd t fv nv V Z A m F B W G → (∀ d, d < F 12 → V 179 d = b01 (T d)) → (∀ d, d < c → V 178 d = b01 (T d)) →
    ∃ h' V', s_X14_goes_287 k130 f 104 a1 a2 a3 a4 a5 a6 (jI e) (jI c) h = k130 104 a1 a2 a3 a4 a5 a6 (jI (e + 1)) h' ∧ RC h' S wd t fv nv V' Z A m F B W G ∧ Ou h h' ∧ Sm [178] V V' ∧ ∀ d, d < F 12 → V' 178 d = b01 (T d)
  | _, _, 0, _, _, _, _, hf, _, _, _ => by omega
  | 0, c, f + 1, h, V, T, hn, hf, C, h1, h2 => by
    have h400 := C.2.2.2.2.2.1.2.2.2.2.1
    refine ⟨h, V, ?_, C, Ou.refl, Sm.refl, fun d hd => h2 d (by omega)⟩
    show s_X14_goes_287_b k130 (s_X14_goes_287 k130 f) 104 a1 a2 a3 a4 a5 a6 (jI e) (jI c) h = _
    unfold s_X14_goes_287_b
    rw [C.g20, Option.bind_some, if_pos ((jI_le (by omega) (by omega)).mpr (by omega)), jI_inc]
  | n + 1, c, f + 1, h, V, T, hn, hf, C, h1, h2 => by
    have h400 := C.2.2.2.2.2.1.2.2.2.2.1
    have g63 : gO h (.ref 104) 14 63 = some 178 := gO_of (ltE (by decide)) C.1.1 rfl
    have g64 : gO h (.ref 104) 14 64 = some 179 := gO_of (ltE (by decide)) C.1.1 rfl
    have l : ldI .boolean h (.ref 179) (jI c) = some (b01 (T c)) := (h1 c (by omega)) ▸ C.1.ld (a := 179) rfl (show c < 400 by omega)
    obtain ⟨h3, e3, X3, O3⟩ := C.1.stN (a := 178) (j := c) rfl (show c < 400 by omega) (b01 (T c))
    rw [show vp_nar (ryR 178) (b01 (T c)) = b01 (T c) from b01_nar] at X3
    have e3' : stN .boolean h (.ref 178) (jI c) (b01 (T c)) = some h3 := e3
    obtain ⟨h', V', ih, i1, i2, i3, i4⟩ := g287_go (k130 := k130) (a1 := a1) (a2 := a2) (a3 := a3) (a4 := a4) (a5 := a5) (a6 := a6) (e := e) n (c + 1) f h3 _ T (by omega) (by omega) (C.to X3 O3) (fun d hd => by rw [upd2_ne (by decide)]; exact h1 d hd) (fun d hd => by
      rw [upd2_eq]
      by_cases u : d = c
      · rw [u, upd_eq]
      · rw [upd_ne u]; exact h2 d (by omega))
    refine ⟨h', V', ?_, i1, O3.trans i2, (Sm.refl.upd (by decide)).trans i3, i4⟩
    show s_X14_goes_287_b k130 (s_X14_goes_287 k130 f) 104 a1 a2 a3 a4 a5 a6 (jI e) (jI c) h = _
    unfold s_X14_goes_287_b
    rw [C.g20, Option.bind_some, if_neg (fun q => by have := (jI_le (by omega) (by omega)).mp q; omega), g63, Option.bind_some, g64, Option.bind_some, l, Option.bind_some, e3', Option.bind_some, jI_inc]
    exact ih
/-- rows of booleans set to false -/
theorem g142_go {k130 : Nat → Int32 → Int32 → Int32 → Int32 → Int32 → Int32 → Int32 → aH → aO} {a1 a2 a3 a4 a5 a6 a7 : Int32} : ∀ (n c f : Nat) (h : aH) (V : Nat → Nat → Int32), c + n = F 12 → n < f → RC h S wd t fv nv V Z A m F B W G → (∀ d, d < c → V 179 d = 0) →
    ∃ h' V', s_X14_goes_142 k130 f 104 a1 a2 a3 a4 a5 a6 a7 (jI c) h = s_X14_goes_168 k130 FU 104 a1 a2 a3 a4 a5 a6 a7 0 h' ∧ RC h' S wd t fv nv V' Z A m F B W G ∧ Ou h h' ∧ Sm [179] V V' ∧ ∀ d, d < F 12 → V' 179 d = 0
  | _, _, 0, _, _, _, hf, _, _ => by omega
  | 0, c, f + 1, h, V, hn, hf, C, h2 => by
    have h400 := C.2.2.2.2.2.1.2.2.2.2.1
    refine ⟨h, V, ?_, C, Ou.refl, Sm.refl, fun d hd => h2 d (by omega)⟩
    show s_X14_goes_142_b k130 (s_X14_goes_142 k130 f) 104 a1 a2 a3 a4 a5 a6 a7 (jI c) h = _
    unfold s_X14_goes_142_b
    rw [C.g20, Option.bind_some, if_pos ((jI_le (by omega) (by omega)).mpr (by omega))]
  | n + 1, c, f + 1, h, V, hn, hf, C, h2 => by
    have h400 := C.2.2.2.2.2.1.2.2.2.2.1
    have g64 : gO h (.ref 104) 14 64 = some 179 := gO_of (ltE (by decide)) C.1.1 rfl
    obtain ⟨h3, e3, X3, O3⟩ := C.1.stN (a := 179) (j := c) rfl (show c < 400 by omega) 0
    rw [show vp_nar (ryR 179) 0 = 0 from bool_nar.1] at X3
    have e3' : stN .boolean h (.ref 179) (jI c) 0 = some h3 := e3
    obtain ⟨h', V', ih, i1, i2, i3, i4⟩ := g142_go (k130 := k130) (a1 := a1) (a2 := a2) (a3 := a3) (a4 := a4) (a5 := a5) (a6 := a6) (a7 := a7) n (c + 1) f h3 _ (by omega) (by omega) (C.to X3 O3) (fun d hd => by
      rw [upd2_eq]
      by_cases u : d = c
      · rw [u, upd_eq]
      · rw [upd_ne u]; exact h2 d (by omega))
    refine ⟨h', V', ?_, i1, O3.trans i2, (Sm.refl.upd (by decide)).trans i3, i4⟩
    show s_X14_goes_142_b k130 (s_X14_goes_142 k130 f) 104 a1 a2 a3 a4 a5 a6 a7 (jI c) h = _
    unfold s_X14_goes_142_b
    rw [C.g20, Option.bind_some, if_neg (fun q => by have := (jI_le (by omega) (by omega)).mp q; omega), g64, Option.bind_some, e3', Option.bind_some, jI_inc]
    exact ih
theorem g168_go {e pq : Nat} (he1 : 1 ≤ e) (he : e ≤ 30) (hfl : fl ≤ 100) (hk : k < F 15) (hpq : tp e = jI pq) (hpq2 : pq < F 13) {H : Nat → Bool} {k130 : Nat → Int32 → Int32 → Int32 → Int32 → Int32 → Int32 → Int32 → aH → aO} : ∀ (n c f : Nat) (q : Bool) (h : aH) (V : Nat → Nat → Int32) (T : Nat → Bool), c + n = F 12 → n < f → RC h S wd t fv nv V Z A m F B W G → okTr V ta tv → V 175 e = tp e → (∀ d, d < F 12 → V 178 d = b01 (H d)) → (∀ d, d < F 12 → V 179 d = b01 (T d)) → (q = true ↔ ∃ d, d < F 12 ∧ T d = true) →
    ∃ h' V' q', s_X14_goes_168 k130 f 104 (jI k) (jI tick) (jI bn) (jI fl) (b01 q) (jI (F 14 / F 15)) (jI e) (jI c) h = k130 104 (jI k) (jI tick) (jI bn) (jI fl) (b01 q') (jI (F 14 / F 15)) (jI (e + 1)) h' ∧ RC h' S wd t fv nv V' Z A m F B W G ∧ Ou h h' ∧ Sm [148, 149, 178, 179] V V' ∧ (∀ d, d < F 12 → V' 178 d = b01 (T d || anyR (fun c => H c && anyR (hopB A m F tp ta tv (jI bn) fl k e c d) 0 (F 14 / F 15)) c n)) ∧ (q' = true ↔ ∃ d, d < F 12 ∧ (T d || anyR (fun c => H c && anyR (hopB A m F tp ta tv (jI bn) fl k e c d) 0 (F 14 / F 15)) c n) = true)
  | _, _, 0, _, _, _, _, _, hf, _, _, _, _, _, _ => by omega
  | 0, c, f + 1, q, h, V, T, hn, hf, C, Tr, h175, hH, hT, hq => by
    have h400 := C.2.2.2.2.2.1.2.2.2.2.1
    obtain ⟨h1, V1, e1, C1, O1, M1, a1⟩ := g287_go (k130 := k130) (a1 := jI k) (a2 := jI tick) (a3 := jI bn) (a4 := jI fl) (a5 := b01 q) (a6 := jI (F 14 / F 15)) (e := e) (F 12) 0 FU h V T (by omega) (by unfold FU; omega) C hT (fun d hd => by omega)
    refine ⟨h1, V1, q, ?_, C1, O1, M1.mono (by decide), fun d hd => ?_, ?_⟩
    · show s_X14_goes_168_b k130 (s_X14_goes_168 k130 f) 104 (jI k) (jI tick) (jI bn) (jI fl) (b01 q) (jI (F 14 / F 15)) (jI e) (jI c) h = _
      unfold s_X14_goes_168_b
      rw [C.g20, Option.bind_some, if_pos ((jI_le (by omega) (by omega)).mpr (by omega))]
      exact e1
    · rw [a1 d hd]
      show b01 (T d) = b01 (T d || false)
      rw [Bool.or_false]
    · show q = true ↔ ∃ d, d < F 12 ∧ (T d || false) = true
      simp only [Bool.or_false]
      exact hq
  | n + 1, c, f + 1, q, h, V, T, hn, hf, C, Tr, h175, hH, hT, hq => by
    have hC := C.2.2.2.2.2.1
    have h400 := hC.2.2.2.2.1
    have h27 := hC.2.2.2.2.2.2.1
    have dl : F 14 / F 15 ≤ F 14 := Nat.div_le_self _ _
    have an : ∀ d, anyR (fun c => H c && anyR (hopB A m F tp ta tv (jI bn) fl k e c d) 0 (F 14 / F 15)) c (n + 1) = ((H c && anyR (hopB A m F tp ta tv (jI bn) fl k e c d) 0 (F 14 / F 15)) || anyR (fun c => H c && anyR (hopB A m F tp ta tv (jI bn) fl k e c d) 0 (F 14 / F 15)) (c + 1) n) := fun d => rfl
    cases z : H c with
    | false =>
      obtain ⟨h', V', q', ih, i1, i2, i3, i4, i5⟩ := g168_go he1 he hfl hk hpq hpq2 (H := H) (k130 := k130) n (c + 1) f q h V T (by omega) (by omega) C Tr h175 hH hT hq
      refine ⟨h', V', q', ?_, i1, i2, i3, fun d hd => by rw [i4 d hd, an, z, Bool.false_and, Bool.false_or], by
        simp only [an, z, Bool.false_and, Bool.false_or]
        exact i5⟩
      have g63 : gO h (.ref 104) 14 63 = some 178 := gO_of (ltE (by decide)) C.1.1 rfl
      have l178 : ldI .boolean h (.ref 178) (jI c) = some (b01 false) := by
        rw [← z, ← hH c (by omega)]
        exact C.1.ld (a := 178) rfl (show c < 400 by omega)
      have one : ∀ f', s_X14_goes_180 k130 (s_X14_goes_168 k130 f) (f' + 1) 104 (jI k) (jI tick) (jI bn) (jI fl) (b01 q) (jI (F 14 / F 15)) (jI e) (jI c) 0 h = s_X14_goes_168 k130 f 104 (jI k) (jI tick) (jI bn) (jI fl) (b01 q) (jI (F 14 / F 15)) (jI e) (jI (c + 1)) h := by
        intro f'
        show s_X14_goes_180_b k130 (s_X14_goes_168 k130 f) (s_X14_goes_180 k130 (s_X14_goes_168 k130 f) f') 104 (jI k) (jI tick) (jI bn) (jI fl) (b01 q) (jI (F 14 / F 15)) (jI e) (jI c) 0 h = _
        unfold s_X14_goes_180_b
        rw [g63, Option.bind_some, l178, Option.bind_some, if_pos b01_f, jI_inc, ite_self]
      show s_X14_goes_168_b k130 (s_X14_goes_168 k130 f) 104 (jI k) (jI tick) (jI bn) (jI fl) (b01 q) (jI (F 14 / F 15)) (jI e) (jI c) h = _
      unfold s_X14_goes_168_b
      have o := one 999999
      rw [C.g20, Option.bind_some, if_neg (fun z => by have := (jI_le (by omega) (by omega)).mp z; omega), show FU = 999999 + 1 from rfl, o]
      exact ih
    | true =>
      obtain ⟨h1, V1, q1, e1, C1, O1, M1, a1, b1⟩ := g180_go he1 he hfl hk (show c < F 12 by omega) hpq hpq2 (k130 := k130) (k168 := s_X14_goes_168 k130 f) (F 14 / F 15) 0 FU q h V T (by omega) (by unfold FU; omega) C Tr h175 (by rw [hH c (by omega), z]) hT
      obtain ⟨h', V', q', ih, i1, i2, i3, i4, i5⟩ := g168_go he1 he hfl hk hpq hpq2 (H := H) (k130 := k130) n (c + 1) f q1 h1 V1 (fun d => T d || anyR (hopB A m F tp ta tv (jI bn) fl k e c d) 0 (F 14 / F 15)) (by omega) (by omega) C1 (Tr.sm (M1 177 (by decide)) (M1 176 (by decide))) (by rw [M1 175 (by decide)]; exact h175) (fun d hd => by rw [M1 178 (by decide)]; exact hH d hd) a1 (by
        rw [b1, hq]
        constructor
        · rintro (⟨d, d1, d2⟩ | ⟨d, d1, d2⟩)
          · exact ⟨d, d1, by rw [d2]; rfl⟩
          · exact ⟨d, d1, by rw [d2, Bool.or_true]⟩
        · rintro ⟨d, d1, d2⟩
          rw [Bool.or_eq_true] at d2
          exact d2.elim (fun u => Or.inl ⟨d, d1, u⟩) (fun u => Or.inr ⟨d, d1, u⟩))
      refine ⟨h', V', q', ?_, i1, O1.trans i2, (M1.mono (by decide)).trans i3, fun d hd => by rw [i4 d hd, an, z, Bool.true_and, Bool.or_assoc], by
        simp only [an, z, Bool.true_and]
        simp only [Bool.or_assoc] at i5
        exact i5⟩
      show s_X14_goes_168_b k130 (s_X14_goes_168 k130 f) 104 (jI k) (jI tick) (jI bn) (jI fl) (b01 q) (jI (F 14 / F 15)) (jI e) (jI c) h = _
      unfold s_X14_goes_168_b
      rw [C.g20, Option.bind_some, if_neg (fun z => by have := (jI_le (by omega) (by omega)).mp z; omega)]
      exact e1.trans ih
theorem wS_hop {e : Nat} : wS A m F good tp ta tv (jI bn) fl k (e + 1) = fun d => anyR (fun c => wS A m F good tp ta tv (jI bn) fl k e c && anyR (hopB A m F tp ta tv (jI bn) fl k (e + 1) c d) 0 (F 14 / F 15)) 0 (F 12) := rfl
theorem g130_go (htk : tick ≤ 30) (hfl : fl ≤ 100) (hk : k < F 15) (hpq : ∀ e, 1 ≤ e → e ≤ tick → ∃ q, tp e = jI q ∧ q < F 13) : ∀ (n e f : Nat) (q : Bool) (h : aH) (V : Nat → Nat → Int32), e + n = tick → n < f → RC h S wd t fv nv V Z A m F B W G → okTr V ta tv → (∀ e, 1 ≤ e → e ≤ tick → V 175 e = tp e) → (∀ d, d < F 12 → V 178 d = b01 (wS A m F good tp ta tv (jI bn) fl k e d)) → q = anyR (wS A m F good tp ta tv (jI bn) fl k e) 0 (F 12) →
    ∃ h' V', s_X14_goes_130 f 104 (jI k) (jI tick) (jI bn) (jI fl) (b01 q) (jI (F 14 / F 15)) (jI (e + 1)) h = some (.inl (some (.int (b01 (fiS A m F good tp ta tv (jI bn) fl tick k)))), h') ∧ RC h' S wd t fv nv V' Z A m F B W G ∧ Ou h h' ∧ Sm [148, 149, 178, 179] V V' ∧ ∀ d, d < F 12 → V' 178 d = b01 (wS A m F good tp ta tv (jI bn) fl k tick d)
  | _, _, 0, _, _, _, _, hf, _, _, _, _, _ => by omega
  | 0, e, f + 1, q, h, V, hn, hf, C, Tr, h175, hH, hq => by
    have he : e = tick := by omega
    subst he
    refine ⟨h, V, ?_, C, Ou.refl, Sm.refl, hH⟩
    show s_X14_goes_130_b (s_X14_goes_130 f) 104 (jI k) (jI e) (jI bn) (jI fl) (b01 q) (jI (F 14 / F 15)) (jI (e + 1)) h = _
    unfold s_X14_goes_130_b
    rw [if_pos ((jI_lt (by omega) (by omega)).mpr (by omega)), hq]
    exact rtZ_b _ _
  | n + 1, e, f + 1, q, h, V, hn, hf, C, Tr, h175, hH, hq => by
    have h400 := C.2.2.2.2.2.1.2.2.2.2.1
    obtain ⟨pq, p1, p2⟩ := hpq (e + 1) (by omega) (by omega)
    obtain ⟨h1, V1, e1, C1, O1, M1, a1⟩ := g142_go (k130 := s_X14_goes_130 f) (a1 := jI k) (a2 := jI tick) (a3 := jI bn) (a4 := jI fl) (a5 := 0) (a6 := jI (F 14 / F 15)) (a7 := jI (e + 1)) (F 12) 0 FU h V (by omega) (by unfold FU; omega) C (fun d hd => by omega)
    obtain ⟨h2, V2, q2, e2, C2, O2, M2, a2, b2⟩ := g168_go (tick := tick) (bn := bn) (e := e + 1) (by omega) (by omega) hfl hk p1 p2 (H := wS A m F good tp ta tv (jI bn) fl k e) (k130 := s_X14_goes_130 f) (F 12) 0 FU false h1 V1 (fun _ => false) (by omega) (by unfold FU; omega) C1 (Tr.sm (M1 177 (by decide)) (M1 176 (by decide))) (by rw [M1 175 (by decide)]; exact h175 (e + 1) (by omega) (by omega)) (fun d hd => by rw [M1 178 (by decide)]; exact hH d hd) a1 (by simp)
    have wd2 : ∀ d, (false || anyR (fun c => wS A m F good tp ta tv (jI bn) fl k e c && anyR (hopB A m F tp ta tv (jI bn) fl k (e + 1) c d) 0 (F 14 / F 15)) 0 (F 12)) = wS A m F good tp ta tv (jI bn) fl k (e + 1) d := fun d => by
      rw [Bool.false_or, wS_hop]
    have M12 : Sm [148, 149, 178, 179] V V2 := (M1.mono (by decide)).trans M2
    obtain ⟨h', V', ih, i1, i2, i3, i4⟩ := g130_go htk hfl hk hpq n (e + 1) f q2 h2 V2 (by omega) (by omega) C2 (Tr.sm (M12 177 (by decide)) (M12 176 (by decide))) (fun e' x1 x2 => by rw [M12 175 (by decide)]; exact h175 e' x1 x2) (fun d hd => by rw [a2 d hd, wd2]) (by
      apply Bool_ext
      rw [b2, anyR_iff]
      constructor
      · rintro ⟨d, d1, d2⟩
        rw [wd2] at d2
        exact ⟨d, Nat.zero_le _, by omega, d2⟩
      · rintro ⟨d, _, d1, d2⟩
        exact ⟨d, by omega, by rw [wd2]; exact d2⟩)
    refine ⟨h', V', ?_, i1, (O1.trans O2).trans i2, M12.trans i3, i4⟩
    have e1' : s_X14_goes_142 (s_X14_goes_130 f) FU 104 (jI k) (jI tick) (jI bn) (jI fl) 0 (jI (F 14 / F 15)) (jI (e + 1)) 0 h = _ := e1
    have e2' : s_X14_goes_168 (s_X14_goes_130 f) FU 104 (jI k) (jI tick) (jI bn) (jI fl) 0 (jI (F 14 / F 15)) (jI (e + 1)) 0 h1 = _ := e2
    show s_X14_goes_130_b (s_X14_goes_130 f) 104 (jI k) (jI tick) (jI bn) (jI fl) (b01 q) (jI (F 14 / F 15)) (jI (e + 1)) h = _
    unfold s_X14_goes_130_b
    rw [if_neg (fun z => by have := (jI_lt (by omega) (by omega)).mp z; omega), e1', e2']
    exact ih
theorem RC.goes (htk : tick ≤ 30) (hfl : fl ≤ 100) (hk : k < F 15) (hpq : ∀ e, 1 ≤ e → e ≤ tick → ∃ q, tp e = jI q ∧ q < F 13) {h : aH} {V : Nat → Nat → Int32} (C : RC h S wd t fv nv V Z A m F B W G) (Tr : okTr V ta tv) (hg : gdR V (F 12) good) (h175 : ∀ e, 1 ≤ e → e ≤ tick → V 175 e = tp e) :
    ∃ h' V', s_X14_goes 104 (jI k) (jI tick) (jI bn) (jI fl) h = some (.inl (some (.int (b01 (fiS A m F good tp ta tv (jI bn) fl tick k)))), h') ∧ RC h' S wd t fv nv V' Z A m F B W G ∧ Ou h h' ∧ Sm [148, 149, 178, 179] V V' ∧ ∀ d, d < F 12 → V' 178 d = b01 (wS A m F good tp ta tv (jI bn) fl k tick d) := by
  have hC := C.2.2.2.2.2.1
  have h400 := hC.2.2.2.2.1
  have h27 := hC.2.2.2.2.2.2.1
  have pos := hC.pos
  obtain ⟨h1, V1, e1, C1, O1, M1, a1⟩ := g17_go (tick := tick) (bn := bn) (tp := tp) (good := good) hfl hk (each := F 14 / F 15) (F 12) 0 FU false h V (by omega) (by unfold FU; omega) C Tr hg (fun d hd => by omega)
  obtain ⟨h2, V2, e2, C2, O2, M2, a2⟩ := g130_go htk hfl hk hpq tick 0 FU (false || anyR (wS A m F good tp ta tv (jI bn) fl k 0) 0 (F 12)) h1 V1 (by omega) (by unfold FU; omega) C1 (Tr.sm (M1 177 (by decide)) (M1 176 (by decide))) (fun e x1 x2 => by rw [M1 175 (by decide)]; exact h175 e x1 x2) a1 (Bool.false_or _)
  refine ⟨h2, V2, ?_, C2, O1.trans O2, (M1.mono (by decide)).trans M2, a2⟩
  have e1' : s_X14_goes_17 FU 104 (jI k) (jI tick) (jI bn) (jI fl) 0 (jI (F 14 / F 15)) 0 h = _ := e1
  have e2' : s_X14_goes_130 FU 104 (jI k) (jI tick) (jI bn) (jI fl) (b01 (false || anyR (wS A m F good tp ta tv (jI bn) fl k 0) 0 (F 12))) (jI (F 14 / F 15)) 1 h1 = _ := e2
  unfold s_X14_goes
  rw [C.g22, Option.bind_some, C.g23, Option.bind_some, nz_of (fun z => by have := (jI_inj (k := 0) (by omega) (by omega)).mp z; omega), jI_div (by omega) pos.2.2.1 (by omega), e1', e2']
end
