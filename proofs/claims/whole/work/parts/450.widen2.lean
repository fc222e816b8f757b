/-! widen -/
def okMw (V : Nat → Nat → Int32) (A : Nat → Nat → Int32) (m F : Nat → Nat) (good : Nat → Bool) (w : Nat) : Prop :=
  (∀ c, c < F 12 → ∀ q, q < 32 → (bitI (V 74 c) q = true ↔ q < F 13 ∧ safeS (ldW A m F w) (F 13) (nWd A m F w) (F 12) good c = true ∧ intoB (ldW A m F w c q) (nWd A m F w) (safeS (ldW A m F w) (F 13) (nWd A m F w) (F 12) good) = true)) ∧
  ∀ c q, c < F 12 → q < F 13 → bitI (V 74 c) q = true → rwM (V 75) F (ldW A m F w c q) (nWd A m F w) (c * F 13 + q)
/-- what holds while width w + 1 is looked at -/
def wdL (V : Nat → Nat → Int32) (A : Nat → Nat → Int32) (m F : Nat → Nat) (good : Nat → Bool) (w : Nat) : Prop :=
  (∀ c q, c < F 12 → q < F 13 → safeS (ldW A m F w) (F 13) (nWd A m F w) (F 12) good c = true → intoB (ldW A m F w c q) (nWd A m F w) (safeS (ldW A m F w) (F 13) (nWd A m F w) (F 12) good) = true → bitI (V 74 c) q = true) ∧
  ∀ c q, c < F 12 → q < 32 → bitI (V 74 c) q = true → q < F 13 ∧ good c = true
def wdR (V : Nat → Nat → Int32) (A : Nat → Nat → Int32) (m F : Nat → Nat) (w : Nat) (pr : Nat → Nat → Prop) : Prop :=
  ∀ c q, c < F 12 → q < F 13 → bitI (V 74 c) q = true → (pr c q → rwM (V 75) F (ldW A m F (w + 1) c q) (nWd A m F (w + 1)) (c * F 13 + q)) ∧ (¬ pr c q → rwM (V 75) F (ldW A m F w c q) (nWd A m F w) (c * F 13 + q))
theorem bitI_ne {x : Int32} {q : Nat} (hq : q < 32) (h : bitI x q = true) : x ≠ 0 := fun z => by
  rw [bitI_zero.mp z q hq] at h
  cases h
theorem bitI_ex {x : Int32} (h : x ≠ 0) : ∃ q, q < 32 ∧ bitI x q = true := by
  apply Classical.byContradiction
  intro H
  refine h (bitI_zero.mpr (fun q hq => ?_))
  cases z : bitI x q with
  | false => rfl
  | true => exact absurd ⟨q, hq, z⟩ H
section
variable {A : Nat → Nat → Int32} {m F : Nat → Nat} {good : Nat → Bool} {V : Nat → Nat → Int32} {w : Nat}
theorem wdL.alive (hg : ∀ c, F 12 ≤ c → good c = false) (h9 : F 13 ≤ 9) (L : wdL V A m F good w) {d : Nat} (h : safeS (ldW A m F w) (F 13) (nWd A m F w) (F 12) good d = true) : d < F 12 ∧ alv (V 74) d = true := by
  have f := safe_fix hg h
  have hd : d < F 12 := Decidable.byContradiction (fun z => by rw [hg d (by omega)] at f; cases f.1)
  obtain ⟨q, h1, h2⟩ := canB_iff.mp f.2
  exact ⟨hd, decide_eq_true (bitI_ne (q := q) (by omega) (L.1 d q hd h1 h h2))⟩
theorem okMw.start (K : okW A m F) (C : okC A m F) (hw : w + 1 ≤ 2) (O : okMw V A m F good w) : wdL V A m F good (w + 1) ∧ wdR V A m F w (fun _ _ => False) := by
  have h9 := C.2.2.2.2.2.1
  refine ⟨⟨fun c q hc hq h1 h2 => ?_, fun c q hc hq h1 => ?_⟩, fun c q hc hq h1 => ⟨fun z => z.elim, fun _ => O.2 c q hc hq h1⟩⟩
  · exact (O.1 c hc q (by omega)).mpr ⟨hq, kp_dn K C hw _ _ h1, intoB_mono (kp_dn K C hw _) (into_dn K C hw h2)⟩
  · have := (O.1 c hc q hq).mp h1
    exact ⟨this.1, kpS_good _ _ this.2.1⟩
end
section
variable {S : Nat → Nat → Int32} {Z : Nat → Nat → Int64} {D Ln : Nat → Nat} {b : Nat} {A : Nat → Nat → Int32} {N : Nat → Int64} {m F : Nat → Nat}
theorem stays_at {w c q : Nat} (hw : w ≤ 2) (hc : c < F 12) (hq : q < F 13) (hlen : F 12 * F 13 * (F 12 / 32 + 1) ≤ Ln 75) {h : aH} {V : Nat → Nat → Int32} (C : CC h S V Z D Ln b A N m F) :
    ∃ h' V' r, s_X7_staysByWider 69 (jI c) (jI q) (jI w) h = some (.inl (some (.int (b01 r))), h') ∧ CC h' S V' Z D Ln b A N m F ∧ Oc D h h' ∧ Sm [70, 75] V V' ∧
        (∀ r' e, e < 32 * (F 12 / 32 + 1) → r' ≠ c * F 13 + q → bit (V' 75) (r' * (F 12 / 32 + 1)) e = bit (V 75) (r' * (F 12 / 32 + 1)) e) ∧
        ((∀ y, y < nWd A m F w → edgW A m F w y = true → tst (ldW A m F w c q y) (alv (V 74)) = true) → r = true) ∧
        (r = true → ∀ e, e < 32 * (F 12 / 32 + 1) → (bit (V' 75) ((c * F 13 + q) * (F 12 / 32 + 1)) e = true ↔ bit (V 75) ((c * F 13 + q) * (F 12 / 32 + 1)) e = true ∨ ∃ y, y < nWd A m F w ∧ edgW A m F w y = true ∧ e = markC (ldW A m F w c q y) (F 12))) := by
  obtain ⟨X, HM, K, hC, hwd⟩ := id C
  have nle := nWd_le K hC hw
  have g0 : gO h (.ref 69) 7 0 = some 3 := gO_of (ltE (by decide)) (X.1 69 rfl) rfl
  have g3 : gO h (.ref 69) 7 3 = some 70 := gO_of (ltE (by decide)) (X.1 69 rfl) rfl
  have ep : s_X2_parts 3 2 (jI w) h = some (.inl (some (.int (jI (prtN A (jI w) 5 (m 2))))), h) := partsN_at HM (k := 2) (by decide) (K.1.2.1 2 (by decide)) (K.1.1.base (by decide)) (jI w)
  obtain ⟨h1, e1, C1, O1⟩ := C.spr (a := 70) rfl rfl (k := 0) (by decide) (jI c)
  have G0 : gO h1 (.ref 69) 7 0 = some 3 := gO_of (ltE (by decide)) (C1.1.1 69 rfl) rfl
  have G3 : gO h1 (.ref 69) 7 3 = some 70 := gO_of (ltE (by decide)) (C1.1.1 69 rfl) rfl
  obtain ⟨h2, e2, C2, O2⟩ := C1.spr (a := 70) rfl rfl (k := 1) (by decide) (jI q)
  rw [upd2_2, upd2_eq] at C2
  have hv : cqV A m c q (sprGo A 0 (baseN 1) (m 1) (jI q) (sprGo A 0 (baseN 0) (m 0) (jI c) (V 70))) := fun s hs => by
    obtain ⟨k0, k1, -, -, -⟩ := K.1.1
    show sprGo A 0 3 (m 1) (jI q) (sprGo A 0 0 (m 0) (jI c) (V 70)) s = _
    by_cases t : 3 ≤ s ∧ s < 3 + m 1
    · exact spr_in A 0 3 (m 1) _ _ _ s t.1 t.2
    · rw [spr_out A 0 3 (m 1) _ _ s (by omega), spr_out A 0 3 (m 1) _ _ s (by omega)]
      exact spr_in A 0 0 (m 0) _ _ _ s (Nat.zero_le _) (by omega)
  obtain ⟨h', V', r, ih, i1, i2, i3, i4, i5, i6⟩ := st50_go hw hc hq hlen (nWd A m F w) 0 FU h2 _ (by omega) (by unfold FU; omega) C2 (by rw [upd2_eq]; exact hv)
  rw [upd2_ne (by decide)] at i4 i5 i6
  refine ⟨h', V', r, ?_, i1, (O1.trans O2).trans i2, (Sm.refl.upd (by decide)).trans i3, i4, fun H => i5 (fun y _ h2 h3 => H y h2 h3), fun hr e he => ((i6 hr).2 e he).trans ⟨?_, ?_⟩⟩
  · have e1' : s_X2_spread 3 0 (jI c) 0 70 h = some (.inl none, h1) := e1
    have e2' : s_X2_spread 3 1 (jI q) 0 70 h1 = some (.inl none, h2) := e2
    have ih' : s_X7_staysByWider_50 FU 69 (jI c) (jI q) (jI w) (jI (prtN A (jI w) 5 (m 2) * F 15)) 0 h2 = _ := ih
    unfold s_X7_staysByWider
    simp only [g0, g3, Option.bind_some, C.kO3, ep, cI, C.f15, e1', cN, G0, G3, C1.kO3, e2', jI_mul]
    exact ih'
  · rintro (t | ⟨y, _, h2, h3⟩)
    · exact Or.inl t
    · exact Or.inr ⟨y, h2, h3⟩
  · rintro (t | ⟨y, h2, h3⟩)
    · exact Or.inl t
    · exact Or.inr ⟨y, Nat.zero_le _, h2, h3⟩
theorem row_ne {P c q c' q' : Nat} (hq : q < P) (hq' : q' < P) (h : ¬ (c' = c ∧ q' = q)) : c' * P + q' ≠ c * P + q := fun e => h (rc_inj hq' hq e)
theorem wdR.keep {V V' : Nat → Nat → Int32} {w : Nat} {pr pr' : Nat → Nat → Prop} {c q : Nat} (hq : q < F 13) (R : wdR V A m F w pr) (hpr : ∀ c' q', ¬ (c' = c ∧ q' = q) → (pr' c' q' ↔ pr c' q')) (hsub : ∀ c' q', c' < F 12 → q' < 32 → bitI (V' 74 c') q' = true → bitI (V 74 c') q' = true) (h9 : F 13 ≤ 9)
    (hrow : ∀ r' e, e < 32 * (F 12 / 32 + 1) → r' ≠ c * F 13 + q → bit (V' 75) (r' * (F 12 / 32 + 1)) e = bit (V 75) (r' * (F 12 / 32 + 1)) e)
    (hcq : bitI (V' 74 c) q = true → pr' c q ∧ rwM (V' 75) F (ldW A m F (w + 1) c q) (nWd A m F (w + 1)) (c * F 13 + q)) : wdR V' A m F w pr' := fun c' q' hc' hq' hb => by
  by_cases z : c' = c ∧ q' = q
  · rw [z.1, z.2] at hb ⊢
    exact ⟨fun _ => (hcq hb).2, fun t => absurd (hcq hb).1 t⟩
  · have old := R c' q' hc' hq' (hsub c' q' hc' (by omega) hb)
    rw [hpr c' q' z]
    refine ⟨fun t e he => ?_, fun t e he => ?_⟩
    · rw [hrow _ e he (row_ne hq hq' z)]
      exact old.1 t e he
    · rw [hrow _ e he (row_ne hq hq' z)]
      exact old.2 t e he
def prW (c q : Nat) (c' q' : Nat) : Prop := c' < c ∨ (c' = c ∧ q' < q)
theorem wd15_go {good : Nat → Bool} (hg : ∀ c, F 12 ≤ c → good c = false) {w c : Nat} (hw : w + 1 ≤ 2) (hc : c < F 12) (hlen : F 12 * F 13 * (F 12 / 32 + 1) ≤ Ln 75) {k2 : Nat → Int32 → Int32 → aH → aO} :
    ∀ (n q f : Nat) (h : aH) (V : Nat → Nat → Int32), q + n = F 13 → n < f → CC h S V Z D Ln b A N m F → wdL V A m F good (w + 1) → wdR V A m F w (prW c q) →
      ∃ h' V', s_X7_widen_15 k2 f 69 (jI (w + 1)) (jI c) (jI q) h = k2 69 (jI (w + 1)) (jI (c + 1)) h' ∧ CC h' S V' Z D Ln b A N m F ∧ Oc D h h' ∧ Sm [70, 74, 75] V V' ∧ wdL V' A m F good (w + 1) ∧ wdR V' A m F w (prW (c + 1) 0)
  | _, _, 0, _, _, _, hf, _, _, _ => by omega
  | 0, q, f + 1, h, V, hk, hf, C, L, R => by
    have h9 := C.2.2.2.1.2.2.2.2.2.1
    have g0 : gO h (.ref 69) 7 0 = some 3 := gO_of (ltE (by decide)) (C.1.1 69 rfl) rfl
    refine ⟨h, V, ?_, C, Oc.refl, Sm.refl, L, fun c' q' hc' hq' hb => ?_⟩
    · show s_X7_widen_15_b k2 (s_X7_widen_15 k2 f) 69 (jI (w + 1)) (jI c) (jI q) h = _
      unfold s_X7_widen_15_b
      rw [g0, Option.bind_some, C.f13, Option.bind_some, if_pos ((jI_le (by omega) (by omega)).mpr (by omega)), jI_inc]
    · have e : prW (c + 1) 0 c' q' ↔ prW c q c' q' := by unfold prW; omega
      rw [e]
      exact R c' q' hc' hq' hb
  | n + 1, q, f + 1, h, V, hk, hf, C, L, R => by
    obtain ⟨X, HM, K, hC, hwd⟩ := id C
    have h9 := hC.2.2.2.2.2.1
    have h400 := hC.2.2.2.2.1
    have hq : q < F 13 := by omega
    have g0 : gO h (.ref 69) 7 0 = some 3 := gO_of (ltE (by decide)) (X.1 69 rfl) rfl
    have g10 : gO h (.ref 69) 7 10 = some 74 := gO_of (ltE (by decide)) (X.1 69 rfl) rfl
    have l74 : ldI .int h (.ref 74) (jI c) = some (V 74 c) := X.ld (a := 74) rfl (show c < 400 by omega)
    have ppr : ∀ c' q', ¬ (c' = c ∧ q' = q) → (prW c (q + 1) c' q' ↔ prW c q c' q') := fun c' q' z => by unfold prW; omega
    by_cases z : bitI (V 74 c) q = true
    · have zz : ¬ ((V 74 c >>> (jI q &&& 31)) &&& 1) = 0 := fun t => by
        rw [bitI_test (by omega), z] at t; cases t
      obtain ⟨h1, V1, r, e1, C1, O1, M1, a1, a2, a3⟩ := stays_at hw hc hq hlen C
      have v74 : V1 74 = V 74 := M1 74 (by decide)
      have G10 : gO h1 (.ref 69) 7 10 = some 74 := gO_of (ltE (by decide)) (C1.1.1 69 rfl) rfl
      cases r with
      | true =>
        have R1 : wdR V1 A m F w (prW c (q + 1)) := by
          refine R.keep (c := c) (q := q) hq ppr (fun c' q' h1 h2 h3 => by rw [← v74]; exact h3) h9 a1 (fun _ => ⟨Or.inr ⟨rfl, by omega⟩, fun e he => ?_⟩)
          rw [a3 rfl e he, (R c q hc hq z).2 (by unfold prW; omega) e he]
          constructor
          · rintro (⟨x, h1, h2⟩ | ⟨y, h1, _, h2⟩)
            · obtain ⟨y, y1, y2⟩ := wide_up K hC hw h1
              exact ⟨y, y1, by rw [y2]; exact h2⟩
            · exact ⟨y, h1, h2⟩
          · rintro ⟨y, h1, h2⟩
            cases ed : edgW A m F (w + 1) y with
            | true => exact Or.inr ⟨y, h1, ed, h2⟩
            | false =>
              obtain ⟨x, x1, x2⟩ := edgW_dn K hC hw h1 ed
              exact Or.inl ⟨x, x1, by rw [← x2]; exact h2⟩
        obtain ⟨h', V', ih, i1, i2, i3, i4, i5⟩ := wd15_go hg hw hc hlen (k2 := k2) n (q + 1) f h1 V1 (by omega) (by omega) C1 ⟨fun c q x1 x2 x3 x4 => by rw [v74]; exact L.1 c q x1 x2 x3 x4, fun c q x1 x2 x3 => by rw [v74] at x3; exact L.2 c q x1 x2 x3⟩ R1
        refine ⟨h', V', ?_, i1, O1.trans i2, (M1.mono (by decide)).trans i3, i4, i5⟩
        show s_X7_widen_15_b k2 (s_X7_widen_15 k2 f) 69 (jI (w + 1)) (jI c) (jI q) h = _
        unfold s_X7_widen_15_b
        rw [g0, Option.bind_some, C.f13, Option.bind_some, if_neg (fun t => by have := (jI_le (by omega) (by omega)).mp t; omega), g10, Option.bind_some, l74, Option.bind_some, if_neg zz, kO_of (ltE (by decide)) (X.1 69 rfl), e1]
        simp only [cI]
        rw [if_neg (show ¬ b01 true = 0 by decide), jI_inc]
        exact ih
      | false =>
        have l1 : ldI .int h1 (.ref 74) (jI c) = some (V 74 c) := by
          rw [← v74]
          exact C1.1.ld (a := 74) rfl (show c < 400 by omega)
        obtain ⟨h2, e2, X2, O2⟩ := C1.1.st (a := 74) (j := c) rfl (show c < 400 by omega) (V 74 c &&& ((1 <<< (jI q &&& 31)) ^^^ (-1)))
        have C2 := C1.to X2 O2 rfl
        obtain ⟨V2, hV2⟩ : ∃ V2, V2 = upd2 V1 74 (upd (V1 74) c (V 74 c &&& ((1 <<< (jI q &&& 31)) ^^^ (-1)))) := ⟨_, rfl⟩
        rw [← hV2] at C2
        have b2 : ∀ c' q', q' < 32 → (bitI (V2 74 c') q' = true ↔ bitI (V 74 c') q' = true ∧ ¬ (c' = c ∧ q' = q)) := fun c' q' hq' => by
          rw [hV2, upd2_eq]
          by_cases t : c' = c
          · rw [t, upd_eq, bitI_clr (by omega) hq']
            exact and_congr Iff.rfl ⟨fun t1 t2 => t1 t2.2, fun t1 t2 => t1 ⟨rfl, t2⟩⟩
          · rw [upd_ne t, v74]
            exact ⟨fun u => ⟨u, fun t2 => t t2.1⟩, fun u => u.1⟩
        have v75 : V2 75 = V1 75 := by rw [hV2, upd2_ne (by decide)]
        have R2 : wdR V2 A m F w (prW c (q + 1)) := by
          refine R.keep (c := c) (q := q) hq ppr (fun c' q' h1 h2 h3 => ((b2 c' q' h2).mp h3).1) h9 (fun r' e he hr => by rw [v75]; exact a1 r' e he hr) (fun t => absurd ⟨rfl, rfl⟩ ((b2 c q (by omega)).mp t).2)
        have L2 : wdL V2 A m F good (w + 1) := by
          refine ⟨fun c' q' x1 x2 x3 x4 => (b2 c' q' (by omega)).mpr ⟨L.1 c' q' x1 x2 x3 x4, fun t => ?_⟩, fun c' q' x1 x2 x3 => L.2 c' q' x1 x2 ((b2 c' q' x2).mp x3).1⟩
          rw [t.1, t.2] at x4
          have := a2 (fun y y1 _ => tst_mono (fun d hd => (L.alive hg h9 hd).2) (intoB_all.mp x4 y y1))
          cases this
        obtain ⟨h', V', ih, i1, i2, i3, i4, i5⟩ := wd15_go hg hw hc hlen (k2 := k2) n (q + 1) f h2 V2 (by omega) (by omega) C2 L2 R2
        have M2 : Sm [70, 74, 75] V V2 := by rw [hV2]; exact (M1.mono (by decide)).upd (by decide)
        refine ⟨h', V', ?_, i1, (O1.trans O2).trans i2, M2.trans i3, i4, i5⟩
        show s_X7_widen_15_b k2 (s_X7_widen_15 k2 f) 69 (jI (w + 1)) (jI c) (jI q) h = _
        unfold s_X7_widen_15_b
        rw [g0, Option.bind_some, C.f13, Option.bind_some, if_neg (fun t => by have := (jI_le (by omega) (by omega)).mp t; omega), g10, Option.bind_some, l74, Option.bind_some, if_neg zz, kO_of (ltE (by decide)) (X.1 69 rfl), e1]
        simp only [cI]
        rw [if_pos b01_f, G10, Option.bind_some, l1, Option.bind_some, e2, Option.bind_some, jI_inc]
        exact ih
    · have zz : ((V 74 c >>> (jI q &&& 31)) &&& 1) = 0 := (bitI_test (by omega)).mpr (by cases t : bitI (V 74 c) q with | false => rfl | true => exact absurd t z)
      obtain ⟨h', V', ih, i1, i2, i3, i4, i5⟩ := wd15_go hg hw hc hlen (k2 := k2) n (q + 1) f h V (by omega) (by omega) C L (R.keep (c := c) (q := q) hq ppr (fun _ _ _ _ t => t) h9 (fun _ _ _ _ => rfl) (fun t => absurd t z))
      refine ⟨h', V', ?_, i1, i2, i3, i4, i5⟩
      show s_X7_widen_15_b k2 (s_X7_widen_15 k2 f) 69 (jI (w + 1)) (jI c) (jI q) h = _
      unfold s_X7_widen_15_b
      rw [g0, Option.bind_some, C.f13, Option.bind_some, if_neg (fun t => by have := (jI_le (by omega) (by omega)).mp t; omega), g10, Option.bind_some, l74, Option.bind_some, if_pos zz, jI_inc]
      exact ih
end
