/-! widen as a whole -/
def deadC (V : Nat → Nat → Int32) (C e : Nat) : Prop := ¬ (e < C ∧ V 74 e ≠ 0)
section
variable {S : Nat → Nat → Int32} {Z : Nat → Nat → Int64} {D Ln : Nat → Nat} {b : Nat} {A : Nat → Nat → Int32} {N : Nat → Int64} {m F : Nat → Nat}
theorem wd85_go : ∀ (n c f : Nat) (h : aH) (V : Nat → Nat → Int32), c + n = F 12 → n < f → CC h S V Z D Ln b A N m F → (∀ e, e < 416 → (bit (V 76) 0 e = true ↔ ¬ (e < c ∧ V 74 e ≠ 0))) →
    ∃ h' V', s_X7_widen_85 f 69 (jI c) h = s_X7_widen_134 FU 69 1 0 h' ∧ CC h' S V' Z D Ln b A N m F ∧ Oc D h h' ∧ Sm [76] V V' ∧ ∀ e, e < 416 → (bit (V' 76) 0 e = true ↔ deadC V (F 12) e)
  | _, _, 0, _, _, _, hf, _, _ => by omega
  | 0, c, f + 1, h, V, hk, hf, C, hz => by
    have h400 := C.2.2.2.1.2.2.2.2.1
    have hc : c = F 12 := by omega
    subst hc
    have g0 : gO h (.ref 69) 7 0 = some 3 := gO_of (ltE (by decide)) (C.1.1 69 rfl) rfl
    refine ⟨h, V, ?_, C, Oc.refl, Sm.refl, hz⟩
    show s_X7_widen_85_b (s_X7_widen_85 f) 69 (jI (F 12)) h = _
    unfold s_X7_widen_85_b
    rw [g0, Option.bind_some, C.f12, Option.bind_some, if_pos ((jI_le (by omega) (by omega)).mpr (by omega))]
  | n + 1, c, f + 1, h, V, hk, hf, C, hz => by
    obtain ⟨X, HM, K, hC, hwd⟩ := id C
    have h400 := hC.2.2.2.2.1
    have g0 : gO h (.ref 69) 7 0 = some 3 := gO_of (ltE (by decide)) (X.1 69 rfl) rfl
    have g10 : gO h (.ref 69) 7 10 = some 74 := gO_of (ltE (by decide)) (X.1 69 rfl) rfl
    have g12 : gO h (.ref 69) 7 12 = some 76 := gO_of (ltE (by decide)) (X.1 69 rfl) rfl
    have l74 : ldI .int h (.ref 74) (jI c) = some (V 74 c) := X.ld (a := 74) rfl (show c < 400 by omega)
    by_cases z : V 74 c = 0
    · obtain ⟨h', V', ih, i1, i2, i3, i4⟩ := wd85_go n (c + 1) f h V (by omega) (by omega) C (fun e he => (hz e he).trans (not_congr ⟨fun t => ⟨by omega, t.2⟩, fun t => ⟨by
        have : e ≠ c := fun u => t.2 (by rw [u]; exact z)
        omega, t.2⟩⟩))
      refine ⟨h', V', ?_, i1, i2, i3, i4⟩
      show s_X7_widen_85_b (s_X7_widen_85 f) 69 (jI c) h = _
      unfold s_X7_widen_85_b
      rw [g0, Option.bind_some, C.f12, Option.bind_some, if_neg (fun t => by have := (jI_le (by omega) (by omega)).mp t; omega), g10, Option.bind_some, l74, Option.bind_some, if_pos z, jI_inc]
      exact ih
    · have e5 := sh5_code c (by omega)
      have e31 := and31_code c (by omega)
      have l76 : ldI .int h (.ref 76) (jI (c / 32)) = some (V 76 (c / 32)) := X.ld (a := 76) rfl (show c / 32 < 13 by omega)
      obtain ⟨h1, e1, X1, O1⟩ := X.st (a := 76) (j := c / 32) rfl (show c / 32 < 13 by omega) (V 76 (c / 32) &&& ((1 <<< (jI (c % 32) &&& 31)) ^^^ (-1)))
      have C1 := C.to X1 O1 rfl
      obtain ⟨V1, hV1⟩ : ∃ V1, V1 = upd2 V 76 (upd (V 76) (c / 32) (V 76 (c / 32) &&& ((1 <<< (jI (c % 32) &&& 31)) ^^^ (-1)))) := ⟨_, rfl⟩
      rw [← hV1] at C1
      have v74 : V1 74 = V 74 := by rw [hV1, upd2_ne (by decide)]
      obtain ⟨h', V', ih, i1, i2, i3, i4⟩ := wd85_go n (c + 1) f h1 V1 (by omega) (by omega) C1 (fun e he => by
        have old := hz e he
        have hb : bit (V1 76) 0 e = true ↔ bit (V 76) 0 e = true ∧ e ≠ c := by
          unfold bit
          rw [hV1, upd2_eq, Nat.zero_add]
          by_cases t : e / 32 = c / 32
          · rw [t, upd_eq]
            refine (bitI_clr (k := V 76 (c / 32)) (p := c % 32) (q := e % 32) (by omega) (by omega)).trans (and_congr Iff.rfl ?_)
            omega
          · rw [upd_ne t]
            exact ⟨fun u => ⟨u, fun v => t (by rw [v])⟩, fun u => u.1⟩
        rw [hb, old, v74]
        constructor
        · rintro ⟨t1, t2⟩ t3
          exact t1 ⟨by omega, t3.2⟩
        · intro t
          refine ⟨fun u => t ⟨by omega, u.2⟩, fun u => t ⟨by omega, by rw [u]; exact z⟩⟩)
      refine ⟨h', V', ?_, i1, O1.trans i2, (by rw [hV1] at i3; exact (Sm.refl.upd (by decide)).trans i3), fun e he => by
        rw [i4 e he]
        unfold deadC
        rw [v74]⟩
      show s_X7_widen_85_b (s_X7_widen_85 f) 69 (jI c) h = _
      unfold s_X7_widen_85_b
      rw [g0, Option.bind_some, C.f12, Option.bind_some, if_neg (fun t => by have := (jI_le (by omega) (by omega)).mp t; omega), g10, Option.bind_some, l74, Option.bind_some, if_neg z, g12, Option.bind_some, e5, l76, Option.bind_some, e31, e1, Option.bind_some, jI_inc]
      exact ih
/-- the rounds behind a wider world -/
def wdG (V : Nat → Nat → Int32) (A : Nat → Nat → Int32) (m F : Nat → Nat) (w : Nat) : Prop :=
  (∀ c q, c < F 12 → q < F 13 → bitI (V 74 c) q = true → rwM (V 75) F (ldW A m F w c q) (nWd A m F w) (c * F 13 + q)) ∧
  (∀ c q, c < F 12 → q < F 13 → bitI (V 74 c) q = true → ∀ y, y < nWd A m F w → deadC V (F 12) (markC (ldW A m F w c q y) (F 12)) → bit (V 76) 0 (markC (ldW A m F w c q y) (F 12)) = true) ∧
  ∀ e, e < 416 → bit (V 76) 0 e = true → deadC V (F 12) e
def wdE (V : Nat → Nat → Int32) (A : Nat → Nat → Int32) (m F : Nat → Nat) (w : Nat) : Prop := ∀ c q, c < F 12 → q < F 13 → bitI (V 74 c) q = true → ∀ y, y < nWd A m F w → ¬ deadC V (F 12) (markC (ldW A m F w c q y) (F 12))
theorem mark_lt (K : okW A m F) (hC : okC A m F) (w c q y : Nat) : markC (ldW A m F w c q y) (F 12) ≤ F 12 := (ldW_is K hC w c q y).mark (by have := hC.2.2.2.2.1; omega)
theorem cnt0 {T : Nat → Bool} : ∀ C, cntB T C = 0 → ∀ c, c < C → T c = false
  | 0, _, _, hc => by omega
  | C + 1, h, c, hc => by
    have h : cntB T C + (if T C then 1 else 0) = 0 := h
    by_cases q : c = C
    · rw [q]
      cases z : T C with
      | false => rfl
      | true => rw [z, if_pos rfl] at h; omega
    · exact cnt0 C (by omega) c (by omega)
theorem wd134_go {good : Nat → Bool} (hg : ∀ c, F 12 ≤ c → good c = false) {w : Nat} (hlen : F 12 * F 13 * (F 12 / 32 + 1) ≤ Ln 75) : ∀ (f k g : Nat) (h : aH) (V : Nat → Nat → Int32), F 12 + 3 < f + k → g ≤ 1000 → CC h S V Z D Ln b A N m F → wdL V A m F good w → wdG V A m F w → (g = 0 → wdE V A m F w) → (0 < g → cntB (alv (V 74)) (F 12) + k ≤ F 12) → k ≤ F 12 + 1 →
    ∃ h' V', s_X7_widen_134 f 69 (jI g) (jI k) h = some (.inl none, h') ∧ CC h' S V' Z D Ln b A N m F ∧ Oc D h h' ∧ Sm [74, 76, 77] V V' ∧ wdL V' A m F good w ∧ wdG V' A m F w ∧ wdE V' A m F w
  | 0, k, g, _, _, hf, _, _, _, _, _, _, hk => by omega
  | f + 1, k, g, h, V, hf, hgl, C, L, G, E, cn, hk => by
    obtain ⟨X, HM, K, hC, hwd⟩ := id C
    have h400 := hC.2.2.2.2.1
    have h9 := hC.2.2.2.2.2.1
    by_cases z : g = 0
    · refine ⟨h, V, ?_, C, Oc.refl, Sm.refl, L, G, E z⟩
      show s_X7_widen_134_b (s_X7_widen_134 f) 69 (jI g) (jI k) h = _
      unfold s_X7_widen_134_b
      rw [if_pos (show jI g ≤ (0 : Int32) by rw [z]; exact Int32.le_refl _)]
    · have cn' := cn (by omega)
      have g0 : gO h (.ref 69) 7 0 = some 3 := gO_of (ltE (by decide)) (X.1 69 rfl) rfl
      have g10 : gO h (.ref 69) 7 10 = some 74 := gO_of (ltE (by decide)) (X.1 69 rfl) rfl
      have g11 : gO h (.ref 69) 7 11 = some (D 75) := gO_of (ltE (by decide)) (X.1 69 rfl) rfl
      obtain ⟨h1, V1, e1, C1, O1, M1, a1, a2⟩ := shrink_at (rid := 75) (oid := 74) rfl (Or.inr rfl) C hlen
      have v75 : V1 75 = V 75 := M1 75 (by decide)
      have sub : ∀ c q, c < F 12 → q < 32 → bitI (V1 74 c) q = true → bitI (V 74 c) q = true := fun c q hc hq t => ((a1 c hc q hq).mp t).1
      have mlt : ∀ c q y, markC (ldW A m F w c q y) (F 12) < 32 * (F 12 / 32 + 1) := fun c q y => by
        have := mark_lt K hC w c q y
        omega
      have L1 : wdL V1 A m F good w := by
        refine ⟨fun c q x1 x2 x3 x4 => (a1 c x1 q (by omega)).mpr ⟨L.1 c q x1 x2 x3 x4, fun _ e he t => ?_⟩, fun c q x1 x2 x3 => L.2 c q x1 x2 (sub c q x1 x2 x3)⟩
        obtain ⟨y, y1, y2⟩ := (G.1 c q x1 x2 (L.1 c q x1 x2 x3 x4) e he).mp t.1
        have dd := G.2.2 e (by omega) t.2
        have tt := intoB_all.mp x4 y y1
        rcases ldW_is K hC w c q y with u | ⟨d, u, hd⟩
        · rw [u, tst_out] at tt; cases tt
        · rw [u, tst_in (by omega)] at tt
          have al := L.alive hg h9 tt
          have hm : markC (jI d) (F 12) = d := by
            unfold markC
            rw [if_pos (i32_nlt.mp (jI_neg (by omega))), jI_cl (by omega)]
          rw [u, hm] at y2
          rw [y2] at dd
          exact dd ⟨al.1, of_decide_eq_true al.2⟩
      have key : ∀ c q, c < F 12 → q < F 13 → bitI (V1 74 c) q = true → ∀ y, y < nWd A m F w → deadC V1 (F 12) (markC (ldW A m F w c q y) (F 12)) → markC (ldW A m F w c q y) (F 12) < F 12 ∧ wnt (V 74) (V1 74) (markC (ldW A m F w c q y) (F 12)) = true := by
        intro c q hc hq hb y hy hd
        obtain ⟨b0, b1⟩ := (a1 c hc q (by omega)).mp hb
        have row := (G.1 c q hc hq b0 _ (mlt c q y)).mpr ⟨y, hy, rfl⟩
        by_cases od : deadC V (F 12) (markC (ldW A m F w c q y) (F 12))
        · exact absurd ⟨row, G.2.1 c q hc hq b0 y hy od⟩ (b1 hq _ (mlt c q y))
        · have od' := Classical.not_not.mp od
          refine ⟨od'.1, ?_⟩
          unfold wnt
          rw [Bool.and_eq_true, decide_eq_true_eq, decide_eq_true_eq]
          exact ⟨od'.2, Classical.byContradiction (fun t => hd ⟨od'.1, t⟩)⟩
      have G1 : wdG V1 A m F w := by
        refine ⟨fun c q hc hq hb => by rw [v75]; exact G.1 c q hc hq (sub c q hc (by omega) hb), fun c q hc hq hb y hy hd => ?_, fun e he t => ?_⟩
        · have := key c q hc hq hb y hy hd
          exact (a2 _ (by have := mlt c q y; omega)).mpr this
        · have := (a2 e he).mp t
          have t2 := this.2
          unfold wnt at t2
          rw [Bool.and_eq_true, decide_eq_true_eq, decide_eq_true_eq] at t2
          exact fun u => u.2 t2.2
      have cle := cntB_le (wnt (V 74) (V1 74)) (F 12)
      obtain ⟨g', hg'⟩ : ∃ g', g' = cntB (wnt (V 74) (V1 74)) (F 12) := ⟨_, rfl⟩
      rw [← hg'] at e1 cle
      have cd := cnt_diff (T := alv (V 74)) (T' := alv (V1 74)) (F 12) (fun c hc t => by
        obtain ⟨q, q1, q2⟩ := bitI_ex (of_decide_eq_true t)
        exact decide_eq_true (bitI_ne q1 (sub c q hc q1 q2)))
      have ce : cntB (fun c => alv (V 74) c && !alv (V1 74) c) (F 12) = g' := by
        rw [hg']
        refine cntB_congr _ (fun c _ => ?_)
        show (decide (V 74 c ≠ 0) && !decide (V1 74 c ≠ 0)) = (decide (V 74 c ≠ 0) && decide (V1 74 c = 0))
        by_cases u : V1 74 c = 0 <;> simp [u]
      rw [ce] at cd
      obtain ⟨h', V', ih, i1, i2, i3, i4, i5, i6⟩ := wd134_go hg hlen f (k + 1) g' h1 V1 (by omega) (by omega) C1 L1 G1 (fun gz c q hc hq hb y hy hd => by
        have := key c q hc hq hb y hy hd
        rw [cnt0 (T := wnt (V 74) (V1 74)) (F 12) (by rw [← hg']; exact gz) _ this.1] at this
        cases this.2) (fun _ => by omega) (by omega)
      refine ⟨h', V', ?_, i1, O1.trans i2, M1.trans i3, i4, i5, i6⟩
      show s_X7_widen_134_b (s_X7_widen_134 f) 69 (jI g) (jI k) h = _
      unfold s_X7_widen_134_b
      rw [if_neg (fun t => by have := (jI_le (k := 0) (by omega) (by omega)).mp t; omega), g0, Option.bind_some, C.f12, Option.bind_some, if_neg (fun t => by have := (jI_lt (by omega) (by omega)).mp t; omega), g11, Option.bind_some, g10, Option.bind_some, kO_of (ltE (by decide)) (X.1 69 rfl), e1]
      simp only [cI, jI_inc]
      exact ih
theorem wdE.fin {good : Nat → Bool} {V : Nat → Nat → Int32} {w : Nat} (K : okW A m F) (hC : okC A m F) (hg : ∀ c, F 12 ≤ c → good c = false) (L : wdL V A m F good w) (G : wdG V A m F w) (E : wdE V A m F w) : okMw V A m F good w := by
  have h9 := hC.2.2.2.2.2.1
  have h400 := hC.2.2.2.2.1
  have into : ∀ c q, c < F 12 → q < F 13 → bitI (V 74 c) q = true → intoB (ldW A m F w c q) (nWd A m F w) (fun d => decide (d < F 12) && alv (V 74) d) = true := fun c q hc hq hb => intoB_all.mpr (fun y hy => by
    have := Classical.not_not.mp (E c q hc hq hb y hy)
    rcases ldW_is K hC w c q y with u | ⟨d, u, hd⟩
    · rw [u] at this
      unfold markC at this
      rw [if_neg (by decide)] at this
      omega
    · have hm : markC (jI d) (F 12) = d := by
        unfold markC
        rw [if_pos (i32_nlt.mp (jI_neg (by omega))), jI_cl (by omega)]
      rw [u, hm] at this
      rw [u, tst_in (by omega), Bool.and_eq_true, decide_eq_true_eq]
      exact ⟨this.1, decide_eq_true this.2⟩)
  have gfp : ∀ c, (decide (c < F 12) && alv (V 74) c) = true → safeS (ldW A m F w) (F 13) (nWd A m F w) (F 12) good c = true := safe_gfp (T := fun d => decide (d < F 12) && alv (V 74) d) (fun c hc => by
    rw [Bool.and_eq_true, decide_eq_true_eq] at hc
    obtain ⟨q, q1, q2⟩ := bitI_ex (of_decide_eq_true hc.2)
    have lq := L.2 c q hc.1 q1 q2
    exact ⟨lq.2, canB_iff.mpr ⟨q, lq.1, into c q hc.1 lq.1 q2⟩⟩) (F 12)
  refine ⟨fun c hc q hq => ⟨fun hb => ?_, fun t => L.1 c q hc t.1 t.2.1 t.2.2⟩, G.1⟩
  have lq := L.2 c q hc hq hb
  exact ⟨lq.1, gfp c (by rw [Bool.and_eq_true, decide_eq_true_eq]; exact ⟨hc, decide_eq_true (bitI_ne hq hb)⟩), intoB_mono gfp (into c q hc lq.1 hb)⟩
theorem wd2_go {good : Nat → Bool} (hg : ∀ c, F 12 ≤ c → good c = false) {w : Nat} (hw : w + 1 ≤ 2) (hlen : F 12 * F 13 * (F 12 / 32 + 1) ≤ Ln 75) :
    ∀ (n c f : Nat) (h : aH) (V : Nat → Nat → Int32), c + n = F 12 → n < f → CC h S V Z D Ln b A N m F → wdL V A m F good (w + 1) → wdR V A m F w (prW c 0) →
      ∃ h' V', s_X7_widen_2 f 69 (jI (w + 1)) (jI c) h = some (.inl none, h') ∧ CC h' S V' Z D Ln b A N m F ∧ Oc D h h' ∧ Sm [70, 74, 75, 76, 77] V V' ∧ okMw V' A m F good (w + 1)
  | _, _, 0, _, _, _, hf, _, _, _ => by omega
  | 0, c, f + 1, h, V, hk, hf, C, L, R => by
    obtain ⟨X, HM, K, hC, hwd⟩ := id C
    have h400 := hC.2.2.2.2.1
    have h9 := hC.2.2.2.2.2.1
    have g0 : gO h (.ref 69) 7 0 = some 3 := gO_of (ltE (by decide)) (X.1 69 rfl) rfl
    have g12 : gO h (.ref 69) 7 12 = some 76 := gO_of (ltE (by decide)) (X.1 69 rfl) rfl
    have e1 := fill_at (x := -1) (ltE (by decide)) (show 13 < 1000000 by decide) (X.2.1 76 rfl)
    have r1 := X.row (a := 76) (g := filF (V 76) 0 13 (-1)) rfl
    obtain ⟨h1, hh1⟩ : ∃ h1, h1 = h.set 76 (.inl (.int, lnC 76, .inl (filF (V 76) 0 13 (-1)))) := ⟨_, rfl⟩
    rw [← hh1] at r1
    have e1' : s_J7_fill_53178 76 (-1) h = some (.inl none, h1) := by rw [hh1]; exact e1
    have C1 := C.to r1.1 r1.2 rfl
    obtain ⟨h2, V2, e2, C2, O2, M2, a2⟩ := wd85_go (F 12) 0 FU h1 _ (by omega) (by unfold FU; omega) C1 (fun e he => by
      refine ⟨fun _ t => by omega, fun _ => ?_⟩
      rw [upd2_eq]
      unfold bit filF
      rw [if_pos ⟨Nat.zero_le _, by omega⟩]
      have : ∀ i, i < 32 → (-1 : Int32).toBitVec.getLsbD i = true := by decide +kernel
      exact this _ (Nat.mod_lt _ (by decide)))
    have M12 : Sm [76] V V2 := (Sm.refl.upd (by decide)).trans M2
    have v74 : V2 74 = V 74 := M12 74 (by decide)
    have v75 : V2 75 = V 75 := M12 75 (by decide)
    have v74' : (upd2 V 76 (filF (V 76) 0 13 (-1))) 74 = V 74 := upd2_ne (by decide)
    have L2 : wdL V2 A m F good (w + 1) := ⟨fun c q x1 x2 x3 x4 => by rw [v74]; exact L.1 c q x1 x2 x3 x4, fun c q x1 x2 x3 => by rw [v74] at x3; exact L.2 c q x1 x2 x3⟩
    have dd : ∀ e, deadC (upd2 V 76 (filF (V 76) 0 13 (-1))) (F 12) e ↔ deadC V2 (F 12) e := fun e => by
      unfold deadC
      rw [v74', v74]
    have G2 : wdG V2 A m F (w + 1) := by
      refine ⟨fun c' q hc hq hb => ?_, fun c' q hc hq hb y hy hd => ?_, fun e he t => (dd e).mp ((a2 e he).mp t)⟩
      · rw [v74] at hb
        rw [v75]
        exact (R c' q hc hq hb).1 (Or.inl (by omega))
      · have := mark_lt K hC (w + 1) c' q y
        exact (a2 _ (by omega)).mpr ((dd _).mpr hd)
    obtain ⟨h3, V3, e3, C3, O3, M3, L3, G3, E3⟩ := wd134_go hg hlen FU 0 1 h2 V2 (by unfold FU; omega) (by decide) C2 L2 G2 (fun z => by cases z) (fun _ => by have := cntB_le (alv (V2 74)) (F 12); omega) (by omega)
    refine ⟨h3, V3, ?_, C3, (r1.2.trans O2).trans O3, (M12.mono (by decide)).trans (M3.mono (by decide)), E3.fin K hC hg L3 G3⟩
    have e2' : s_X7_widen_85 FU 69 0 h1 = s_X7_widen_134 FU 69 1 0 h2 := e2
    have e3' : s_X7_widen_134 FU 69 1 0 h2 = some (.inl none, h3) := e3
    show s_X7_widen_2_b (s_X7_widen_2 f) 69 (jI (w + 1)) (jI c) h = _
    unfold s_X7_widen_2_b
    rw [g0, Option.bind_some, C.f12, Option.bind_some, if_pos ((jI_le (by omega) (by omega)).mpr (by omega)), g12, Option.bind_some, e1']
    simp only [cN]
    rw [e2', e3']
  | n + 1, c, f + 1, h, V, hk, hf, C, L, R => by
    obtain ⟨X, HM, K, hC, hwd⟩ := id C
    have h400 := hC.2.2.2.2.1
    have h9 := hC.2.2.2.2.2.1
    have g0 : gO h (.ref 69) 7 0 = some 3 := gO_of (ltE (by decide)) (X.1 69 rfl) rfl
    obtain ⟨h1, V1, e1, C1, O1, M1, L1, R1⟩ := wd15_go hg hw (show c < F 12 by omega) hlen (k2 := s_X7_widen_2 f) (F 13) 0 FU h V (by omega) (by unfold FU; omega) C L R
    obtain ⟨h', V', ih, i1, i2, i3, i4⟩ := wd2_go hg hw hlen n (c + 1) f h1 V1 (by omega) (by omega) C1 L1 R1
    refine ⟨h', V', ?_, i1, O1.trans i2, (M1.mono (by decide)).trans i3, i4⟩
    show s_X7_widen_2_b (s_X7_widen_2 f) 69 (jI (w + 1)) (jI c) h = _
    unfold s_X7_widen_2_b
    rw [g0, Option.bind_some, C.f12, Option.bind_some, if_neg (fun t => by have := (jI_le (by omega) (by omega)).mp t; omega)]
    exact e1.trans ih
theorem widen_at {good : Nat → Bool} (hg : ∀ c, F 12 ≤ c → good c = false) {w : Nat} (hw : w + 1 ≤ 2) (hlen : F 12 * F 13 * (F 12 / 32 + 1) ≤ Ln 75) {h : aH} {V : Nat → Nat → Int32} (C : CC h S V Z D Ln b A N m F) (O : okMw V A m F good w) :
    ∃ h' V', s_X7_widen 69 (jI (w + 1)) h = some (.inl none, h') ∧ CC h' S V' Z D Ln b A N m F ∧ Oc D h h' ∧ Sm [70, 74, 75, 76, 77] V V' ∧ okMw V' A m F good (w + 1) := by
  have h400 := C.2.2.2.1.2.2.2.2.1
  obtain ⟨L, R⟩ := O.start C.2.2.1 C.2.2.2.1 hw
  obtain ⟨h', V', e, r⟩ := wd2_go hg hw hlen (F 12) 0 FU h V (by omega) (by unfold FU; omega) C L (fun c q hc hq hb => ⟨fun t => by unfold prW at t; omega, fun _ => (R c q hc hq hb).2 (fun t => t)⟩)
  exact ⟨h', V', e, r⟩
end
