/-! the rounds of reaches -/
section
variable {S : Nat → Int32} {wd : Int64} {t : Nat} {fv nv : Value} {Z : Nat → Nat → Int64} {A : Nat → Nat → Int32} {m F : Nat → Nat} {B : Nat → Nat → Int32} {W : Nat → Int64} {G : Nat → Nat}
theorem rch131_go {r : Nat} (hr : r < 1000000) {good goal : Nat → Bool} {ld : Nat → Nat → Nat → Int32} {nw : Nat} (hl : ∀ c p x, isLd (ld c p x) (F 12)) {k97 : Nat → Int32 → Int32 → aH → aO} :
    ∀ (n c f : Nat) (h : aH) (V : Nat → Nat → Int32) (q : Bool), c + n = F 12 → n < f → RC h S wd t fv nv V Z A m F B W G → okMb V (F 12) (F 13) nw ld → gdR V (F 12) good →
      (∀ d, d < 416 → bit (V 153) 0 d = rcS ld (F 13) nw good goal r d) → (∀ d, d < 416 → bit (V 154) 0 d = if d < c then rcS ld (F 13) nw good goal (r + 1) d else rcS ld (F 13) nw good goal r d) →
      (∀ d, d < F 12 → V 157 d = if d < c then tkS ld (F 13) nw good goal (r + 1) d else tkS ld (F 13) nw good goal r d) → (∀ d, d < F 12 → V 158 d = if d < c then lwS ld (F 13) nw good goal (r + 1) d else lwS ld (F 13) nw good goal r d) →
      ∃ h' V' q', s_X14_reaches_131 k97 f 104 (b01 q) (jI (r + 1)) (jI c) h = s_X14_reaches_253 k97 FU 104 (b01 q') (jI (r + 1)) 0 h' ∧ RC h' S wd t fv nv V' Z A m F B W G ∧ Ou h h' ∧ Sm [154, 157, 158] V V' ∧
        (∀ d, d < 416 → bit (V' 154) 0 d = if d < F 12 then rcS ld (F 13) nw good goal (r + 1) d else rcS ld (F 13) nw good goal r d) ∧ (∀ d, d < F 12 → V' 157 d = tkS ld (F 13) nw good goal (r + 1) d) ∧ (∀ d, d < F 12 → V' 158 d = lwS ld (F 13) nw good goal (r + 1) d) ∧
        (q' = true ↔ q = true ∨ ∃ d, c ≤ d ∧ d < F 12 ∧ rcS ld (F 13) nw good goal (r + 1) d = true ∧ rcS ld (F 13) nw good goal r d = false)
  | _, _, 0, _, _, _, _, hf, _, _, _, _, _, _, _ => by omega
  | 0, c, f + 1, h, V, q, hk, hf, C, M, hg, h1, h2, h3, h4 => by
    have hc : c = F 12 := by omega
    subst hc
    refine ⟨h, V, q, ?_, C, Ou.refl, Sm.refl, h2, fun d hd => by rw [h3 d hd, if_pos hd], fun d hd => by rw [h4 d hd, if_pos hd], ⟨Or.inl, fun z => z.elim id (fun ⟨d, d1, d2, _⟩ => by omega)⟩⟩
    obtain ⟨X, -, -, sim, K, hC, s20, s21, s22, s23⟩ := id C
    have h400 := hC.2.2.2.2.1
    have g : gI h (.ref 104) 14 20 = some (jI (F 12)) := s20 ▸ gI_of (ltE (by decide)) X.1 rfl
    show s_X14_reaches_131_b k97 (s_X14_reaches_131 k97 f) 104 (b01 q) (jI (r + 1)) (jI (F 12)) h = _
    unfold s_X14_reaches_131_b
    rw [g, Option.bind_some, if_pos ((jI_le (by omega) (by omega)).mpr (by omega))]
  | n + 1, c, f + 1, h, V, q, hk, hf, C, M, hg, h1, h2, h3, h4 => by
    obtain ⟨X, -, -, sim, K, hC, s20, s21, s22, s23⟩ := id C
    have h400 := hC.2.2.2.2.1
    have h9 := hC.2.2.2.2.2.1
    have g : gI h (.ref 104) 14 20 = some (jI (F 12)) := s20 ▸ gI_of (ltE (by decide)) X.1 rfl
    have g27 : gO h (.ref 104) 14 27 = some 146 := gO_of (ltE (by decide)) X.1 rfl
    have g39 : gO h (.ref 104) 14 39 = some 157 := gO_of (ltE (by decide)) X.1 rfl
    have l : ldI .boolean h (.ref 146) (jI c) = some (b01 (good c)) := (hg c (by omega)) ▸ X.ld (a := 146) rfl (show c < 400 by omega)
    have t0 : V 157 c = tkS ld (F 13) nw good goal r c := by rw [h3 c (by omega), if_neg (Nat.lt_irrefl c)]
    have w0 : V 158 c = lwS ld (F 13) nw good goal r c := by rw [h4 c (by omega), if_neg (Nat.lt_irrefl c)]
    have lt : ldI .int h (.ref 157) (jI c) = some (tkS ld (F 13) nw good goal r c) := t0 ▸ X.ld (a := 157) rfl (show c < 400 by omega)
    have rc1 : rcS ld (F 13) nw good goal (r + 1) c = (rcS ld (F 13) nw good goal r c || (good c && canB ld (F 13) nw (rcS ld (F 13) nw good goal r) c)) := rfl
    have tk1 : tkS ld (F 13) nw good goal (r + 1) c = if !rcS ld (F 13) nw good goal r c && rcS ld (F 13) nw good goal (r + 1) c then jI (r + 1) else tkS ld (F 13) nw good goal r c := rfl
    have lw1 : lwS ld (F 13) nw good goal (r + 1) c = if !rcS ld (F 13) nw good goal r c && rcS ld (F 13) nw good goal (r + 1) c then fpF ld nw (rcS ld (F 13) nw good goal r) c 0 (F 13) else lwS ld (F 13) nw good goal r c := rfl
    have start : ∀ {x : aO}, (if b01 (good c) = 0 then s_X14_reaches_131 k97 f 104 (b01 q) (jI (r + 1)) (jI (c + 1)) h else (if tkS ld (F 13) nw good goal r c = -2 then s_X14_reaches_165 k97 (s_X14_reaches_131 k97 f) FU 104 (b01 q) (jI (r + 1)) (jI c) 0 h else s_X14_reaches_131 k97 f 104 (b01 q) (jI (r + 1)) (jI (c + 1)) h)) = x →
        s_X14_reaches_131 k97 (f + 1) 104 (b01 q) (jI (r + 1)) (jI c) h = x := by
      intro x hx
      show s_X14_reaches_131_b k97 (s_X14_reaches_131 k97 f) 104 (b01 q) (jI (r + 1)) (jI c) h = _
      unfold s_X14_reaches_131_b
      rw [g, Option.bind_some, if_neg (fun q => by have := (jI_le (by omega) (by omega)).mp q; omega)]
      simp only [g27, g39, Option.bind_some, l, lt, jI_inc]
      exact hx
    have nz1 : ¬ b01 true = 0 := by decide
    have step : ∀ (V2 : Nat → Nat → Int32), (∀ d, d < 416 → bit (V2 154) 0 d = if d = c then rcS ld (F 13) nw good goal (r + 1) c else bit (V 154) 0 d) → (∀ d, d < F 12 → V2 157 d = if d = c then tkS ld (F 13) nw good goal (r + 1) c else V 157 d) → (∀ d, d < F 12 → V2 158 d = if d = c then lwS ld (F 13) nw good goal (r + 1) c else V 158 d) →
        (∀ d, d < 416 → bit (V2 154) 0 d = if d < c + 1 then rcS ld (F 13) nw good goal (r + 1) d else rcS ld (F 13) nw good goal r d) ∧ (∀ d, d < F 12 → V2 157 d = if d < c + 1 then tkS ld (F 13) nw good goal (r + 1) d else tkS ld (F 13) nw good goal r d) ∧ (∀ d, d < F 12 → V2 158 d = if d < c + 1 then lwS ld (F 13) nw good goal (r + 1) d else lwS ld (F 13) nw good goal r d) := by
      intro V2 a1 a2 a3
      refine ⟨fun d hd => ?_, fun d hd => ?_, fun d hd => ?_⟩
      · rw [a1 d hd]
        by_cases z : d = c
        · rw [if_pos z, if_pos (by omega), z]
        · rw [if_neg z, h2 d hd]
          by_cases z2 : d < c
          · rw [if_pos z2, if_pos (by omega)]
          · rw [if_neg z2, if_neg (by omega)]
      · rw [a2 d hd]
        by_cases z : d = c
        · rw [if_pos z, if_pos (by omega), z]
        · rw [if_neg z, h3 d hd]
          by_cases z2 : d < c
          · rw [if_pos z2, if_pos (by omega)]
          · rw [if_neg z2, if_neg (by omega)]
      · rw [a3 d hd]
        by_cases z : d = c
        · rw [if_pos z, if_pos (by omega), z]
        · rw [if_neg z, h4 d hd]
          by_cases z2 : d < c
          · rw [if_pos z2, if_pos (by omega)]
          · rw [if_neg z2, if_neg (by omega)]
    have b0 : bit (V 154) 0 c = rcS ld (F 13) nw good goal r c := by rw [h2 c (by omega), if_neg (Nat.lt_irrefl c)]
    -- nothing new here: the walk goes on
    have same : rcS ld (F 13) nw good goal (r + 1) c = rcS ld (F 13) nw good goal r c → ∀ {x : aO} , (∀ {y : aO}, s_X14_reaches_131 k97 f 104 (b01 q) (jI (r + 1)) (jI (c + 1)) h = y → s_X14_reaches_131 k97 (f + 1) 104 (b01 q) (jI (r + 1)) (jI c) h = y) → 
      ∃ h' V' q', s_X14_reaches_131 k97 (f + 1) 104 (b01 q) (jI (r + 1)) (jI c) h = s_X14_reaches_253 k97 FU 104 (b01 q') (jI (r + 1)) 0 h' ∧ RC h' S wd t fv nv V' Z A m F B W G ∧ Ou h h' ∧ Sm [154, 157, 158] V V' ∧
        (∀ d, d < 416 → bit (V' 154) 0 d = if d < F 12 then rcS ld (F 13) nw good goal (r + 1) d else rcS ld (F 13) nw good goal r d) ∧ (∀ d, d < F 12 → V' 157 d = tkS ld (F 13) nw good goal (r + 1) d) ∧ (∀ d, d < F 12 → V' 158 d = lwS ld (F 13) nw good goal (r + 1) d) ∧
        (q' = true ↔ q = true ∨ ∃ d, c ≤ d ∧ d < F 12 ∧ rcS ld (F 13) nw good goal (r + 1) d = true ∧ rcS ld (F 13) nw good goal r d = false) := by
      intro e x go
      have te : tkS ld (F 13) nw good goal (r + 1) c = tkS ld (F 13) nw good goal r c := by
        rw [tk1, e]
        cases rcS ld (F 13) nw good goal r c <;> rfl
      have we : lwS ld (F 13) nw good goal (r + 1) c = lwS ld (F 13) nw good goal r c := by
        rw [lw1, e]
        cases rcS ld (F 13) nw good goal r c <;> rfl
      obtain ⟨s1, s2, s3⟩ := step V (fun d hd => by
        by_cases z : d = c
        · rw [if_pos z, z, b0, e]
        · rw [if_neg z]) (fun d hd => by
        by_cases z : d = c
        · rw [if_pos z, z, t0, te]
        · rw [if_neg z]) (fun d hd => by
        by_cases z : d = c
        · rw [if_pos z, z, w0, we]
        · rw [if_neg z])
      obtain ⟨h', V', q', ih, i1, i2, i3, i4, i5, i6, i7⟩ := rch131_go hr (k97 := k97) hl n (c + 1) f h V q (by omega) (by omega) C M hg h1 s1 s2 s3
      refine ⟨h', V', q', go ih, i1, i2, i3, i4, i5, i6, i7.trans (or_congr Iff.rfl ⟨fun ⟨d, d1, d2⟩ => ⟨d, by omega, d2⟩, fun ⟨d, d1, d2, d3, d4⟩ => ⟨d, ?_, d2, d3, d4⟩⟩)⟩
      have : d ≠ c := by
        rintro rfl
        rw [e, d4] at d3
        cases d3
      omega
    cases ka : good c with
    | false =>
      have kz : rcS ld (F 13) nw good goal r c = false := by
        cases z : rcS ld (F 13) nw good goal r c with
        | false => rfl
        | true => rw [rcS_good r c z] at ka; cases ka
      exact same (by rw [rc1, kz, ka]; rfl) (x := none) (fun {y} hy => start (by rw [ka, if_pos b01_f]; exact hy))
    | true =>
      cases kz : rcS ld (F 13) nw good goal r c with
      | true =>
        have tn : ¬ tkS ld (F 13) nw good goal r c = -2 := fun z => by
          rw [(tkS_iff r c (by omega)).mp z] at kz
          cases kz
        exact same (by rw [rcS_le kz, kz]) (x := none) (fun {y} hy => start (by rw [ka, if_neg nz1, if_neg tn]; exact hy))
      | false =>
        have tn : tkS ld (F 13) nw good goal r c = -2 := (tkS_iff r c (by omega)).mpr kz
        have wn : V 158 c = -2 := by rw [w0]; exact lwS_no r c kz
        obtain ⟨hA, VA, eA, CA, OA, MA, a1, a2⟩ := rch165_go (k97 := k97) (k131 := s_X14_reaches_131 k97 f) (l1 := b01 q) (l2 := jI (r + 1)) (ld := ld) (nw := nw) (T := rcS ld (F 13) nw good goal r) hl (show c < F 12 by omega) (F 13) 0 FU h V (by omega) (by unfold FU; omega) C M (fun d hd => (h1 d (by omega)).symm) wn
        have eA' : s_X14_reaches_165 k97 (s_X14_reaches_131 k97 f) FU 104 (b01 q) (jI (r + 1)) (jI c) 0 h = s_X14_reaches_213 k97 (s_X14_reaches_131 k97 f) 104 (b01 q) (jI (r + 1)) (jI c) hA := eA
        have XA := CA.1
        have G40 : gO hA (.ref 104) 14 40 = some 158 := gO_of (ltE (by decide)) XA.1 rfl
        have G39 : gO hA (.ref 104) 14 39 = some 157 := gO_of (ltE (by decide)) XA.1 rfl
        have lA : ldI .int hA (.ref 158) (jI c) = some (fpF ld nw (rcS ld (F 13) nw good goal r) c 0 (F 13)) := a1 ▸ XA.ld (a := 158) rfl (show c < 400 by omega)
        cases kc : canB ld (F 13) nw (rcS ld (F 13) nw good goal r) c with
        | false =>
          have fz : fpF ld nw (rcS ld (F 13) nw good goal r) c 0 (F 13) = -2 := by
            by_cases z : fpF ld nw (rcS ld (F 13) nw good goal r) c 0 (F 13) = -2
            · exact z
            · rw [(fpF_canB (by omega)).mp z] at kc; cases kc
          have r1 : rcS ld (F 13) nw good goal (r + 1) c = false := by rw [rc1, kz, ka, kc]; rfl
          have VA158 : VA 158 = V 158 := by
            funext i
            by_cases z : i = c
            · rw [z, a1, fz, wn]
            · exact a2 i z
          obtain ⟨s1, s2, s3⟩ := step VA (fun d hd => by
            rw [MA 154 (by decide)]
            by_cases z : d = c
            · rw [if_pos z, z, b0, kz, r1]
            · rw [if_neg z]) (fun d hd => by
            rw [MA 157 (by decide)]
            by_cases z : d = c
            · rw [if_pos z, z, t0, tk1, r1, Bool.and_false]; rfl
            · rw [if_neg z]) (fun d hd => by
            rw [VA158]
            by_cases z : d = c
            · rw [if_pos z, z, w0, lw1, r1, Bool.and_false]; rfl
            · rw [if_neg z])
          obtain ⟨h', V', q', ih, i1, i2, i3, i4, i5, i6, i7⟩ := rch131_go hr (k97 := k97) hl n (c + 1) f hA VA q (by omega) (by omega) CA (M.sm (MA 161 (by decide)) (MA 152 (by decide))) (fun d hd => by rw [MA 146 (by decide)]; exact hg d hd) (fun d hd => by rw [MA 153 (by decide)]; exact h1 d hd) s1 s2 s3
          refine ⟨h', V', q', ?_, i1, OA.trans i2, (MA.mono (by decide)).trans i3, i4, i5, i6, i7.trans (or_congr Iff.rfl ⟨fun ⟨d, d1, d2⟩ => ⟨d, by omega, d2⟩, fun ⟨d, d1, d2, d3, d4⟩ => ⟨d, ?_, d2, d3, d4⟩⟩)⟩
          · apply start
            rw [ka, if_neg nz1, if_pos tn, eA']
            unfold s_X14_reaches_213
            rw [G40, Option.bind_some, lA, Option.bind_some, if_pos fz, jI_inc]
            exact ih
          · have : d ≠ c := by
              rintro rfl
              rw [r1] at d3
              cases d3
            omega
        | true =>
          have fz : ¬ fpF ld nw (rcS ld (F 13) nw good goal r) c 0 (F 13) = -2 := (fpF_canB (by omega)).mpr kc
          have r1 : rcS ld (F 13) nw good goal (r + 1) c = true := by rw [rc1, kz, ka, kc]; rfl
          obtain ⟨hB, eB, XB, OB⟩ := XA.st (a := 157) (j := c) rfl rfl (show c < 400 by omega) (jI (r + 1))
          have G36 : gO hB (.ref 104) 14 36 = some 154 := gO_of (ltE (by decide)) XB.1 rfl
          obtain ⟨hD, eD, XD, OD⟩ := puts_at XB (a := 154) (b := 0) (c := c) rfl rfl (by omega) (show 0 + c / 32 < 13 by omega)
          have eD' : s_X14_puts 154 0 (jI c) hB = some (.inl none, hD) := eD
          obtain ⟨VD, hVD⟩ : ∃ VD, VD = upd2 (upd2 VA 157 (upd (VA 157) c (jI (r + 1)))) 154 (orb (upd2 VA 157 (upd (VA 157) c (jI (r + 1))) 154) 0 c) := ⟨_, rfl⟩
          have d154 : VD 154 = orb (V 154) 0 c := by rw [hVD, upd2_eq, upd2_ne (by decide), MA 154 (by decide)]
          have d157 : VD 157 = upd (V 157) c (jI (r + 1)) := by rw [hVD, upd2_ne (by decide), upd2_eq, MA 157 (by decide)]
          have d158 : VD 158 = VA 158 := by rw [hVD, upd2_ne (by decide), upd2_ne (by decide)]
          have CD : RC hD S wd t fv nv VD Z A m F B W G := by rw [hVD]; exact (CA.to XB OB).to XD OD
          have MD : Sm [154, 157, 158] V VD := by
            rw [hVD]
            exact ((MA.mono (by decide)).upd (by decide)).upd (by decide)
          obtain ⟨s1, s2, s3⟩ := step VD (fun d hd => by
            rw [d154, bit_orb]
            by_cases z : d = c
            · rw [if_pos z, r1, decide_eq_true z, Bool.or_true]
            · rw [if_neg z, decide_eq_false z, Bool.or_false]) (fun d hd => by
            rw [d157]
            by_cases z : d = c
            · rw [if_pos z, z, upd_eq, tk1, kz, r1]; rfl
            · rw [if_neg z, upd_ne z]) (fun d hd => by
            rw [d158]
            by_cases z : d = c
            · rw [if_pos z, z, a1, lw1, kz, r1]; rfl
            · rw [if_neg z]; exact a2 d z)
          obtain ⟨h', V', q', ih, i1, i2, i3, i4, i5, i6, i7⟩ := rch131_go hr (k97 := k97) hl n (c + 1) f hD VD true (by omega) (by omega) CD (M.sm (MD 161 (by decide)) (MD 152 (by decide))) (fun d hd => by rw [MD 146 (by decide)]; exact hg d hd) (fun d hd => by rw [MD 153 (by decide)]; exact h1 d hd) s1 s2 s3
          refine ⟨h', V', q', ?_, i1, ((OA.trans OB).trans OD).trans i2, MD.trans i3, i4, i5, i6, i7.trans ⟨fun _ => Or.inr ⟨c, Nat.le_refl _, by omega, r1, kz⟩, fun _ => Or.inl rfl⟩⟩
          apply start
          rw [ka, if_neg nz1, if_pos tn, eA']
          unfold s_X14_reaches_213
          rw [G40, Option.bind_some, lA, Option.bind_some, if_neg fz, G39, Option.bind_some, eB, Option.bind_some, G36, Option.bind_some, eD']
          simp only [cN, jI_inc]
          exact ih
theorem rch97_succ {f : Nat} : s_X14_reaches_97 (f + 1) = s_X14_reaches_97_b (s_X14_reaches_97 f) := rfl
theorem rch97_stop {x : Int32} {h : aH} : ∀ {f : Nat}, 0 < f → s_X14_reaches_97 f 104 0 x h = some (.inl none, h)
  | 0, hf => by omega
  | f + 1, _ => by
    rw [rch97_succ]
    unfold s_X14_reaches_97_b
    rw [if_pos rfl]
theorem rch97_one {f : Nat} {x : Int32} {h : aH} : s_X14_reaches_97 (f + 1) 104 1 x h = s_X14_reaches_105 (s_X14_reaches_97 f) FU 104 0 x 0 h := by
  rw [rch97_succ]
  unfold s_X14_reaches_97_b
  rw [if_neg (show ¬ (1 : Int32) = 0 by decide)]
theorem rch97_go {good goal : Nat → Bool} (hg : ∀ c, F 12 ≤ c → good c = false) {ld : Nat → Nat → Nat → Int32} {nw : Nat} (hl : ∀ c p x, isLd (ld c p x) (F 12)) (f : Nat) :
    ∀ (k r : Nat) (h : aH) (V : Nat → Nat → Int32), cntB (fun c => !rcS ld (F 13) nw good goal r c) (F 12) ≤ k → k + 1 < f → r + k < 1000000 → RC h S wd t fv nv V Z A m F B W G → okMb V (F 12) (F 13) nw ld → gdR V (F 12) good →
      (∀ d, d < 416 → bit (V 153) 0 d = rcS ld (F 13) nw good goal r d) → (∀ d, d < F 12 → V 157 d = tkS ld (F 13) nw good goal r d) → (∀ d, d < F 12 → V 158 d = lwS ld (F 13) nw good goal r d) →
      ∃ h' V' s, s_X14_reaches_97 f 104 1 (jI (r + 1)) h = some (.inl none, h') ∧ RC h' S wd t fv nv V' Z A m F B W G ∧ Ou h h' ∧ Sm [153, 154, 157, 158] V V' ∧ RSt ld (F 13) nw good goal s ∧
        (∀ d, d < F 12 → V' 157 d = tkS ld (F 13) nw good goal s d) ∧ ∀ d, d < F 12 → V' 158 d = lwS ld (F 13) nw good goal s d := by
  induction f with
  | zero =>
    intro k r h V hk hf
    omega
  | succ f ih0 =>
    intro k r h V hk hf hrk C M hgd h1 h2 h3
    have h400 := C.2.2.2.2.2.1.2.2.2.2.1
    obtain ⟨hA, VA, eA, CA, OA, MA, zA⟩ := rch105_go (q := 0) (r := jI (r + 1)) (k97 := s_X14_reaches_97 f) 13 0 FU h V rfl (by decide) C (fun j hj => by omega)
    obtain ⟨hB, VB, q', eB, CB, OB, MB, b1, b2, b3, b4⟩ := rch131_go (show r < 1000000 by omega) (good := good) (goal := goal) (k97 := s_X14_reaches_97 f) hl (F 12) 0 FU hA VA false (by omega) (by unfold FU; omega) CA (M.sm (MA 161 (by decide)) (MA 152 (by decide))) (fun d hd => by rw [MA 146 (by decide)]; exact hgd d hd) (fun d hd => by rw [MA 153 (by decide)]; exact h1 d hd) (fun d hd => by
      rw [if_neg (Nat.not_lt_zero d), ← h1 d hd]
      unfold bit
      rw [zA _ (by omega)]) (fun d hd => by rw [MA 157 (by decide), if_neg (Nat.not_lt_zero d)]; exact h2 d hd) (fun d hd => by rw [MA 158 (by decide), if_neg (Nat.not_lt_zero d)]; exact h3 d hd)
    obtain ⟨hD, VD, eD, CD, OD, MD, d1⟩ := rch253_go (q := b01 q') (r := r + 1) (k97 := s_X14_reaches_97 f) 13 0 FU hB VB rfl (by decide) CB (fun j hj => by omega)
    have al : ∀ d, d < 416 → bit (VD 153) 0 d = rcS ld (F 13) nw good goal (r + 1) d := fun d hd => by
      have e : bit (VD 153) 0 d = bit (VB 154) 0 d := by
        unfold bit
        rw [d1 _ (by omega)]
      rw [e, b1 d hd]
      by_cases z : d < F 12
      · rw [if_pos z]
      · rw [if_neg z, rcS_out hg _ z, rcS_out hg _ z]
    have tk : ∀ d, d < F 12 → VD 157 d = tkS ld (F 13) nw good goal (r + 1) d := fun d hd => by
      rw [MD 157 (by decide)]
      exact b2 d hd
    have lw : ∀ d, d < F 12 → VD 158 d = lwS ld (F 13) nw good goal (r + 1) d := fun d hd => by
      rw [MD 158 (by decide)]
      exact b3 d hd
    have SM : Sm [153, 154, 157, 158] V VD := ((MA.mono (by decide)).trans (MB.mono (by decide))).trans (MD.mono (by decide))
    have OO : Ou h hD := (OA.trans OB).trans OD
    have one : s_X14_reaches_97 (f + 1) 104 1 (jI (r + 1)) h = s_X14_reaches_97 f 104 (b01 q') (jI (r + 1 + 1)) hD := by
      have z0 : jI 0 = 0 := rfl
      rw [z0] at eA eB eD
      rw [b01_f] at eB
      rw [rch97_one, eA, eB, eD]
    cases hq : q' with
    | false =>
      have hst : RSt ld (F 13) nw good goal r := by
        rcases rst_or (ld := ld) (P := F 13) (n := nw) (goal := goal) hg r with z | z
        · exact z
        · exfalso
          have hne : ¬ ∃ d, 0 ≤ d ∧ d < F 12 ∧ rcS ld (F 13) nw good goal (r + 1) d = true ∧ rcS ld (F 13) nw good goal r d = false := fun H => by
            have := b4.mpr (Or.inr H)
            rw [hq] at this
            cases this
          have : cntB (fun c => !rcS ld (F 13) nw good goal r c) (F 12) ≤ cntB (fun c => !rcS ld (F 13) nw good goal (r + 1) c) (F 12) := cntB_mono _ (fun c hc hc1 => by
            cases z2 : rcS ld (F 13) nw good goal (r + 1) c with
            | false => rfl
            | true =>
              refine absurd ⟨c, Nat.zero_le _, hc, z2, ?_⟩ hne
              cases z3 : rcS ld (F 13) nw good goal r c with
              | false => rfl
              | true => rw [z3] at hc1; cases hc1)
          omega
      have hst1 : RSt ld (F 13) nw good goal (r + 1) := by
        unfold RSt
        rw [show r + 1 + 1 = r + 2 from rfl, hst.rc 2, hst.rc 1]
      refine ⟨hD, VD, r + 1, ?_, CD, OO, SM, hst1, tk, lw⟩
      rw [one, hq, b01_f]
      exact rch97_stop (by omega)
    | true =>
      have hlt : cntB (fun c => !rcS ld (F 13) nw good goal (r + 1) c) (F 12) < cntB (fun c => !rcS ld (F 13) nw good goal r c) (F 12) := by
        rcases b4.mp hq with z | ⟨d, _, d2, d3, d4⟩
        · cases z
        · refine cntB_lt _ (fun c _ hc => ?_) ⟨d, d2, by rw [d3]; rfl, by rw [d4]; rfl⟩
          cases z : rcS ld (F 13) nw good goal r c with
          | false => rfl
          | true => rw [rcS_le z] at hc; cases hc
      obtain ⟨h', V', s, ih, i1, i2, i3, i4, i5, i6⟩ := ih0 (k - 1) (r + 1) hD VD (by omega) (by omega) (by omega) CD (M.sm (SM 161 (by decide)) (SM 152 (by decide))) (fun d hd => by rw [SM 146 (by decide)]; exact hgd d hd) al tk lw
      refine ⟨h', V', s, ?_, i1, OO.trans i2, SM.trans i3, i4, i5, i6⟩
      rw [one, hq, b01_t]
      exact ih
theorem RC.reaches {h : aH} {V : Nat → Nat → Int32} (C : RC h S wd t fv nv V Z A m F B W G) {good goal : Nat → Bool} (hg : ∀ c, F 12 ≤ c → good c = false) (hgd : gdR V (F 12) good) (hgl : glR V (F 12) goal) {ld : Nat → Nat → Nat → Int32} {nw : Nat} (hl : ∀ c p x, isLd (ld c p x) (F 12)) (M : okMb V (F 12) (F 13) nw ld) :
    ∃ h' V', s_X14_reaches 104 h = some (.inl none, h') ∧ RC h' S wd t fv nv V' Z A m F B W G ∧ Ou h h' ∧ Sm [153, 154, 157, 158] V V' ∧
      (∀ d, d < F 12 → V' 157 d = ticksS ld (F 13) nw (F 12) good goal d) ∧ ∀ d, d < F 12 → V' 158 d = lawsS ld (F 13) nw (F 12) good goal d := by
  have hC := C.2.2.2.2.2.1
  have h400 := hC.2.2.2.2.1
  obtain ⟨h1, V1, e1, C1, O1, M1, z1⟩ := rch2_go 13 0 FU h V rfl (by decide) C (fun j hj => by omega)
  obtain ⟨h2, V2, e2, C2, O2, M2, a2, b2, c2⟩ := rch23_go (good := good) (goal := goal) (F 12) 0 FU h1 V1 (by omega) (by unfold FU; omega) C1 (fun d hd => by rw [M1 146 (by decide)]; exact hgd d hd) (fun d hd => by rw [M1 147 (by decide)]; exact hgl d hd) (fun d hd => by rw [bit_zero z1 hd]; simp) (fun d hd => by omega) (fun d hd => by omega)
  obtain ⟨h3, V3, s, e3, C3, O3, M3, st, a3, b3⟩ := rch97_go (good := good) (goal := goal) hg hl FU (F 12) 0 h2 V2 (cntB_le _ _) (by unfold FU; omega) (by omega) C2 ((M.sm (M1 161 (by decide)) (M1 152 (by decide))).sm (M2 161 (by decide)) (M2 152 (by decide))) (fun d hd => by rw [M2 146 (by decide), M1 146 (by decide)]; exact hgd d hd) (fun d hd => by
    rw [a2 d hd]
    show _ = (good d && goal d)
    by_cases z : d < F 12
    · rw [decide_eq_true z, Bool.true_and]
    · rw [decide_eq_false z, hg d (by omega)]; rfl) b2 c2
  have fin := st.fin hg
  refine ⟨h3, V3, ?_, C3, (O1.trans O2).trans O3, ((M1.mono (by decide)).trans (M2.mono (by decide))).trans M3, fun d hd => by rw [a3 d hd, fin.1], fun d hd => by rw [b3 d hd, fin.2]⟩
  unfold s_X14_reaches
  have z0 : jI 0 = 0 := rfl
  have z1' : jI (0 + 1) = 1 := rfl
  rw [z0] at e1 e2
  rw [z1'] at e3
  rw [e1, e2, e3]
end
