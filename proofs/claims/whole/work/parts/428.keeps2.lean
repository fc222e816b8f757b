/-! the rounds of keeps -/
theorem Bool_ext {a b : Bool} (h : a = true ↔ b = true) : a = b := by
  cases a <;> cases b <;> simp_all
section
variable {S : Nat → Int32} {wd : Int64} {t : Nat} {fv nv : Value} {Z : Nat → Nat → Int64} {A : Nat → Nat → Int32} {m F : Nat → Nat} {B : Nat → Nat → Int32} {W : Nat → Int64} {G : Nat → Nat}
theorem keeps118_go {w r : Nat} {good : Nat → Bool} {ld : Nat → Nat → Nat → Int32} {nw : Nat} (hl : ∀ c p x, isLd (ld c p x) (F 12)) {k85 : Nat → Int32 → Int32 → Int32 → aH → aO} :
    ∀ (n c f : Nat) (h : aH) (V : Nat → Nat → Int32) (q : Bool), c + n = F 12 → n < f → RC h S wd t fv nv V Z A m F B W G → okMb V (F 12) (F 13) nw ld →
      (∀ d, d < 416 → bit (V 153) 0 d = kpS ld (F 13) nw good r d) → (∀ d, d < 416 → bit (V 154) 0 d = (decide (d < c) && kpS ld (F 13) nw good (r + 1) d)) → (∀ d, d < F 12 → V 155 d = if d < c then layS ld (F 13) nw good (r + 1) d else layS ld (F 13) nw good r d) →
      ∃ h' V' q', s_X14_keeps_118 k85 f 104 (jI w) (b01 q) (jI (r + 1)) (jI c) h = s_X14_keeps_188 k85 FU 104 (jI w) (b01 q') (jI (r + 1)) 0 h' ∧ RC h' S wd t fv nv V' Z A m F B W G ∧ Ou h h' ∧ Sm [154, 155] V V' ∧
        (∀ d, d < 416 → bit (V' 154) 0 d = (decide (d < F 12) && kpS ld (F 13) nw good (r + 1) d)) ∧ (∀ d, d < F 12 → V' 155 d = layS ld (F 13) nw good (r + 1) d) ∧
        (q' = true ↔ q = true ∨ ∃ d, c ≤ d ∧ d < F 12 ∧ kpS ld (F 13) nw good (r + 1) d = false ∧ kpS ld (F 13) nw good r d = true)
  | _, _, 0, _, _, _, _, hf, _, _, _, _, _ => by omega
  | 0, c, f + 1, h, V, q, hk, hf, C, M, h1, h2, h3 => by
    have hc : c = F 12 := by omega
    subst hc
    refine ⟨h, V, q, ?_, C, Ou.refl, Sm.refl, h2, fun d hd => by rw [h3 d hd, if_pos hd], ⟨Or.inl, fun z => z.elim id (fun ⟨d, d1, d2, _⟩ => by omega)⟩⟩
    obtain ⟨X, -, -, sim, K, hC, s20, s21, s22, s23⟩ := id C
    have h400 := hC.2.2.2.2.1
    have g : gI h (.ref 104) 14 20 = some (jI (F 12)) := s20 ▸ gI_of (ltE (by decide)) X.1 rfl
    show s_X14_keeps_118_b k85 (s_X14_keeps_118 k85 f) 104 (jI w) (b01 q) (jI (r + 1)) (jI (F 12)) h = _
    unfold s_X14_keeps_118_b
    rw [g, Option.bind_some, if_pos ((jI_le (by omega) (by omega)).mpr (by omega))]
  | n + 1, c, f + 1, h, V, q, hk, hf, C, M, h1, h2, h3 => by
    obtain ⟨X, -, -, sim, K, hC, s20, s21, s22, s23⟩ := id C
    have h400 := hC.2.2.2.2.1
    have h9 := hC.2.2.2.2.2.1
    have g : gI h (.ref 104) 14 20 = some (jI (F 12)) := s20 ▸ gI_of (ltE (by decide)) X.1 rfl
    have g35 : gO h (.ref 104) 14 35 = some 153 := gO_of (ltE (by decide)) X.1 rfl
    have g36 : gO h (.ref 104) 14 36 = some 154 := gO_of (ltE (by decide)) X.1 rfl
    have g37 : gO h (.ref 104) 14 37 = some 155 := gO_of (ltE (by decide)) X.1 rfl
    have i0 : s_X14_isIn 153 0 (jI c) h = some (.inl (some (.int (b01 (bit (V 153) 0 c)))), h) := isIn_at X (a := 153) (b := 0) (c := c) rfl rfl (by omega) (show 0 + c / 32 < 13 by omega)
    rw [h1 c (by omega)] at i0
    have cg := canGo_at X (c := c) s21 h9 M h400 hl (by omega) (a := 153) rfl rfl rfl (T := kpS ld (F 13) nw good r) (fun d hd => (h1 d (by omega)).symm)
    have kp1 : kpS ld (F 13) nw good (r + 1) c = (kpS ld (F 13) nw good r c && canB ld (F 13) nw (kpS ld (F 13) nw good r) c) := rfl
    have ly1 : layS ld (F 13) nw good (r + 1) c = if kpS ld (F 13) nw good r c && !kpS ld (F 13) nw good (r + 1) c then jI (r + 1) else layS ld (F 13) nw good r c := rfl
    have start : ∀ {x : aO}, (if b01 (kpS ld (F 13) nw good r c) = 0 then (s_X14_keeps_118 k85 f 104 (jI w) (b01 q) (jI (r + 1)) (jI (c + 1)) h) else (if b01 (canB ld (F 13) nw (kpS ld (F 13) nw good r) c) = 0 then ((stI h (.ref 155) (jI c) (jI (r + 1))).bind fun h176 => s_X14_keeps_118 k85 f 104 (jI w) 1 (jI (r + 1)) (jI (c + 1)) h176) else (cN (s_X14_puts 154 0 (jI c) h) fun h163 => s_X14_keeps_118 k85 f 104 (jI w) (b01 q) (jI (r + 1)) (jI (c + 1)) h163))) = x →
        s_X14_keeps_118 k85 (f + 1) 104 (jI w) (b01 q) (jI (r + 1)) (jI c) h = x := by
      intro x hx
      show s_X14_keeps_118_b k85 (s_X14_keeps_118 k85 f) 104 (jI w) (b01 q) (jI (r + 1)) (jI c) h = _
      unfold s_X14_keeps_118_b
      rw [g, Option.bind_some, if_neg (fun q => by have := (jI_le (by omega) (by omega)).mp q; omega), g35]
      simp only [Option.bind_some, i0, cI, g35, g36, g37, C.kO, cg, jI_inc]
      exact hx
    have nz1 : ¬ b01 true = 0 := by decide
    -- the parts of the invariant at the next cell
    have left' : ∀ R : Nat → Int32, (∀ d, d < 416 → bit R 0 d = (bit (V 154) 0 d || (decide (d = c) && kpS ld (F 13) nw good (r + 1) c))) → ∀ d, d < 416 → bit R 0 d = (decide (d < c + 1) && kpS ld (F 13) nw good (r + 1) d) := fun R hR d hd => by
      rw [hR d hd, h2 d hd]
      by_cases z : d = c
      · subst z
        rw [decide_eq_false (Nat.lt_irrefl d), decide_eq_true (show d < d + 1 by omega), decide_eq_true (show d = d from rfl)]
        simp
      · rw [show decide (d < c + 1) = decide (d < c) from decide_eq_decide.mpr (by omega), decide_eq_false z]
        simp
    have lay' : ∀ R : Nat → Int32, (∀ d, d < F 12 → R d = if d = c then layS ld (F 13) nw good (r + 1) c else V 155 d) → ∀ d, d < F 12 → R d = if d < c + 1 then layS ld (F 13) nw good (r + 1) d else layS ld (F 13) nw good r d := fun R hR d hd => by
      rw [hR d hd]
      by_cases z : d = c
      · subst z
        rw [if_pos rfl, if_pos (by omega)]
      · rw [if_neg z, h3 d hd]
        by_cases z2 : d < c
        · rw [if_pos z2, if_pos (by omega)]
        · rw [if_neg z2, if_neg (by omega)]
    cases ka : kpS ld (F 13) nw good r c with
    | false =>
      have k1 : kpS ld (F 13) nw good (r + 1) c = false := by rw [kp1, ka]; rfl
      have l1 : layS ld (F 13) nw good (r + 1) c = layS ld (F 13) nw good r c := by rw [ly1, ka]; rfl
      obtain ⟨h', V', q', ih, i1, i2, i3, i4, i5, i6⟩ := keeps118_go (w := w) (k85 := k85) hl n (c + 1) f h V q (by omega) (by omega) C M h1 (left' _ (fun d hd => by rw [k1]; simp)) (lay' _ (fun d hd => by
        by_cases z : d = c
        · rw [if_pos z, l1, z, h3 c (by omega), if_neg (Nat.lt_irrefl c)]
        · rw [if_neg z]))
      refine ⟨h', V', q', ?_, i1, i2, i3, i4, i5, i6.trans (or_congr Iff.rfl ⟨fun ⟨d, d1, d2⟩ => ⟨d, by omega, d2⟩, fun ⟨d, d1, d2, d3, d4⟩ => ⟨d, ?_, d2, d3, d4⟩⟩)⟩
      · apply start
        rw [ka, if_pos b01_f]
        exact ih
      · have : d ≠ c := by
          rintro rfl
          rw [ka] at d4
          cases d4
        omega
    | true =>
      cases kc : canB ld (F 13) nw (kpS ld (F 13) nw good r) c with
      | false =>
        have k1 : kpS ld (F 13) nw good (r + 1) c = false := by rw [kp1, ka, kc]; rfl
        have l1 : layS ld (F 13) nw good (r + 1) c = jI (r + 1) := by rw [ly1, ka, k1]; rfl
        obtain ⟨hA, eA, XA, OA⟩ := X.st (a := 155) (j := c) rfl rfl (show c < 400 by omega) (jI (r + 1))
        obtain ⟨h', V', q', ih, i1, i2, i3, i4, i5, i6⟩ := keeps118_go (w := w) (k85 := k85) hl n (c + 1) f hA _ true (by omega) (by omega) (C.to XA OA) (M.sm (upd2_ne (by decide)) (upd2_ne (by decide))) (fun d hd => by rw [upd2_ne (by decide)]; exact h1 d hd) (left' _ (fun d hd => by rw [upd2_ne (by decide), k1]; simp)) (lay' _ (fun d hd => by
          rw [upd2_eq]
          by_cases z : d = c
          · rw [if_pos z, l1, z, upd_eq]
          · rw [if_neg z, upd_ne z]))
        refine ⟨h', V', q', ?_, i1, OA.trans i2, (Sm.refl.upd (by decide)).trans i3, i4, i5, i6.trans ⟨fun _ => Or.inr ⟨c, Nat.le_refl _, by omega, k1, ka⟩, fun _ => Or.inl rfl⟩⟩
        apply start
        rw [ka, kc, if_neg nz1, if_pos b01_f, eA, Option.bind_some]
        exact ih
      | true =>
        have k1 : kpS ld (F 13) nw good (r + 1) c = true := by rw [kp1, ka, kc]; rfl
        have l1 : layS ld (F 13) nw good (r + 1) c = layS ld (F 13) nw good r c := by rw [ly1, ka, k1]; rfl
        obtain ⟨hA, eA, XA, OA⟩ := puts_at X (a := 154) (b := 0) (c := c) rfl rfl (by omega) (show 0 + c / 32 < 13 by omega)
        obtain ⟨h', V', q', ih, i1, i2, i3, i4, i5, i6⟩ := keeps118_go (w := w) (k85 := k85) hl n (c + 1) f hA _ q (by omega) (by omega) (C.to XA OA) (M.sm (upd2_ne (by decide)) (upd2_ne (by decide))) (fun d hd => by rw [upd2_ne (by decide)]; exact h1 d hd) (left' _ (fun d hd => by rw [upd2_eq, bit_orb, k1, Bool.and_true])) (lay' _ (fun d hd => by
          rw [upd2_ne (by decide)]
          by_cases z : d = c
          · rw [if_pos z, l1, z, h3 c (by omega), if_neg (Nat.lt_irrefl c)]
          · rw [if_neg z]))
        refine ⟨h', V', q', ?_, i1, OA.trans i2, (Sm.refl.upd (by decide)).trans i3, i4, i5, i6.trans (or_congr Iff.rfl ⟨fun ⟨d, d1, d2⟩ => ⟨d, by omega, d2⟩, fun ⟨d, d1, d2, d3, d4⟩ => ⟨d, ?_, d2, d3, d4⟩⟩)⟩
        · apply start
          have eA' : s_X14_puts 154 0 (jI c) h = some (.inl none, hA) := eA
          rw [ka, kc, if_neg nz1, if_neg nz1, eA']
          exact ih
        · have : d ≠ c := by
            rintro rfl
            rw [k1] at d3
            cases d3
          omega
theorem keeps85_stop {w : Nat} {x : Int32} {h : aH} : ∀ {f : Nat}, 0 < f → s_X14_keeps_85 f 104 (jI w) 0 x h = s_X14_keeps_223 FU 104 (jI w) 0 h
  | 0, hf => by omega
  | f + 1, _ => by
    show s_X14_keeps_85_b (s_X14_keeps_85 f) 104 (jI w) 0 x h = _
    unfold s_X14_keeps_85_b
    rw [if_pos rfl]
theorem keeps85_succ {f : Nat} : s_X14_keeps_85 (f + 1) = s_X14_keeps_85_b (s_X14_keeps_85 f) := rfl
theorem keeps85_one {w f : Nat} {x : Int32} {h : aH} : s_X14_keeps_85 (f + 1) 104 (jI w) 1 x h = s_X14_keeps_94 (s_X14_keeps_85 f) FU 104 (jI w) 0 x 0 h := by
  rw [keeps85_succ]
  unfold s_X14_keeps_85_b
  rw [if_neg (show ¬ (1 : Int32) = 0 by decide)]
theorem keeps85_go {w : Nat} (hw : w ≤ 2) {good : Nat → Bool} (hg : ∀ c, F 12 ≤ c → good c = false) {ld : Nat → Nat → Nat → Int32} {nw : Nat} (hl : ∀ c p x, isLd (ld c p x) (F 12)) (f : Nat) :
    ∀ (k r : Nat) (h : aH) (V : Nat → Nat → Int32), cntB (kpS ld (F 13) nw good r) (F 12) ≤ k → k + 1 < f → RC h S wd t fv nv V Z A m F B W G → okMb V (F 12) (F 13) nw ld →
      (∀ d, d < 416 → bit (V 153) 0 d = kpS ld (F 13) nw good r d) → (∀ d, d < F 12 → V 155 d = layS ld (F 13) nw good r d) →
      ∃ h' V' s, s_X14_keeps_85 f 104 (jI w) 1 (jI (r + 1)) h = s_X14_keeps_223 FU 104 (jI w) 0 h' ∧ RC h' S wd t fv nv V' Z A m F B W G ∧ Ou h h' ∧ Sm [153, 154, 155] V V' ∧ Stb ld (F 13) nw good s ∧
        (∀ d, d < 416 → bit (V' 153) 0 d = kpS ld (F 13) nw good s d) ∧ ∀ d, d < F 12 → V' 155 d = layS ld (F 13) nw good s d := by
  induction f with
  | zero =>
    intro k r h V hk hf
    omega
  | succ f ih0 =>
    intro k r h V hk hf C M h1 h2
    have h400 := C.2.2.2.2.2.1.2.2.2.2.1
    obtain ⟨hA, VA, eA, CA, OA, MA, zA⟩ := keeps94_go (w := w) (r := r + 1) (q := 0) (k85 := s_X14_keeps_85 f) 13 0 FU h V rfl (by decide) C (fun j hj => by omega)
    have MA' : okMb VA (F 12) (F 13) nw ld := M.sm (MA 161 (by decide)) (MA 152 (by decide))
    obtain ⟨hB, VB, q', eB, CB, OB, MB, b1, b2, b3⟩ := keeps118_go (w := w) (r := r) (good := good) (k85 := s_X14_keeps_85 f) hl (F 12) 0 FU hA VA false (by omega) (by unfold FU; omega) CA MA' (fun d hd => by rw [MA 153 (by decide)]; exact h1 d hd) (fun d hd => by rw [bit_zero zA hd]; simp) (fun d hd => by rw [MA 155 (by decide), if_neg (Nat.not_lt_zero d)]; exact h2 d hd)
    obtain ⟨hD, VD, eD, CD, OD, MD, d1⟩ := keeps188_go (w := w) (r := r + 1) (q := b01 q') (k85 := s_X14_keeps_85 f) 13 0 FU hB VB rfl (by decide) CB (fun j hj => by omega)
    have MD' : okMb VD (F 12) (F 13) nw ld := (MA'.sm (MB 161 (by decide)) (MB 152 (by decide))).sm (MD 161 (by decide)) (MD 152 (by decide))
    have kpz : ∀ s d, ¬ d < F 12 → kpS ld (F 13) nw good s d = false := fun s d hd => by
      cases z : kpS ld (F 13) nw good s d with
      | false => rfl
      | true => exact absurd (kpS_good s d z) (by rw [hg d (by omega)]; decide)
    have al : ∀ d, d < 416 → bit (VD 153) 0 d = kpS ld (F 13) nw good (r + 1) d := fun d hd => by
      have e : bit (VD 153) 0 d = bit (VB 154) 0 d := by
        unfold bit
        rw [d1 _ (by omega)]
      rw [e, b1 d hd]
      by_cases z : d < F 12
      · rw [decide_eq_true z, Bool.true_and]
      · rw [decide_eq_false z, kpz _ d z]; rfl
    have ly : ∀ d, d < F 12 → VD 155 d = layS ld (F 13) nw good (r + 1) d := fun d hd => by
      rw [MD 155 (by decide)]
      exact b2 d hd
    have SM : Sm [153, 154, 155] V VD := ((MA.mono (by decide)).trans (MB.mono (by decide))).trans (MD.mono (by decide))
    have OO : Ou h hD := (OA.trans OB).trans OD
    have one : s_X14_keeps_85 (f + 1) 104 (jI w) 1 (jI (r + 1)) h = s_X14_keeps_85 f 104 (jI w) (b01 q') (jI (r + 1 + 1)) hD := by
      have z0 : jI 0 = 0 := rfl
      rw [z0] at eA eB eD
      rw [b01_f] at eB
      rw [keeps85_one, eA, eB, eD]
    cases hq : q' with
    | false =>
      have hst : Stb ld (F 13) nw good r := by
        rcases stb_or (ld := ld) (P := F 13) (n := nw) hg r with z | z
        · exact z
        · exfalso
          have hne : ¬ ∃ d, 0 ≤ d ∧ d < F 12 ∧ kpS ld (F 13) nw good (r + 1) d = false ∧ kpS ld (F 13) nw good r d = true := fun H => by
            have := b3.mpr (Or.inr H)
            rw [hq] at this
            cases this
          have : cntB (kpS ld (F 13) nw good r) (F 12) ≤ cntB (kpS ld (F 13) nw good (r + 1)) (F 12) := cntB_mono _ (fun c hc hc1 => by
            cases z2 : kpS ld (F 13) nw good (r + 1) c with
            | true => rfl
            | false => exact absurd ⟨c, Nat.zero_le _, hc, z2, hc1⟩ hne)
          omega
      have hst1 : Stb ld (F 13) nw good (r + 1) := by
        unfold Stb
        rw [show r + 1 + 1 = r + 2 from rfl, hst.kp 2, hst.kp 1]
      refine ⟨hD, VD, r + 1, ?_, CD, OO, SM, hst1, al, ly⟩
      rw [one, hq, b01_f]
      exact keeps85_stop (by omega)
    | true =>
      have hlt : cntB (kpS ld (F 13) nw good (r + 1)) (F 12) < cntB (kpS ld (F 13) nw good r) (F 12) := by
        rcases b3.mp hq with z | ⟨d, _, d2, d3, d4⟩
        · cases z
        · exact cntB_lt _ (fun c _ => kpS_le) ⟨d, d2, d3, d4⟩
      obtain ⟨h', V', s, ih, i1, i2, i3, i4, i5, i6⟩ := ih0 (k - 1) (r + 1) hD VD (by omega) (by omega) CD MD' al ly
      refine ⟨h', V', s, ?_, i1, OO.trans i2, SM.trans i3, i4, i5, i6⟩
      rw [one, hq, b01_t]
      exact ih
theorem RC.keeps {h : aH} {V : Nat → Nat → Int32} (C : RC h S wd t fv nv V Z A m F B W G) {w : Nat} (hw : w ≤ 2) {good : Nat → Bool} (hg : ∀ c, F 12 ≤ c → good c = false) (hgd : gdR V (F 12) good) :
    ∃ h' V', s_X14_keeps 104 (jI w) h = some (.inl none, h') ∧ RC h' S wd t fv nv V' Z A m F B W G ∧ Ou h h' ∧ Sm [148, 149, 152, 153, 154, 155, 156, 161] V V' ∧ okMb V' (F 12) (F 13) (nWd A m F w) (ldW A m F w) ∧
      (∀ d, d < 416 → bit (V' 156) (13 * w) d = safeS (ldW A m F w) (F 13) (nWd A m F w) (F 12) good d) ∧ (∀ d, d < F 12 → V' 155 d = laysS (ldW A m F w) (F 13) (nWd A m F w) (F 12) good d) ∧
      ∀ i, (i < 13 * w ∨ 13 * w + 13 ≤ i) → V' 156 i = V 156 i := by
  have hC := C.2.2.2.2.2.1
  have K := C.2.2.2.2.1
  have h400 := hC.2.2.2.2.1
  obtain ⟨h1, V1, e1, C1, O1, M1, mb⟩ := C.spreadsOut hw
  obtain ⟨h2, V2, e2, C2, O2, M2, z2⟩ := keeps7_go (w := w) 13 0 FU h1 V1 rfl (by decide) C1 (fun j hj => by omega)
  obtain ⟨h3, V3, e3, C3, O3, M3, a3, l3⟩ := keeps28_go (w := w) (good := good) (F 12) 0 FU h2 V2 (by omega) (by unfold FU; omega) C2 (fun c hc => by rw [M2 146 (by decide), M1 146 (by decide)]; exact hgd c hc) (fun d hd => by rw [bit_zero z2 hd]; simp) (fun d hd => by omega)
  have mb3 : okMb V3 (F 12) (F 13) (nWd A m F w) (ldW A m F w) := (mb.sm (M2 161 (by decide)) (M2 152 (by decide))).sm (M3 161 (by decide)) (M3 152 (by decide))
  have al3 : ∀ d, d < 416 → bit (V3 153) 0 d = kpS (ldW A m F w) (F 13) (nWd A m F w) good 0 d := fun d hd => by
    rw [a3 d hd]
    show _ = good d
    by_cases z : d < F 12
    · rw [decide_eq_true z, Bool.true_and]
    · rw [decide_eq_false z, hg d (by omega)]; rfl
  obtain ⟨h4, V4, s, e4, C4, O4, M4, st, a4, l4⟩ := keeps85_go hw hg (ldW_is K hC w) FU (F 12) 0 h3 V3 (cntB_le _ _) (by unfold FU; omega) C3 mb3 al3 l3
  obtain ⟨h5, V5, e5, C5, O5, M5, a5, b5⟩ := keeps223_go hw 13 0 FU h4 V4 rfl (by decide) C4
  have fin := st.safe hg
  refine ⟨h5, V5, ?_, C5, (((O1.trans O2).trans O3).trans O4).trans O5, ?_, ?_, ?_, ?_, ?_⟩
  · unfold s_X14_keeps
    rw [C.kO, e1]
    simp only [cN]
    exact e2.trans (e3.trans (e4.trans e5))
  · exact ((((M1.mono (by decide)).trans (M2.mono (by decide))).trans (M3.mono (by decide))).trans (M4.mono (by decide))).trans (M5.mono (by decide))
  · exact (mb3.sm (M4 161 (by decide)) (M4 152 (by decide))).sm (M5 161 (by decide)) (M5 152 (by decide))
  · intro d hd
    have e : bit (V5 156) (13 * w) d = bit (V4 153) 0 d := by
      unfold bit
      rw [a5 _ (Nat.zero_le _) (by omega), Nat.zero_add]
    rw [e, a4 d hd, fin.1]
  · intro d hd
    rw [M5 155 (by decide), l4 d hd, fin.2]
  · intro i hi
    rw [b5 i (fun j _ hj => by omega), M4 156 (by decide), M3 156 (by decide), M2 156 (by decide), M1 156 (by decide)]
end
