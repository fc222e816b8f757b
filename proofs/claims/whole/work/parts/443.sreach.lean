/-! the class's settleReaches -/
def glC (V : Nat → Nat → Int32) (goal : Nat → Bool) : Prop := ∀ d, d < 416 → bit (V 63) 0 d = goal d
def okRc (V : Nat → Nat → Int32) (A : Nat → Nat → Int32) (m F : Nat → Nat) (good goal : Nat → Bool) : Prop :=
  (∀ d, d < F 12 → V 65 d = ticksS (ldV A m F) (F 13) (F 14) (F 12) good goal d) ∧ ∀ d, d < F 12 → V 66 d = lawsS (ldV A m F) (F 13) (F 14) (F 12) good goal d
section
variable {Z : Nat → Nat → Int64} {b : Nat} {A : Nat → Nat → Int32} {N : Nat → Int64} {m F : Nat → Nat}
theorem isGoal_at {S : Nat → Nat → Int32} {D Ln : Nat → Nat} {h : aH} {V : Nat → Nat → Int32} (X : CW h S V Z D Ln b) {goal : Nat → Bool} (hg : glC V goal) {c : Nat} (hc : c < 400) : s_X10_isGoal 60 (jI c) h = some (.inl (some (.int (b01 (goal c)))), h) := by
  have g4 : gO h (.ref 60) 10 5 = some 63 := gO_of (ltE (by decide)) (X.1 60 rfl) rfl
  have w := bitw_at X (a := 63) (c := c) rfl rfl hc
  unfold s_X10_isGoal
  rw [g4, Option.bind_some, w.1, Option.bind_some]
  have e := hg c (by omega)
  cases q : goal c with
  | false =>
    rw [if_pos (w.2.mpr (by rw [e, q]))]
    rfl
  | true =>
    rw [if_neg (fun z => by have := w.2.mp z; rw [e, q] at this; cases this)]
    rfl
theorem sr140_succ {f : Nat} : s_X10_settleReaches_140 (f + 1) = s_X10_settleReaches_140_b (s_X10_settleReaches_140 f) := rfl
theorem sr140_go {S : Nat → Nat → Int32} {D Ln : Nat → Nat} {good goal : Nat → Bool} (hg : ∀ c, F 12 ≤ c → good c = false) (L : lenMv Ln F) (L2 : F 12 * F 13 ≤ Ln 68) (f : Nat) : ∀ (r : Nat) (q : Bool) (h : aH) (V : Nat → Nat → Int32), r ≤ F 12 → F 12 + 1 < f + r → CC h S V Z D Ln b A N m F → okMv V A m F → gdC V good → (∀ d, d < 416 → bit (V 67) 0 d = rcS (ldV A m F) (F 13) (F 14) good goal r d) → watI V F →
    (∀ d, d < F 12 → V 65 d = tkS (ldV A m F) (F 13) (F 14) good goal r d) → (∀ d, d < F 12 → V 66 d = lwS (ldV A m F) (F 13) (F 14) good goal r d) → (q = false → ∃ s, r = s + 1 ∧ RSt (ldV A m F) (F 13) (F 14) good goal s) →
    ∃ h' V', s_X10_settleReaches_140 f 60 (b01 q) (jI (r + 1)) h = some (.inl none, h') ∧ CC h' S V' Z D Ln b A N m F ∧ Oc D h h' ∧ Sm [65, 66, 67, 68] V V' ∧ okRc V' A m F good goal := by
  induction f with
  | zero =>
    intro r q h V h1 h2
    omega
  | succ f ih0 =>
    intro r q h V hr hf C M hgd hT hW h1 h2 hz
    obtain ⟨X, HM, K, hC, hw⟩ := id C
    have h400 := hC.2.2.2.2.1
    have g0 : gO h (.ref 60) 10 0 = some 3 := gO_of (ltE (by decide)) (X.1 60 rfl) rfl
    have f12 : gI h (.ref 3) 2 12 = some (jI (F 12)) := gI_of (ltE (by decide)) HM.2.1 rfl
    cases q with
    | false =>
      obtain ⟨s, rs, st⟩ := hz rfl
      have fin := st.fin hg
      have t1 := st.tk 1
      refine ⟨h, V, ?_, C, Oc.refl, Sm.refl, fun d hd => ?_, fun d hd => ?_⟩
      · rw [sr140_succ]
        unfold s_X10_settleReaches_140_b
        rw [if_pos b01_f]
      · rw [h1 d hd, rs, t1.1, fin.1]
      · rw [h2 d hd, rs, t1.2, fin.2]
    | true =>
      have nz1 : ¬ b01 true = 0 := by decide
      by_cases q1 : r = F 12
      · have fin := (rst_C (ld := ldV A m F) (P := F 13) (n := F 14) (goal := goal) hg).fin hg
        refine ⟨h, V, ?_, C, Oc.refl, Sm.refl, fun d hd => ?_, fun d hd => ?_⟩
        · rw [sr140_succ]
          unfold s_X10_settleReaches_140_b
          rw [if_neg nz1, g0, Option.bind_some, f12, Option.bind_some, if_pos ((jI_lt (by omega) (by omega)).mpr (by omega))]
        · rw [h1 d hd, q1, fin.1]
        · rw [h2 d hd, q1, fin.2]
      · obtain ⟨hA, VA, eA, CA, OA, MA, WA, a1, a2⟩ := rr2_go (show r < 1000000 by omega) (good := good) (goal := goal) hg L L2 (F 12) 0 FU h V (by omega) (by unfold FU; omega) C M hgd hT hW (fun d hd => by rw [if_neg (Nat.not_lt_zero d)]; exact h1 d hd) (fun d hd => by rw [if_neg (Nat.not_lt_zero d)]; exact h2 d hd)
        obtain ⟨hB, VB, q', eB, CB, OB, MB, WB, b1, b2⟩ := rr74_go (show r < 1000000 by omega) (good := good) (goal := goal) (F 12) 0 FU hA VA false (by omega) (by unfold FU; omega) CA a1 WA (fun d hd => by rw [if_neg (Nat.not_lt_zero d), MA 67 (by decide)]; exact hT d hd)
        have M2 : Sm [65, 66, 67, 68] V VB := (MA.mono (by decide)).trans (MB.mono (by decide))
        have rr : s_X10_reachRound 60 (jI (r + 1)) h = some (.inl (some (.int (b01 q'))), hB) := by
          have z0 : jI 0 = 0 := rfl
          rw [z0] at eA eB
          rw [b01_f] at eB
          unfold s_X10_reachRound
          rw [eA, eB]
        obtain ⟨h', V', ih, i1, i2, i3, i4⟩ := ih0 (r + 1) q' hB VB (by omega) (by omega) CB (M.sm (M2 58 (by decide)) (M2 59 (by decide))) (fun d hd => by rw [M2 62 (by decide)]; exact hgd d hd) (fun d hd => by
          rw [b1 d hd]
          by_cases y : d < F 12
          · rw [if_pos y]
          · rw [if_neg y, rcS_out hg _ y, rcS_out hg _ y]) WB (fun d hd => by rw [MB 65 (by decide)]; exact a1 d hd) (fun d hd => by rw [MB 66 (by decide)]; exact a2 d hd) (fun hq => ⟨r, rfl, by
          rcases rst_or (ld := ldV A m F) (P := F 13) (n := F 14) (goal := goal) hg r with z | z
          · exact z
          · exfalso
            have hne : ¬ ∃ d, 0 ≤ d ∧ d < F 12 ∧ rcS (ldV A m F) (F 13) (F 14) good goal (r + 1) d = true ∧ rcS (ldV A m F) (F 13) (F 14) good goal r d = false := fun H => by
              have := b2.mpr (Or.inr H)
              rw [hq] at this
              cases this
            have : cntB (fun c => !rcS (ldV A m F) (F 13) (F 14) good goal r c) (F 12) ≤ cntB (fun c => !rcS (ldV A m F) (F 13) (F 14) good goal (r + 1) c) (F 12) := cntB_mono _ (fun c hc hc1 => by
              cases z2 : rcS (ldV A m F) (F 13) (F 14) good goal (r + 1) c with
              | false => rfl
              | true =>
                refine absurd ⟨c, Nat.zero_le _, hc, z2, ?_⟩ hne
                cases z3 : rcS (ldV A m F) (F 13) (F 14) good goal r c with
                | false => rfl
                | true => rw [z3] at hc1; cases hc1)
            omega⟩)
        refine ⟨h', V', ?_, i1, (OA.trans OB).trans i2, M2.trans i3, i4⟩
        rw [sr140_succ]
        unfold s_X10_settleReaches_140_b
        rw [if_neg nz1, g0, Option.bind_some, f12, Option.bind_some, if_neg (fun z => by have := (jI_lt (by omega) (by omega)).mp z; omega), kO_of (ltE (by decide)) (X.1 60 rfl), rr]
        simp only [cI, jI_inc]
        exact ih
theorem sr91_go {S : Nat → Nat → Int32} {D Ln : Nat → Nat} {good goal : Nat → Bool} : ∀ (n c f : Nat) (h : aH) (V : Nat → Nat → Int32), c + n = F 12 → n < f → CC h S V Z D Ln b A N m F → gdC V good → glC V goal → (∀ d, d < c → V 65 d = if good d && goal d then 0 else -2) →
    ∃ h' V', s_X10_settleReaches_91 f 60 (jI c) h = s_X10_settleReaches_140 FU 60 1 1 h' ∧ CC h' S V' Z D Ln b A N m F ∧ Oc D h h' ∧ Sm [65] V V' ∧ ∀ d, d < F 12 → V' 65 d = if good d && goal d then 0 else -2
  | _, _, 0, _, _, _, hf, _, _, _, _ => by omega
  | 0, c, f + 1, h, V, hk, hf, C, hg, hl, hz => by
    obtain ⟨X, HM, K, hC, hw⟩ := id C
    have h400 := hC.2.2.2.2.1
    refine ⟨h, V, ?_, C, Oc.refl, Sm.refl, fun d hd => hz d (by omega)⟩
    have g0 : gO h (.ref 60) 10 0 = some 3 := gO_of (ltE (by decide)) (X.1 60 rfl) rfl
    have f12 : gI h (.ref 3) 2 12 = some (jI (F 12)) := gI_of (ltE (by decide)) HM.2.1 rfl
    show s_X10_settleReaches_91_b (s_X10_settleReaches_91 f) 60 (jI c) h = _
    unfold s_X10_settleReaches_91_b
    rw [g0, Option.bind_some, f12, Option.bind_some, if_pos ((jI_le (by omega) (by omega)).mpr (by omega))]
  | n + 1, c, f + 1, h, V, hk, hf, C, hg, hl, hz => by
    obtain ⟨X, HM, K, hC, hw⟩ := id C
    have h400 := hC.2.2.2.2.1
    have g0 : gO h (.ref 60) 10 0 = some 3 := gO_of (ltE (by decide)) (X.1 60 rfl) rfl
    have g8 : gO h (.ref 60) 10 8 = some 65 := gO_of (ltE (by decide)) (X.1 60 rfl) rfl
    have f12 : gI h (.ref 3) 2 12 = some (jI (F 12)) := gI_of (ltE (by decide)) HM.2.1 rfl
    have ig := isGood_at X hg (c := c) (by omega)
    have il := isGoal_at X hl (c := c) (by omega)
    have kk : ∀ {β : Type} {k : Option β}, kO h 60 10 k = k := fun {β k} => kO_of (ltE (by decide)) (X.1 60 rfl)
    obtain ⟨h1, e1, X1, O1⟩ := X.st (a := 65) (j := c) rfl (show c < 400 by omega) (if good c && goal c then 0 else -2)
    obtain ⟨h', V', ih, i1, i2, i3, i4⟩ := sr91_go (good := good) (goal := goal) n (c + 1) f h1 _ (by omega) (by omega) (C.to X1 O1 rfl) (fun d hd => by rw [upd2_ne (by decide)]; exact hg d hd) (fun d hd => by rw [upd2_ne (by decide)]; exact hl d hd) (fun d hd => by
      rw [upd2_eq]
      by_cases z : d = c
      · rw [z, upd_eq]
      · rw [upd_ne z]; exact hz d (by omega))
    refine ⟨h', V', ?_, i1, O1.trans i2, (Sm.refl.upd (by decide)).trans i3, i4⟩
    have p129 : ∀ y, y = (if good c && goal c then 0 else -2) → s_X10_settleReaches_129 (s_X10_settleReaches_91 f) 60 (jI c) y (jI c) 65 h = s_X10_settleReaches_140 FU 60 1 1 h' := by
      intro y hy
      unfold s_X10_settleReaches_129
      rw [hy, e1, Option.bind_some, jI_inc]
      exact ih
    show s_X10_settleReaches_91_b (s_X10_settleReaches_91 f) 60 (jI c) h = _
    unfold s_X10_settleReaches_91_b
    simp only [g0, f12, g8, Option.bind_some]
    rw [if_neg (fun q => by have := (jI_le (by omega) (by omega)).mp q; omega)]
    simp only [kk, ig, il, cI, s_X10_settleReaches_127]
    cases z1 : good c with
    | false =>
      rw [if_pos b01_f]
      exact p129 (-2) (by rw [z1]; rfl)
    | true =>
      rw [if_neg (show ¬ b01 true = 0 by decide)]
      cases z2 : goal c with
      | false =>
        rw [if_pos b01_f]
        exact p129 (-2) (by rw [z1, z2]; rfl)
      | true =>
        rw [if_neg (show ¬ b01 true = 0 by decide)]
        exact p129 0 (by rw [z1, z2]; rfl)
theorem sr58_go {S : Nat → Nat → Int32} {D Ln : Nat → Nat} : ∀ (n k f : Nat) (h : aH) (V : Nat → Nat → Int32), k + n = 13 → n < f → CC h S V Z D Ln b A N m F → (∀ j, j < k → V 67 j = V 62 j &&& V 63 j) →
    ∃ h' V', s_X10_settleReaches_58 f 60 (jI k) h = s_X10_settleReaches_91 FU 60 0 h' ∧ CC h' S V' Z D Ln b A N m F ∧ Oc D h h' ∧ Sm [67] V V' ∧ ∀ j, j < 13 → V' 67 j = V 62 j &&& V 63 j
  | _, _, 0, _, _, _, hf, _, _ => by omega
  | 0, k, f + 1, h, V, hk, hf, C, hz => by
    refine ⟨h, V, ?_, C, Oc.refl, Sm.refl, fun j hj => hz j (by omega)⟩
    show s_X10_settleReaches_58_b (s_X10_settleReaches_58 f) 60 (jI k) h = _
    unfold s_X10_settleReaches_58_b
    rw [show (13 : Int32) = jI 13 from rfl, if_pos ((jI_le (by omega) (by omega)).mpr (by omega))]
  | n + 1, k, f + 1, h, V, hk, hf, C, hz => by
    have X := C.1
    have g10 : gO h (.ref 60) 10 10 = some 67 := gO_of (ltE (by decide)) (X.1 60 rfl) rfl
    have g4 : gO h (.ref 60) 10 4 = some 62 := gO_of (ltE (by decide)) (X.1 60 rfl) rfl
    have g5 : gO h (.ref 60) 10 5 = some 63 := gO_of (ltE (by decide)) (X.1 60 rfl) rfl
    have l1 : ldI .int h (.ref 62) (jI k) = some (V 62 k) := X.ld (a := 62) rfl (show k < 13 by omega)
    have l2 : ldI .int h (.ref 63) (jI k) = some (V 63 k) := X.ld (a := 63) rfl (show k < 13 by omega)
    obtain ⟨h1, e1, X1, O1⟩ := X.st (a := 67) (j := k) rfl (show k < 13 by omega) (V 62 k &&& V 63 k)
    obtain ⟨h', V', ih, i1, i2, i3, i4⟩ := sr58_go n (k + 1) f h1 _ (by omega) (by omega) (C.to X1 O1 rfl) (fun j hj => by
      rw [upd2_eq, upd2_ne (by decide), upd2_ne (by decide)]
      by_cases z : j = k
      · rw [z, upd_eq]
      · rw [upd_ne z]; exact hz j (by omega))
    refine ⟨h', V', ?_, i1, O1.trans i2, (Sm.refl.upd (by decide)).trans i3, fun j hj => by rw [i4 j hj, upd2_ne (by decide), upd2_ne (by decide)]⟩
    show s_X10_settleReaches_58_b (s_X10_settleReaches_58 f) 60 (jI k) h = _
    unfold s_X10_settleReaches_58_b
    rw [show (13 : Int32) = jI 13 from rfl, if_neg (fun q => by have := (jI_le (by omega) (by omega)).mp q; omega), g10, Option.bind_some, g4, Option.bind_some, l1, Option.bind_some, g5, Option.bind_some, l2, Option.bind_some, e1, Option.bind_some, jI_inc]
    exact ih
end
