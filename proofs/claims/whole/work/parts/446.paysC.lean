/-! the class's payments settled -/
/-- the class's rows of what is paid stand below a horizon, and at it below a cell -/
def okPc (V : Nat → Nat → Int32) (C hz c : Nat) (bb : Nat → Nat → Int32 × Int32) : Prop := ∀ k d, d < C → (k < hz ∨ (k = hz ∧ d < c)) → V 79 (k * C + d) = (bb k d).1 ∧ V 80 (k * C + d) = (bb k d).2
theorem rc_inj {C k d k2 d2 : Nat} (hd : d < C) (hd2 : d2 < C) (e : k * C + d = k2 * C + d2) : k = k2 ∧ d = d2 := by
  have e1 := congrArg (· / C) e
  simp only [Nat.mul_comm _ C, Nat.mul_add_div (show 0 < C by omega), Nat.div_eq_of_lt hd, Nat.div_eq_of_lt hd2, Nat.add_zero] at e1
  subst e1
  exact ⟨rfl, by omega⟩
theorem mnG_first {f : Nat → Int32} {P : Nat} (hP : 0 < P) (hf : f 0 ≤ 1000000) : mnG f 0 P 1000001 0 = mnG f 1 (P - 1) (f 0) 0 := by
  match P, hP with
  | P + 1, _ =>
    show (if f 0 < 1000001 then mnG f (0 + 1) P (f 0) (jI 0) else mnG f (0 + 1) P 1000001 0) = _
    rw [if_pos]
    · rfl
    · rw [Int32.le_iff_toInt_le] at hf
      rw [Int32.lt_iff_toInt_lt]
      have h1 : (1000000 : Int32).toInt = 1000000 := rfl
      have h2 : (1000001 : Int32).toInt = 1000001 := rfl
      omega
section
variable {Z : Nat → Nat → Int64} {D Ln : Nat → Nat} {b : Nat} {A : Nat → Nat → Int32} {N : Nat → Int64} {m F : Nat → Nat}
theorem ps56_go {S : Nat → Nat → Int32} (L : lenMv Ln F) (L2 : 21 * F 12 ≤ Ln 79) (L3 : 21 * F 12 ≤ Ln 80) (L4 : F 12 * F 13 ≤ Ln 64) {cs : Nat → Nat → Int32} {good : Nat → Bool} {k49 : Nat → Int32 → Int32 → aH → aO} {to hz : Nat} (hz2 : hz ≤ 20) :
    ∀ (n c f : Nat) (h : aH) (V : Nat → Nat → Int32), c + n = F 12 → n < f → CC h S V Z D Ln b A N m F → okMv V A m F → gdC V good → csC V F cs → okPc V (F 12) hz c (bst (ldV A m F) (F 13) (F 14) good cs) →
      ∃ h' V', s_X4_settle_56 k49 f 78 (jI to) (jI hz) (jI c) h = k49 78 (jI to) (jI (hz + 1)) h' ∧ CC h' (upd2 S 78 (upd (S 78) 3 (jI hz))) V' Z D Ln b A N m F ∧ Oc D h h' ∧ Sm [79, 80] V V' ∧ okPc V' (F 12) hz (F 12) (bst (ldV A m F) (F 13) (F 14) good cs)
  | _, _, 0, _, _, _, hf, _, _, _, _, _ => by omega
  | 0, c, f + 1, h, V, hk, hf, C, M, hg, hcs, hb => by
    obtain ⟨X, HM, K, hC, hwd⟩ := id C
    have h400 := hC.2.2.2.2.1
    have hc : c = F 12 := by omega
    subst hc
    have g0 : gO h (.ref 78) 4 0 = some 3 := gO_of (ltE (by decide)) (X.1 78 rfl) rfl
    have f12 : gI h (.ref 3) 2 12 = some (jI (F 12)) := gI_of (ltE (by decide)) HM.2.1 rfl
    have r := X.obj (a := 78) (g := upd (S 78) 3 (jI hz)) rfl
    have ep : pF h (.ref 78) 4 3 (.int (jI hz)) = some (h.set 78 (.inr (oF (upd2 S 78 (upd (S 78) 3 (jI hz))) D 78))) := by
      rw [pF_of (ltE (by decide)) (X.1 78 rfl) (show 3 < 6 by decide)]
      rfl
    refine ⟨_, V, ?_, C.to r.1 r.2 (by rw [upd2_ne (by decide)]), r.2, Sm.refl, hb⟩
    show s_X4_settle_56_b k49 (s_X4_settle_56 k49 f) 78 (jI to) (jI hz) (jI (F 12)) h = _
    unfold s_X4_settle_56_b
    rw [g0, Option.bind_some, f12, Option.bind_some, if_pos ((jI_le (by omega) (by omega)).mpr (by omega)), ep, Option.bind_some, jI_inc]
  | n + 1, c, f + 1, h, V, hk, hf, C, M, hg, hcs, hb => by
    obtain ⟨X, HM, K, hC, hwd⟩ := id C
    have h400 := hC.2.2.2.2.1
    have h9 := hC.2.2.2.2.2.1
    have hP := hC.pos.2.1
    have hc : c < F 12 := by omega
    have hi : hz * F 12 + c < 21 * F 12 := by
      have h1 : (hz + 1) * F 12 ≤ 21 * F 12 := Nat.mul_le_mul_right _ (by omega)
      rw [Nat.add_mul] at h1
      omega
    have g0 : gO h (.ref 78) 4 0 = some 3 := gO_of (ltE (by decide)) (X.1 78 rfl) rfl
    have g5 : gO h (.ref 78) 4 5 = some (D 80) := gO_of (ltE (by decide)) (X.1 78 rfl) rfl
    have f12 : gI h (.ref 3) 2 12 = some (jI (F 12)) := gI_of (ltE (by decide)) HM.2.1 rfl
    obtain ⟨h1, e1, X1, O1⟩ := X.stD (i := 80) (j := hz * F 12 + c) rfl (by omega) (-2)
    have G4 : gO h1 (.ref 78) 4 4 = some (D 79) := gO_of (ltE (by decide)) (X1.1 78 rfl) rfl
    have G2 : gO h1 (.ref 78) 4 2 = some 60 := gO_of (ltE (by decide)) (X1.1 78 rfl) rfl
    have ig1 := isGood_at X1 (good := good) (fun d hd => by rw [upd2_ne (by decide)]; exact hg d hd) (c := c) (by omega)
    obtain ⟨v0, hv0⟩ : ∃ v0 : Int32, v0 = if good c then 0 else 1000000 := ⟨_, rfl⟩
    obtain ⟨h2, e2, X2, O2⟩ := X1.stD (i := 79) (j := hz * F 12 + c) rfl (by omega) v0
    have C2 := (C.to X1 O1 rfl).to X2 O2 rfl
    obtain ⟨V2, hV2⟩ : ∃ V2, V2 = upd2 (upd2 V 80 (upd (V 80) (hz * F 12 + c) (-2))) 79 (upd (upd2 V 80 (upd (V 80) (hz * F 12 + c) (-2)) 79) (hz * F 12 + c) v0) := ⟨_, rfl⟩
    rw [← hV2] at C2
    have a79 : V2 79 = upd (V 79) (hz * F 12 + c) v0 := by rw [hV2, upd2_eq, upd2_ne (by decide)]
    have a80 : V2 80 = upd (V 80) (hz * F 12 + c) (-2) := by rw [hV2, upd2_ne (by decide), upd2_eq]
    have M2 : Sm [79, 80] V V2 := by rw [hV2]; exact (Sm.refl.upd (by decide)).upd (by decide)
    have G2' : gO h2 (.ref 78) 4 2 = some 60 := gO_of (ltE (by decide)) (C2.1.1 78 rfl) rfl
    have hg2 : gdC V2 good := fun d hd => by rw [M2 62 (by decide)]; exact hg d hd
    have ig2 := isGood_at C2.1 hg2 (c := c) (by omega)
    have O12 := O1.trans O2
    have start : ∀ {x : aO}, (if jI hz ≤ 0 then (s_X4_settle_56 k49 f 78 (jI to) (jI hz) (jI (c + 1)) h2) else (if b01 (good c) = 0 then (s_X4_settle_56 k49 f 78 (jI to) (jI hz) (jI (c + 1)) h2) else (cN (s_X4_choose 78 (jI c) (jI hz) h2) fun h131 => s_X4_settle_56 k49 f 78 (jI to) (jI hz) (jI (c + 1)) h131))) = x → s_X4_settle_56 k49 (f + 1) 78 (jI to) (jI hz) (jI c) h = x := by
      intro x hx
      have p112 : ∀ y, y = v0 → s_X4_settle_112 k49 (s_X4_settle_56 k49 f) 78 (jI to) (jI hz) (jI c) y (jI (hz * F 12 + c)) (D 79) h1 = x := by
        intro y hy
        unfold s_X4_settle_112
        rw [hy, e2, Option.bind_some, G2', Option.bind_some, kO_of (ltE (by decide)) (C2.1.1 60 rfl), ig2]
        simp only [cI, kO_of (ltE (by decide)) (C2.1.1 78 rfl), jI_inc]
        exact hx
      show s_X4_settle_56_b k49 (s_X4_settle_56 k49 f) 78 (jI to) (jI hz) (jI c) h = _
      unfold s_X4_settle_56_b
      simp only [g0, f12, g5, Option.bind_some, jI_mul, jI_add, e1, G4, G2]
      rw [if_neg (fun q => by have := (jI_le (by omega) (by omega)).mp q; omega), kO_of (ltE (by decide)) (X1.1 60 rfl), ig1]
      simp only [cI]
      cases z : good c with
      | false =>
        rw [if_pos b01_f]
        exact p112 1000000 (by rw [hv0, z]; rfl)
      | true =>
        rw [if_neg (show ¬ b01 true = 0 by decide)]
        exact p112 0 (by rw [hv0, z]; rfl)
    have okb : ∀ V3 : Nat → Nat → Int32, (∀ i, i ≠ hz * F 12 + c → V3 79 i = V 79 i ∧ V3 80 i = V 80 i) → V3 79 (hz * F 12 + c) = (bst (ldV A m F) (F 13) (F 14) good cs hz c).1 → V3 80 (hz * F 12 + c) = (bst (ldV A m F) (F 13) (F 14) good cs hz c).2 → okPc V3 (F 12) hz (c + 1) (bst (ldV A m F) (F 13) (F 14) good cs) := by
      intro V3 a1 a2 a3 k d hd hkd
      by_cases z : k = hz ∧ d = c
      · rw [z.1, z.2]
        exact ⟨a2, a3⟩
      · have hne : k * F 12 + d ≠ hz * F 12 + c := fun e => z (rc_inj hd hc e)
        rw [(a1 _ hne).1, (a1 _ hne).2]
        exact hb k d hd (by omega)
    have e22 : ∀ i, i ≠ hz * F 12 + c → V2 79 i = V 79 i ∧ V2 80 i = V 80 i := fun i hi => by
      rw [a79, a80, upd_ne hi, upd_ne hi]
      exact ⟨rfl, rfl⟩
    have plain : (jI hz ≤ 0 ∨ b01 (good c) = 0) → v0 = (bst (ldV A m F) (F 13) (F 14) good cs hz c).1 → (-2 : Int32) = (bst (ldV A m F) (F 13) (F 14) good cs hz c).2 →
        ∃ h' V', s_X4_settle_56 k49 (f + 1) 78 (jI to) (jI hz) (jI c) h = k49 78 (jI to) (jI (hz + 1)) h' ∧ CC h' (upd2 S 78 (upd (S 78) 3 (jI hz))) V' Z D Ln b A N m F ∧ Oc D h h' ∧ Sm [79, 80] V V' ∧ okPc V' (F 12) hz (F 12) (bst (ldV A m F) (F 13) (F 14) good cs) := by
      intro z q1 q2
      obtain ⟨h', V', ih, i1, i2, i3, i4⟩ := ps56_go L L2 L3 L4 (cs := cs) (good := good) (k49 := k49) (to := to) hz2 n (c + 1) f h2 V2 (by omega) (by omega) C2 (M.sm (M2 58 (by decide)) (M2 59 (by decide))) hg2 (fun c p x1 x2 => by rw [M2 64 (by decide)]; exact hcs c p x1 x2) (okb V2 e22 (by rw [a79, upd_eq]; exact q1) (by rw [a80, upd_eq]; exact q2))
      refine ⟨h', V', start ?_, i1, O12.trans i2, M2.trans i3, i4⟩
      rcases z with z | z
      · rw [if_pos z]; exact ih
      · rw [if_pos z, ite_self]; exact ih
    cases q : good c with
    | false =>
      refine plain (Or.inr (by rw [q]; rfl)) ?_ ?_
      · rw [hv0, q]
        cases hz with
        | zero => show _ = (if good c then (0 : Int32) else 1000000); rw [q]
        | succ k => show _ = (if good c then _ else ((1000000 : Int32), (-2 : Int32))).1; rw [q]; rfl
      · cases hz with
        | zero => rfl
        | succ k => show _ = (if good c then _ else ((1000000 : Int32), (-2 : Int32))).2; rw [q]; rfl
    | true =>
      cases hz with
      | zero =>
        refine plain (Or.inl (by decide)) ?_ rfl
        rw [hv0, q]
        show _ = (if good c then (0 : Int32) else 1000000)
        rw [q]
      | succ kz =>
        have hbk : ∀ d, d < F 12 → V2 79 ((kz + 1 - 1) * F 12 + d) = (bst (ldV A m F) (F 13) (F 14) good cs kz d).1 := fun d hd => by
          rw [Nat.add_sub_cancel, (e22 _ (fun e => by have := rc_inj hd hc e; omega)).1]
          exact (hb kz d hd (Or.inl (by omega))).1
        obtain ⟨h3, V3, e3, C3, O3, eV3⟩ := choose_go C2 (M.sm (M2 58 (by decide)) (M2 59 (by decide))) L L2 L3 L4 (cs := cs) (fun c p x1 x2 => by rw [M2 64 (by decide)]; exact hcs c p x1 x2) (hz := kz + 1) hc (by omega) hz2 hbk (fun d => bst_le kz d) (F 13) 0 FU 1000001 0 (by omega) (by unfold FU; omega)
        have em := mnG_first (f := pdS (ldV A m F) (F 14) cs (fun d => (bst (ldV A m F) (F 13) (F 14) good cs kz d).1) c) hP (jmin_le _)
        rw [em] at eV3
        have bst1 : bst (ldV A m F) (F 13) (F 14) good cs (kz + 1) c = mnG (pdS (ldV A m F) (F 14) cs (fun d => (bst (ldV A m F) (F 13) (F 14) good cs kz d).1) c) 1 (F 13 - 1) (pdS (ldV A m F) (F 14) cs (fun d => (bst (ldV A m F) (F 13) (F 14) good cs kz d).1) c 0) 0 := by
          show (if good c then _ else _) = _
          rw [q, if_pos rfl]
        rw [← bst1] at eV3
        have M3 : Sm [79, 80] V V3 := by rw [eV3]; exact (M2.upd (by decide)).upd (by decide)
        obtain ⟨h', V', ih, i1, i2, i3, i4⟩ := ps56_go L L2 L3 L4 (cs := cs) (good := good) (k49 := k49) (to := to) hz2 n (c + 1) f h3 V3 (by omega) (by omega) C3 (M.sm (M3 58 (by decide)) (M3 59 (by decide))) (fun d hd => by rw [M3 62 (by decide)]; exact hg d hd) (fun c p x1 x2 => by rw [M3 64 (by decide)]; exact hcs c p x1 x2) (okb V3 (fun i hi => by
          rw [eV3, upd2_ne (show (79 : Nat) ≠ 80 by decide), upd2_eq, upd2_eq, upd_ne hi, upd_ne hi]
          exact e22 i hi) (by rw [eV3, upd2_ne (show (79 : Nat) ≠ 80 by decide), upd2_eq, upd_eq]) (by rw [eV3, upd2_eq, upd_eq]))
        refine ⟨h', V', start ?_, i1, (O12.trans O3).trans i2, M3.trans i3, i4⟩
        have e3' : s_X4_choose 78 (jI c) (jI (kz + 1)) h2 = some (.inl none, h3) := e3
        rw [if_neg (fun z => by have := (jI_le (k := 0) (by omega) (by omega)).mp z; omega), q, if_neg (show ¬ b01 true = 0 by decide), e3']
        exact ih
end
