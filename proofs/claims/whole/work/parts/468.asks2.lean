/-! what the class's watcher answers, as a whole -/
def okWa (S V : Nat → Nat → Int32) (Ln : Nat → Nat) (A : Nat → Nat → Int32) (m F : Nat → Nat) (good : Nat → Bool) (tp ta tv : Nat → Int32) (tk : Nat) : Prop :=
  tk ≤ 30 ∧ S 92 4 = jI tk ∧ (∀ j, j < 62 → ta j = -1 ∨ 0 ≤ ta j) ∧ (∀ e, 1 ≤ e → e ≤ tk → V 94 e = tp e ∧ ∃ q, tp e = jI q ∧ q < F 13) ∧ okTl V ta tv ∧ okWl V Ln A m F good tp ta tv tk
/-- what a question to the watcher leaves -/
def afW (h : aH) (S V : Nat → Nat → Int32) (Z : Nat → Nat → Int64) (D Ln : Nat → Nat) (b : Nat) (A : Nat → Nat → Int32) (N : Nat → Int64) (m F : Nat → Nat) (good : Nat → Bool) (tp ta tv : Nat → Int32) (tk : Nat) (h' : aH) (n y : Nat) : Prop :=
  ∃ x V' D' Ln', CC h' (upd2 S 92 (upd (S 92) 10 x)) V' Z D' Ln' b A N m F ∧ Oc D h h' ∧ Gr h D D' ∧ Sm [93, 97, 98] V V' ∧ okWa (upd2 S 92 (upd (S 92) 10 x)) V' Ln' A m F good tp ta tv tk ∧ (∀ j, j ≠ 97 → Ln' j = Ln j ∧ D' j = D j) ∧ Ct Ln Ln' n y
section
variable {S V : Nat → Nat → Int32} {Z : Nat → Nat → Int64} {D Ln : Nat → Nat} {b : Nat} {A : Nat → Nat → Int32} {N : Nat → Int64} {m F : Nat → Nat} {good : Nat → Bool} {tp ta tv : Nat → Int32} {tk : Nat} {h : aH}
theorem afW.tr {h1 h2 : aH} {x : Int32} {V1 : Nat → Nat → Int32} {D1 L1 : Nat → Nat} {n1 y1 n2 y2 : Nat} (O : Oc D h h1) (G : Gr h D D1) (M : Sm [93, 97, 98] V V1) (hj : ∀ j, j ≠ 97 → L1 j = Ln j ∧ D1 j = D j) (ct : Ct Ln L1 n1 y1) (a : afW h1 (upd2 S 92 (upd (S 92) 10 x)) V1 Z D1 L1 b A N m F good tp ta tv tk h2 n2 y2) : afW h S V Z D Ln b A N m F good tp ta tv tk h2 (n1 + n2) (y1 + y2) := by
  obtain ⟨x2, V2, D2, L2, c1, c2, c3, c4, c5, c6, c7⟩ := a
  rw [updS] at c1 c5
  exact ⟨x2, V2, D2, L2, c1, O.trans2 G c2, G.trans O.1 c3, M.trans c4, c5, fun j q => ⟨(c6 j q).1.trans (hj j q).1, (c6 j q).2.trans (hj j q).2⟩, ct.trans c7⟩
theorem okWa.sm {V' : Nat → Nat → Int32} {S' : Nat → Nat → Int32} (W : okWa S V Ln A m F good tp ta tv tk) (hs : S' 92 4 = S 92 4) (M : ∀ k, k = 94 ∨ k = 95 ∨ k = 96 ∨ k = 97 ∨ k = 98 → V' k = V k) : okWa S' V' Ln A m F good tp ta tv tk := by
  obtain ⟨w1, w2, w3, w4, w5, w6⟩ := W
  refine ⟨w1, hs.trans w2, w3, fun e x1 x2 => ?_, w5.sm (M 96 (by decide)) (M 95 (by decide)), fun l hl => ?_⟩
  · rw [M 94 (by decide)]
    exact w4 e x1 x2
  · obtain ⟨r, r1, r2, r3, r4⟩ := w6 l hl
    exact ⟨r, by rw [M 98 (by decide)]; exact r1, r2, r3, fun e he => (r4 e he).keep (fun c hc => by rw [M 97 (by decide)])⟩
/-- a lane brought, and what is asked of it -/
theorem CC.brought (C : CC h S V Z D Ln b A N m F) (M : okMv V A m F) (L : lenMv Ln F) (hg : gdC V good) (W : okWa S V Ln A m F good tp ta tv tk) {lane fl tick bn : Nat} (hti : tick ≤ tk) (hla : (lane < 5 ∧ fl = lane ∧ bn = 30 ∧ tick = tk) ∨ (lane = 5 ∧ fl = 0)) (h5 : lane = 5 → V 98 5 = -1) :
    ∃ h' n y V' D' Ln', s_X9_bring 92 (jI lane) (jI fl) (jI tick) (jI bn) h = some (.inl none, h', n, y) ∧ CC h' (upd2 S 92 (upd (S 92) 10 (jI bn))) V' Z D' Ln' b A N m F ∧ Oc D h h' ∧ Gr h D D' ∧ Sm [93, 97, 98] V V' ∧ okWa (upd2 S 92 (upd (S 92) 10 (jI bn))) V' Ln' A m F good tp ta tv tk ∧ (∀ j, j ≠ 97 → Ln' j = Ln j ∧ D' j = D j) ∧ Ct Ln Ln' n y ∧ 186 * F 12 ≤ Ln' 97 ∧ okLa V' A m F good tp ta tv (jI bn) fl (lnI F lane tick) tick := by
  obtain ⟨w1, w2, w3, w4, w5, w6⟩ := W
  obtain ⟨h', V', D', Ln', n, y, e, c1, c2, c3, c4, c5, c6, c7, c8, c9⟩ := C.bring (good := good) (tp := tp) hti w1 w3 hla h5 w4 M L w5 hg w6
  refine ⟨h', n, y, V', D', Ln', e, c1, c2, c3, c4, ⟨w1, by rw [upd2_eq, upd_ne (by decide)]; exact w2, w3, fun e x1 x2 => ?_, w5.sm (c4 96 (by decide)) (c4 95 (by decide)), c7⟩, c8, c9, c5, c6⟩
  rw [c4 94 (by decide)]
  exact w4 e x1 x2
theorem CC.cellsBy (C : CC h S V Z D Ln b A N m F) (M : okMv V A m F) (L : lenMv Ln F) (hg : gdC V good) (W : okWa S V Ln A m F good tp ta tv tk) {fl : Nat} (hfl : fl < 5) :
    ∃ h' n y, s_X9_cellsBy 92 (jI fl) h = some (.inl (some (.int (jI (cntB (caS A m F good tp ta tv 30 fl tk) (F 12))))), h', n, y) ∧ afW h S V Z D Ln b A N m F good tp ta tv tk h' n y := by
  obtain ⟨h1, n1, y1, V1, D1, L1, e1, C1, O1, G1, M1, W1, j1, ct, len, la⟩ := C.brought M L hg W (lane := fl) (fl := fl) (tick := tk) (bn := 30) (Nat.le_refl _) (Or.inl ⟨hfl, rfl, rfl, rfl⟩) (fun z => by omega)
  have g4 : gI h (.ref 92) 9 4 = some (jI tk) := W.2.1 ▸ gI_of (ltE (by decide)) (C.1.1 92 rfl) rfl
  have g4' : gI h1 (.ref 92) 9 4 = some (jI tk) := W1.2.1 ▸ gI_of (ltE (by decide)) (C1.1.1 92 rfl) rfl
  have e2 := C1.cellsIn (by omega) W.1 la len
  have e1' : s_X9_bring 92 (jI fl) (jI fl) (jI tk) 30 h = _ := e1
  refine ⟨h1, 0 + n1, 0 + y1, ?_, jI 30, V1, D1, L1, C1, O1, G1, M1, W1, j1, by rw [Nat.zero_add, Nat.zero_add]; exact ct⟩
  unfold s_X9_cellsBy
  rw [g4, Option.bind_some, kO_of (ltE (by decide)) (C.1.1 92 rfl), e1']
  simp only [dN, g4', Option.bind_some, kO_of (ltE (show 92 < 1000000 by decide)) (C1.1.1 92 rfl), e2, cI, wC]
  rw [ck_of (Nat.le_refl _) (Nat.le_refl _)]
  rfl
theorem CC.mayBe (C : CC h S V Z D Ln b A N m F) (M : okMv V A m F) (L : lenMv Ln F) (hg : gdC V good) (W : okWa S V Ln A m F good tp ta tv tk) {c : Nat} (hc : c < F 12) :
    ∃ h' n y, s_X9_mayBe 92 (jI c) h = some (.inl (some (.int (b01 (caS A m F good tp ta tv 30 0 tk c)))), h', n, y) ∧ afW h S V Z D Ln b A N m F good tp ta tv tk h' n y := by
  obtain ⟨h1, n1, y1, V1, D1, L1, e1, C1, O1, G1, M1, W1, j1, ct, len, la⟩ := C.brought M L hg W (lane := 0) (fl := 0) (tick := tk) (bn := 30) (Nat.le_refl _) (Or.inl ⟨by decide, rfl, rfl, rfl⟩) (fun z => by omega)
  have hC := C.2.2.2.1
  have h400 := hC.2.2.2.2.1
  have hLL := C1.1.lnD (i := 97) rfl
  have top := lnI_top (F := F) (show 0 < 6 by decide) W.1
  have g4 : gI h (.ref 92) 9 4 = some (jI tk) := W.2.1 ▸ gI_of (ltE (by decide)) (C.1.1 92 rfl) rfl
  have g4' : gI h1 (.ref 92) 9 4 = some (jI tk) := W1.2.1 ▸ gI_of (ltE (by decide)) (C1.1.1 92 rfl) rfl
  have g8 : gO h1 (.ref 92) 9 8 = some (D1 97) := gO_of (ltE (by decide)) (C1.1.1 92 rfl) rfl
  have l : ldI .int h1 (.ref (D1 97)) (jI (lnI F 0 tk + c)) = some (V1 97 (lnI F 0 tk + c)) := C1.1.ldD (i := 97) rfl (by omega)
  have es : s_X9_startOf 92 0 (jI tk) h1 = _ := C1.startOf 0 tk
  have z := la.zero hC.pos.2.2.2.2 hc
  have e1' : s_X9_bring 92 0 0 (jI tk) 30 h = _ := e1
  refine ⟨h1, 0 + n1, 0 + y1, ?_, jI 30, V1, D1, L1, C1, O1, G1, M1, W1, j1, by rw [Nat.zero_add, Nat.zero_add]; exact ct⟩
  have fin : (if V1 97 (lnI F 0 tk + c) = 0 then rtZ 0 h1 else rtZ 1 h1) = some (.inl (some (.int (b01 (caS A m F good tp ta tv 30 0 tk c)))), h1) := by
    cases u : caS A m F good tp ta tv 30 0 tk c with
    | false =>
      rw [if_pos (z.mpr u)]
      rfl
    | true =>
      rw [if_neg (fun v => by
        have := z.mp v
        have u' : caS A m F good tp ta tv (jI 30) 0 tk c = true := u
        rw [u'] at this
        cases this)]
      rfl
  unfold s_X9_mayBe
  rw [g4, Option.bind_some, kO_of (ltE (by decide)) (C.1.1 92 rfl), e1']
  simp only [dN, g8, g4', Option.bind_some, kO_of (ltE (show 92 < 1000000 by decide)) (C1.1.1 92 rfl), es, cI, jI_add, l]
  rw [fin]
  simp only [wC]
  rw [ck_of (Nat.le_refl _) (Nat.le_refl _)]
theorem CC.bound (C : CC h S V Z D Ln b A N m F) (M : okMv V A m F) (L : lenMv Ln F) (hg : gdC V good) (W : okWa S V Ln A m F good tp ta tv tk) {s : Nat} (hs : s < m 0) (mo : Bool) :
    ∃ h' n y, s_X9_bound 92 (jI s) (b01 mo) h = some (.inl (some (.int (bdG (caS A m F good tp ta tv 30 0 tk) (fun c => sprGo A 0 0 (m 0) (jI c) zV s) mo 0 (F 12) (-2147483648)))), h', n, y) ∧ afW h S V Z D Ln b A N m F good tp ta tv tk h' n y := by
  obtain ⟨h1, n1, y1, V1, D1, L1, e1, C1, O1, G1, M1, W1, j1, ct, len, la⟩ := C.brought M L hg W (lane := 0) (fl := 0) (tick := tk) (bn := 30) (Nat.le_refl _) (Or.inl ⟨by decide, rfl, rfl, rfl⟩) (fun z => by omega)
  have h400 := C.2.2.2.1.2.2.2.2.1
  have g4 : gI h (.ref 92) 9 4 = some (jI tk) := W.2.1 ▸ gI_of (ltE (by decide)) (C.1.1 92 rfl) rfl
  obtain ⟨h2, V2, e2, C2, O2, M2⟩ := bd18_go W.1 W1.2.1 (s := s) (mo := mo) len (F 12) 0 FU h1 V1 (-2147483648) (by omega) (by unfold FU; omega) hs C1 la
  have e1' : s_X9_bring 92 0 0 (jI tk) 30 h = _ := e1
  have e2' : s_X9_bound_18 FU 92 (jI s) (b01 mo) (-2147483648) 0 h1 = _ := e2
  refine ⟨h2, 0 + n1, 0 + y1, ?_, jI 30, V2, D1, L1, C2, O1.trans2 G1 O2, G1, M1.trans (M2.mono (by decide)), W1.sm rfl (fun k hk => M2 k (by rcases hk with rfl | rfl | rfl | rfl | rfl <;> decide)), j1, by rw [Nat.zero_add, Nat.zero_add]; exact ct⟩
  unfold s_X9_bound
  rw [g4, Option.bind_some, kO_of (ltE (by decide)) (C.1.1 92 rfl), e1']
  simp only [dN]
  rw [e2']
  simp only [wC]
  rw [ck_of (Nat.le_refl _) (Nat.le_refl _)]
  rfl
theorem CC.fitting (C : CC h S V Z D Ln b A N m F) (M : okMv V A m F) (L : lenMv Ln F) (hg : gdC V good) (W : okWa S V Ln A m F good tp ta tv tk) :
    ∃ h' n y x, s_X9_fitting 92 h = some (.inl (some (.int x)), h', n, y) ∧ (∀ q, q < 32 → bitI x q = (decide (q < F 15) && fiS A m F good tp ta tv 30 0 tk q)) ∧ afW h S V Z D Ln b A N m F good tp ta tv tk h' n y := by
  obtain ⟨h1, n1, y1, V1, D1, L1, e1, C1, O1, G1, M1, W1, j1, ct, len, la⟩ := C.brought M L hg W (lane := 0) (fl := 0) (tick := tk) (bn := 30) (Nat.le_refl _) (Or.inl ⟨by decide, rfl, rfl, rfl⟩) (fun z => by omega)
  have h400 := C.2.2.2.1.2.2.2.2.1
  have g4 : gI h (.ref 92) 9 4 = some (jI tk) := W.2.1 ▸ gI_of (ltE (by decide)) (C.1.1 92 rfl) rfl
  obtain ⟨x, e2, i⟩ := ft16_go W.1 W1.2.1 len C1 la (F 12) 0 FU 0 (by omega) (by unfold FU; omega)
  have e1' : s_X9_bring 92 0 0 (jI tk) 30 h = _ := e1
  have e2' : s_X9_fitting_16 FU 92 0 0 h1 = _ := e2
  refine ⟨h1, 0 + n1, 0 + y1, x, ?_, fun q hq => ?_, jI 30, V1, D1, L1, C1, O1, G1, M1, W1, j1, by rw [Nat.zero_add, Nat.zero_add]; exact ct⟩
  · unfold s_X9_fitting
    rw [g4, Option.bind_some, kO_of (ltE (by decide)) (C.1.1 92 rfl), e1']
    simp only [dN]
    rw [e2']
    simp only [wC]
    rw [ck_of (Nat.le_refl _) (Nat.le_refl _)]
  · apply Bool_ext
    rw [i q hq, bitI_00 hq, Bool.and_eq_true, decide_eq_true_eq]
    unfold fiS
    rw [anyR_iff]
    constructor
    · rintro (v | ⟨v, d, v1, v2, v3⟩)
      · cases v
      · exact ⟨v, d, v1, by omega, v3⟩
    · rintro ⟨v, d, v1, v2, v3⟩
      exact Or.inr ⟨v, d, v1, by omega, v3⟩
theorem CC.cellsAsKnown (C : CC h S V Z D Ln b A N m F) (M : okMv V A m F) (L : lenMv Ln F) (hg : gdC V good) (W : okWa S V Ln A m F good tp ta tv tk) {tick : Nat} (hti : tick ≤ tk) :
    ∃ h' n y, s_X9_cellsAsKnown 92 (jI tick) h = some (.inl (some (.int (jI (cntB (caS A m F good tp ta tv (jI tick) 0 tick) (F 12))))), h', n, y) ∧ afW h S V Z D Ln b A N m F good tp ta tv tk h' n y := by
  have g9 : gO h (.ref 92) 9 9 = some 98 := gO_of (ltE (by decide)) (C.1.1 92 rfl) rfl
  obtain ⟨h0, e0, X0, O0⟩ := C.1.st (a := 98) (j := 5) rfl (show 5 < 6 by decide) (-1)
  have e0' : stI h (.ref 98) 5 (-1) = some h0 := e0
  have C0 := C.to X0 O0 rfl
  have W0 : okWa S (upd2 V 98 (upd (V 98) 5 (-1))) Ln A m F good tp ta tv tk := by
    obtain ⟨w1, w2, w3, w4, w5, w6⟩ := W
    refine ⟨w1, w2, w3, fun e x1 x2 => by rw [upd2_ne (by decide)]; exact w4 e x1 x2, w5.sm (upd2_ne (by decide)) (upd2_ne (by decide)), fun l hl => ?_⟩
    obtain ⟨r, r1, r2, r3, r4⟩ := w6 l hl
    exact ⟨r, by rw [upd2_eq, upd_ne (by omega)]; exact r1, r2, r3, fun e he => (r4 e he).keep (fun c hc => by rw [upd2_ne (by decide)])⟩
  obtain ⟨h1, n1, y1, V1, D1, L1, e1, C1, O1, G1, M1, W1, j1, ct, len, la⟩ := C0.brought (M.sm (upd2_ne (by decide)) (upd2_ne (by decide))) L (fun d hd => by rw [upd2_ne (by decide)]; exact hg d hd) W0 (lane := 5) (fl := 0) (tick := tick) (bn := tick) hti (Or.inr ⟨rfl, rfl⟩) (fun _ => by rw [upd2_eq, upd_eq])
  have e2 := C1.cellsIn (lane := 5) (by decide) (show tick ≤ 30 by have := W.1; omega) la len
  have e1' : s_X9_bring 92 5 0 (jI tick) (jI tick) h0 = _ := e1
  have e2' : s_X9_cellsIn 92 5 (jI tick) h1 = _ := e2
  have G0 : Gr h D D1 := fun i hi => by
    rcases G1 i hi with z | z
    · exact Or.inl z
    · exact Or.inr (Nat.le_trans O0.1 z)
  refine ⟨h1, 0 + n1, 0 + y1, ?_, jI tick, V1, D1, L1, C1, O0.trans O1, G0, (Sm.refl.upd (by decide)).trans M1, W1, j1, by rw [Nat.zero_add, Nat.zero_add]; exact ct⟩
  unfold s_X9_cellsAsKnown
  rw [g9, Option.bind_some, e0', Option.bind_some, kO_of (ltE (by decide)) (C0.1.1 92 rfl), e1']
  simp only [dN, kO_of (ltE (show 92 < 1000000 by decide)) (C1.1.1 92 rfl), e2', cI, wC]
  rw [ck_of (Nat.le_refl _) (Nat.le_refl _)]
end
/-- which faults are left -/
def nmG (g : Nat → Nat) : Nat → Nat → Int32 → Int32
  | _, 0, x => x
  | f, k + 1, x => if g f = 0 then nmG g (f + 1) k x else nmG g (f + 1) k (if x = -3 then jI f else -2)
section
variable {Z : Nat → Nat → Int64} {b : Nat} {A : Nat → Nat → Int32} {N : Nat → Int64} {m F : Nat → Nat} {good : Nat → Bool} {tp ta tv : Nat → Int32} {tk : Nat}
theorem of5_go : ∀ (k fl f : Nat) (x : Int32) (h : aH) (S V : Nat → Nat → Int32) (D Ln : Nat → Nat) (c9 z9 : Nat), fl + k = m 1 + m 4 + 1 → k < f → CC h S V Z D Ln b A N m F → okMv V A m F → lenMv Ln F → gdC V good → okWa S V Ln A m F good tp ta tv tk →
    ∃ h' n y, s_X9_onlyFault_5 f 92 x (jI fl) h c9 z9 = some (.inl (some (.int (nmG (fun f => cntB (caS A m F good tp ta tv 30 f tk) (F 12)) fl k x))), h', c9 + n, z9 + y) ∧ afW h S V Z D Ln b A N m F good tp ta tv tk h' n y
  | _, _, 0, _, _, _, _, _, _, _, _, _, hf, _, _, _, _, _ => by omega
  | 0, fl, f + 1, x, h, S, V, D, Ln, c9, z9, hk, hf, C, M, L, hg, W => by
    obtain ⟨X, HM, K, hC, hwd⟩ := id C
    obtain ⟨k0, k1, k2, k3, k4⟩ := K.1.1
    have g0 : gO h (.ref 92) 9 0 = some 3 := gO_of (ltE (by decide)) (X.1 92 rfl) rfl
    have l1 : ldI .int h (.ref (3 + 1)) 1 = some (jI (m 1)) := (K.1.2.1 1 (by decide)) ▸ HM.ldmn (s := 1) (by decide)
    have l4 : ldI .int h (.ref (3 + 1)) 4 = some (jI (m 4)) := (K.1.2.1 4 (by decide)) ▸ HM.ldmn (s := 4) (by decide)
    refine ⟨h, 0, 0, ?_, S 92 10, V, D, Ln, by rw [updS_self]; exact C, Oc.refl, Gr.refl, Sm.refl, by rw [updS_self]; exact W, fun _ _ => ⟨rfl, rfl⟩, Ct.z⟩
    show s_X9_onlyFault_5_b (s_X9_onlyFault_5 f) 92 x (jI fl) h c9 z9 = _
    unfold s_X9_onlyFault_5_b
    rw [g0, Option.bind_some, HM.mn, Option.bind_some, l1, Option.bind_some, Option.bind_some, HM.mn, Option.bind_some, l4, Option.bind_some, jI_add, if_pos ((jI_lt (by omega) (by omega)).mpr (by omega))]
    rfl
  | k + 1, fl, f + 1, x, h, S, V, D, Ln, c9, z9, hk, hf, C, M, L, hg, W => by
    obtain ⟨X, HM, K, hC, hwd⟩ := id C
    have h400 := hC.2.2.2.2.1
    obtain ⟨k0, k1, k2, k3, k4⟩ := K.1.1
    have g0 : gO h (.ref 92) 9 0 = some 3 := gO_of (ltE (by decide)) (X.1 92 rfl) rfl
    have l1 : ldI .int h (.ref (3 + 1)) 1 = some (jI (m 1)) := (K.1.2.1 1 (by decide)) ▸ HM.ldmn (s := 1) (by decide)
    have l4 : ldI .int h (.ref (3 + 1)) 4 = some (jI (m 4)) := (K.1.2.1 4 (by decide)) ▸ HM.ldmn (s := 4) (by decide)
    obtain ⟨h1, n1, y1, e1, x1, V1, D1, L1, C1, O1, G1, M1, W1, j1, ct⟩ := C.cellsBy M L hg W (show fl < 5 by omega)
    obtain ⟨g, hgd⟩ : ∃ g, g = cntB (caS A m F good tp ta tv 30 fl tk) (F 12) := ⟨_, rfl⟩
    have gle := cntB_le (caS A m F good tp ta tv 30 fl tk) (F 12)
    rw [← hgd] at e1 gle
    obtain ⟨x', hx'⟩ : ∃ x' : Int32, x' = if g = 0 then x else if x = -3 then jI fl else -2 := ⟨_, rfl⟩
    obtain ⟨h', n, y, ih, af⟩ := of5_go k (fl + 1) f x' h1 _ V1 D1 L1 (c9 + n1) (z9 + y1) (by omega) (by omega) C1 (M.sm (M1 58 (by decide)) (M1 59 (by decide))) (by
      unfold lenMv
      rw [(j1 58 (by decide)).1, (j1 59 (by decide)).1]
      exact L) (fun d hd => by rw [M1 62 (by decide)]; exact hg d hd) W1
    refine ⟨h', n1 + n, y1 + y, ?_, afW.tr O1 G1 M1 j1 ct af⟩
    have nm : nmG (fun f => cntB (caS A m F good tp ta tv 30 f tk) (F 12)) fl (k + 1) x = nmG (fun f => cntB (caS A m F good tp ta tv 30 f tk) (F 12)) (fl + 1) k x' := by
      show (if cntB (caS A m F good tp ta tv 30 fl tk) (F 12) = 0 then _ else _) = _
      rw [← hgd, hx']
      by_cases w : g = 0
      · rw [if_pos w, if_pos w]
      · rw [if_neg w, if_neg w]
    rw [nm, ← Nat.add_assoc, ← Nat.add_assoc, ← ih]
    have hck : ck (c9 + n1) (z9 + y1) (s_X9_onlyFault_5 f 92 x' (jI (fl + 1)) h1 (c9 + n1) (z9 + y1)) = s_X9_onlyFault_5 f 92 x' (jI (fl + 1)) h1 (c9 + n1) (z9 + y1) := by
      rw [ih]
      exact ck_of (by omega) (by omega)
    show s_X9_onlyFault_5_b (s_X9_onlyFault_5 f) 92 x (jI fl) h c9 z9 = _
    unfold s_X9_onlyFault_5_b s_X9_onlyFault_53
    rw [g0, Option.bind_some, HM.mn, Option.bind_some, l1, Option.bind_some, Option.bind_some, HM.mn, Option.bind_some, l4, Option.bind_some, jI_add, if_neg (fun q => by have := (jI_lt (by omega) (by omega)).mp q; omega), if_neg (fun q => by have := (jI_le (j := 5) (by omega) (by omega)).mp q; omega), kO_of (ltE (by decide)) (X.1 92 rfl), e1]
    simp only [dI, jI_inc]
    refine Eq.trans ?_ hck
    congr 1
    rw [hx']
    by_cases w : g = 0
    · rw [if_pos (show jI g ≤ (0 : Int32) by rw [w]; exact Int32.le_refl _), if_pos w]
    · rw [if_neg (fun q => by have := (jI_le (j := g) (k := 0) (by omega) (by omega)).mp q; omega), if_neg w]
      by_cases w2 : x = -3
      · rw [if_pos w2, if_pos w2]
      · rw [if_neg w2, if_neg w2]
end
