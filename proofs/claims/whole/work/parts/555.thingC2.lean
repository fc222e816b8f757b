section
variable {h : aH} {S : Nat → Nat → Int32} {V : Nat → Nat → Int32} {Z : Nat → Nat → Int64} {D Ln : Nat → Nat} {b : Nat}
theorem thingC_ok {T : Nat → Nat} {n t : Nat} (hT : okTp T) (ht : t ≤ 400) (hn : n ≤ t) (X : CW h S V Z D Ln b) (P : PSh h) (XT : TPw h T) (h1 : S 0 1 = jI t) {A0 : Nat → Nat → Int32} {N0 : Nat → Int64} {F0 : Nat → Nat} (H : isM h 3 A0 N0 F0) {σ : pTh} (hx : thP T n 401 th0 0 = .inr σ) :
    ∃ h' S' V' D' Ln' A N F c y, s_X11_thing 0 (jI n) h = some (.inl (some (.int (jI (F 12)))), h', c, y) ∧ CC h' S' V' Z D' Ln' b A N (thM σ) F ∧ (∃ F1, F = meas A (thM σ) F1) ∧ cD A N F σ ∧ fitB σ = true ∧ PSh h' ∧ Oa D h h' ∧ Gr h D D' ∧ Ct Ln Ln' c y ∧
      (S' 0 1 = 0 ∧ S' 0 2 = 1 ∧ S' 0 3 = 0 ∧ S' 0 4 = 0 ∧ S' 0 5 = -1) ∧ S' 56 2 = 0 ∧ (S' 60 3 = jI (F 12) ∧ S' 60 7 = 0) ∧ (S' 99 6 = 0 ∧ S' 99 7 = 0 ∧ S' 99 8 = 0) ∧ (S' 81 1 = 0 ∧ S' 81 8 = S 81 8) ∧ S' 92 4 = 0 ∧ (S' 69 4 = 0 ∧ S' 69 5 = 0) ∧ S' 78 3 = -1 ∧
      gdC V' (fun d => decide (d < F 12)) ∧ glC V' (fun _ => false) ∧ (∀ i, i < F 12 * F 13 → V' 64 i = 0) ∧ F 12 * F 13 ≤ Ln' 64 ∧ (∀ j, j ≠ 64 → Ln' j = Ln j ∧ D' j = D j) ∧ Sm [62, 63, 64, 96, 98, 101, 102] V V' ∧
      (V' 101 0 = 0 ∧ V' 101 1 = 0 ∧ V' 101 2 = 0) ∧ (∀ j, j < 400 → V' 102 j = -1) ∧ (∀ j, j < 62 → V' 96 j = -1) ∧ ∀ j, j < 6 → V' 98 j = -1 := by
  obtain ⟨hf, h2, B, M, E1, e2, P2, G2, D2, f2⟩ := (readThing_at hT (show n ≤ 400 by omega) P XT).2 σ hx
  have X2 := X.frm f2.1 (fun i hi => f2.2 i (by omega))
  have H2 : isM h2 3 A0 N0 F0 := H.of (fun i i1 i2 => f2.2 i (by omega))
  obtain ⟨⟨fa, pl, at', wh, per, mo, fo, R2⟩, -⟩ := id P2
  obtain ⟨h3, e3, X3, O3⟩ := settled_at X2 R2 (q := 1) (Or.inr rfl)
  have n1 : ¬ (1 : Int32) = 0 := by decide
  rw [if_neg n1, if_neg n1, if_neg n1] at X3
  have H3 := H2.oc X2 O3 (Or.inl rfl)
  have G3 := G2.oc X2 O3 (Or.inr rfl)
  have P3 := P2.oc X2 O3
  obtain ⟨h4, A, N, F1, e4, H4, G4, D4, f4⟩ := takeM_at H3 G3 D2
  obtain ⟨F, hF⟩ : ∃ F, F = meas A (thM σ) F1 := ⟨_, rfl⟩
  have oC := cD.okC D4 hf
  rw [← hF] at H4 D4 oC
  have X4 := X3.frm f4.1 (fun i hi => f4.2 i (by omega))
  have P4 := P3.fr (fun i i1 i2 => f4.2 i (by omega))
  obtain ⟨h5, e5, X5, O5⟩ := X4.pz (a := 0) (ci := 11) (k := 2) (x := 1) (Or.inr rfl) rfl rfl (Nat.le_of_ble_eq_true rfl) rfl rfl
  have H5 := H4.oc X4 O5 (Or.inl rfl)
  have P5 := P4.oc X4 O5
  have h400 := oC.2.2.2.2.1
  obtain ⟨h6, e6, X6, O6⟩ := forget3_at X5 H5 (by omega)
  have C6 : CC h6 _ V Z D Ln b A N (thM σ) F := ⟨X6, H5.oc X5 O6 (Or.inl rfl), cD.okW D4 (cD.okN D4), oC, rfl⟩
  have P6 := P5.oc X5 O6
  obtain ⟨h7, V7, D7, L7, c, y, e7, C7, O7, G7, M7, a7, b7, c7, d7, l7, ct⟩ := C6.renew
  have P7 := P6.oc X6 O7
  obtain ⟨h8, e8, X8, O8⟩ := renew5_at C7.1
  have C8 := C7.to X8 O8 rfl
  have P8 := P7.oc C7.1 O8
  obtain ⟨h9, e9, X9, O9⟩ := forget1_at X8
  have C9 := C8.to X9 O9 rfl
  have P9 := P8.oc X8 O9
  obtain ⟨h10, e10, X10, O10⟩ := renew9_at X9
  have C10 := C9.to X10 O10 rfl
  have P10 := P9.oc X9 O10
  obtain ⟨h11, e11, X11, O11⟩ := forget7_at X10
  have C11 := C10.to X11 O11 rfl
  have P11 := P10.oc X10 O11
  obtain ⟨h12, e12, X12, O12⟩ := forget4_at X11
  have C12 := C11.to X12 O12 rfl
  have P12 := P11.oc X11 O12
  have g1 : gI h (.ref 0) 11 1 = some (jI t) := by rw [← h1]; exact gI_of (ltE (by decide)) (X.1 0 rfl) rfl
  have g10 : gO h (.ref 0) 11 10 = some 51 := gO_of (ltE (by decide)) (X.1 0 rfl) rfl
  have g0 : gO h (.ref 0) 11 0 = some 1 := gO_of (ltE (by decide)) (X.1 0 rfl) rfl
  have g8 : gO h (.ref 0) 11 8 = some 23 := gO_of (ltE (by decide)) (X.1 0 rfl) rfl
  have k51 : ∀ {β : Type} {y : Option β}, kO h 51 6 y = y := by
    obtain ⟨⟨fa, pl, a, w, per, mo, fo, R⟩, -⟩ := P
    exact kO_of (ltE (by decide)) R
  have k2 : ∀ {β : Type} {y : Option β}, kO h2 0 11 y = y := kO_of (ltE (by decide)) (X2.1 0 rfl)
  have i7 : gO h3 (.ref 0) 11 7 = some 3 := gO_of (ltE (by decide)) (X3.1 0 rfl) rfl
  have i8 : gO h3 (.ref 0) 11 8 = some 23 := gO_of (ltE (by decide)) (X3.1 0 rfl) rfl
  have j11 : gO h5 (.ref 0) 11 11 = some 56 := gO_of (ltE (by decide)) (X5.1 0 rfl) rfl
  have k56 : ∀ {β : Type} {y : Option β}, kO h5 56 3 y = y := kO_of (ltE (by decide)) (X5.1 56 rfl)
  have j12 : gO h6 (.ref 0) 11 12 = some 60 := gO_of (ltE (by decide)) (X6.1 0 rfl) rfl
  have k60 : ∀ {β : Type} {y : Option β}, kO h6 60 10 y = y := kO_of (ltE (by decide)) (X6.1 60 rfl)
  have j17 : gO h7 (.ref 0) 11 17 = some 99 := gO_of (ltE (by decide)) (C7.1.1 0 rfl) rfl
  have k99 : ∀ {β : Type} {y : Option β}, kO h7 99 5 y = y := kO_of (ltE (by decide)) (C7.1.1 99 rfl)
  have j15 : gO h8 (.ref 0) 11 15 = some 81 := gO_of (ltE (by decide)) (X8.1 0 rfl) rfl
  have k81 : ∀ {β : Type} {y : Option β}, kO h8 81 1 y = y := kO_of (ltE (by decide)) (X8.1 81 rfl)
  have j16 : gO h9 (.ref 0) 11 16 = some 92 := gO_of (ltE (by decide)) (X9.1 0 rfl) rfl
  have k92 : ∀ {β : Type} {y : Option β}, kO h9 92 9 y = y := kO_of (ltE (by decide)) (X9.1 92 rfl)
  have j13 : gO h10 (.ref 0) 11 13 = some 69 := gO_of (ltE (by decide)) (X10.1 0 rfl) rfl
  have k69 : ∀ {β : Type} {y : Option β}, kO h10 69 7 y = y := kO_of (ltE (by decide)) (X10.1 69 rfl)
  have j14 : gO h11 (.ref 0) 11 14 = some 78 := gO_of (ltE (by decide)) (X11.1 0 rfl) rfl
  have k78 : ∀ {β : Type} {y : Option β}, kO h11 78 4 y = y := kO_of (ltE (by decide)) (X11.1 78 rfl)
  have m7 : gO h12 (.ref 0) 11 7 = some 3 := gO_of (ltE (by decide)) (X12.1 0 rfl) rfl
  have m12 : gI h12 (.ref 3) 2 12 = some (jI (F 12)) := C12.f12
  have fi : ∀ (g : Nat → Int32) (k j : Nat), j < k → filF g 0 k (-1) j = -1 := fun g k j hj => if_pos ⟨Nat.zero_le _, hj⟩
  have OA : Oa D h h7 := ((((Oa.fr f2.1 (fun i hi => f2.2 i (by omega))).trans (Oa.of O3)).trans (Oa.fr f4.1 (fun i hi => f4.2 i (by omega)))).trans (Oa.of (O5.trans O6))).trans (Oa.of O7)
  have lg : h.length ≤ h6.length := by
    have q1 := O3.1
    have q2 := O5.1
    have q3 := O6.1
    have q4 := f2.1
    have q5 := f4.1
    omega
  have GG : Gr h D D7 := fun i hi => by
    rcases G7 i hi with z | z
    · exact Or.inl z
    · exact Or.inr (by omega)
  refine ⟨h12, _, _, D7, L7, A, N, F, 0 + c, 0 + y, ?_, C12, ⟨F1, hF⟩, D4, hf, P12, OA.trans2 GG (Oa.of ((((O8.trans O9).trans O10).trans O11).trans O12)), GG, by rw [Nat.zero_add, Nat.zero_add]; exact ct, ⟨rfl, rfl, rfl, rfl, rfl⟩, rfl, ⟨rfl, rfl⟩, ⟨rfl, rfl, rfl⟩, ⟨rfl, rfl⟩, rfl, ⟨rfl, rfl⟩, rfl, a7, b7, c7, d7, l7, ?_, ⟨rfl, rfl, rfl⟩, fun j hj => fi _ 400 j hj, fun j hj => fi _ 62 j hj, fun j hj => fi _ 6 j hj⟩
  · unfold s_X11_thing
    rw [if_neg (jI_neg (by omega)), g1, Option.bind_some, if_pos ((jI_le (by omega) (by omega)).mpr hn), g10, Option.bind_some, g0, Option.bind_some, g8, Option.bind_some, k51, cI_of e2, k2, cI_of e3, if_neg n1, i7, Option.bind_some, i8, Option.bind_some, H3.kO, cN_of e4, e5, Option.bind_some, j11, Option.bind_some, k56, cN_of e6, j12, Option.bind_some, k60, e7]
    simp only [dN]
    rw [j17, Option.bind_some, k99, cN_of e8, j15, Option.bind_some, k81, cN_of e9, j16, Option.bind_some, k92, cN_of e10, j13, Option.bind_some, k69, cN_of e11, j14, Option.bind_some, k78, cN_of e12, m7, Option.bind_some, m12, Option.bind_some]
    simp only [wC]
    rw [ck_of (Nat.le_refl _) (Nat.le_refl _), ck_of (Nat.zero_le _) (Nat.zero_le _), ck_of (Nat.zero_le _) (Nat.zero_le _), ck_of (Nat.zero_le _) (Nat.zero_le _), ck_of (Nat.zero_le _) (Nat.zero_le _)]
  · intro k hk
    simp only [List.mem_cons, List.not_mem_nil, or_false, not_or] at hk
    obtain ⟨k1, k2, k3, k4, k5, k6, k7⟩ := hk
    rw [upd2_ne k5, upd2_ne k4, upd2_ne k7, upd2_ne k6]
    exact M7 k (by simp [k1, k2, k3])
end
