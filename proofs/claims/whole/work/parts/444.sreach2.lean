/-! settleReaches as a whole -/
theorem oF_grow {S : Nat → Nat → Int32} {i o : Nat} (hio : (i = 58 ∧ o = 56) ∨ (i = 59 ∧ o = 56) ∨ (i = 64 ∧ o = 60) ∨ (i = 68 ∧ o = 60) ∨ (i = 75 ∧ o = 69) ∨ (i = 79 ∧ o = 78) ∨ (i = 80 ∧ o = 78) ∨ (i = 97 ∧ o = 92)) (D : Nat → Nat) (x a : Nat) (ha : obC a = true) (hne : a ≠ o) : oF S (updN D i x) a = oF S D a := by
  have ha := of_decide_eq_true ha
  rcases ha with rfl | rfl | rfl | rfl | rfl | rfl | rfl | rfl <;> rcases hio with ⟨rfl, rfl⟩ | ⟨rfl, rfl⟩ | ⟨rfl, rfl⟩ | ⟨rfl, rfl⟩ | ⟨rfl, rfl⟩ | ⟨rfl, rfl⟩ | ⟨rfl, rfl⟩ | ⟨rfl, rfl⟩ <;> first | exact absurd rfl hne | rfl
section
variable {Z : Nat → Nat → Int64} {D Ln : Nat → Nat} {b : Nat} {A : Nat → Nat → Int32} {N : Nat → Int64} {m F : Nat → Nat}
theorem CC.settleReaches {S : Nat → Nat → Int32} {h : aH} {V : Nat → Nat → Int32} (C : CC h S V Z D Ln b A N m F) {good goal : Nat → Bool} (hg : ∀ c, F 12 ≤ c → good c = false) (hgd : gdC V good) (hgl : glC V goal) (M : okMv V A m F) (L : lenMv Ln F) (hs : S 60 7 = 0 ∨ S 60 7 = 1) (hok : S 60 7 = 1 → okRc V A m F good goal) :
    ∃ h' V' D' Ln' n y, s_X10_settleReaches 60 h = some (.inl none, h', n, y) ∧ CC h' (upd2 S 60 (upd (S 60) 7 1)) V' Z D' Ln' b A N m F ∧ Oc D h h' ∧ Gr h D D' ∧ Sm [65, 66, 67, 68] V V' ∧ okRc V' A m F good goal ∧ (∀ j, j ≠ 68 → Ln' j = Ln j ∧ D' j = D j) ∧ Ct Ln Ln' n y := by
  obtain ⟨X, HM, K, hC, hw⟩ := id C
  have h400 := hC.2.2.2.2.1
  have h9 := hC.2.2.2.2.2.1
  have g7 : gI h (.ref 60) 10 7 = some (S 60 7) := gI_of (ltE (by decide)) (X.1 60 rfl) rfl
  rcases hs with q | q
  · obtain ⟨S1, hS1⟩ : ∃ S1, S1 = upd2 S 60 (upd (S 60) 7 1) := ⟨_, rfl⟩
    have r1 := X.obj (a := 60) (g := upd (S 60) 7 1) rfl
    rw [← hS1] at r1 ⊢
    obtain ⟨h1, e1, X1, O1⟩ : ∃ h1, pZ h (.ref 60) 10 7 1 = some h1 ∧ CW h1 S1 V Z D Ln b ∧ Oc D h h1 := by
      refine ⟨_, ?_, r1.1, r1.2⟩
      rw [pZ_of (ltE (by decide)) (X.1 60 rfl) (show 7 < 12 by decide) (Or.inr rfl), hS1]
      rfl
    have HM1 := HM.oc X O1 (Or.inl rfl)
    have g11 : gO h1 (.ref 60) 10 11 = some (D 68) := gO_of (ltE (by decide)) (X1.1 60 rfl) rfl
    have g0 : gO h1 (.ref 60) 10 0 = some 3 := gO_of (ltE (by decide)) (X1.1 60 rfl) rfl
    have f12 : gI h1 (.ref 3) 2 12 = some (jI (F 12)) := gI_of (ltE (by decide)) HM1.2.1 rfl
    have f13 : gI h1 (.ref 3) 2 13 = some (jI (F 13)) := gI_of (ltE (by decide)) HM1.2.1 rfl
    have n1 : F 12 * F 13 ≤ mxD 68 := show F 12 * F 13 ≤ 400 * 9 from Nat.mul_le_mul h400 h9
    obtain ⟨h2, na, ya, x2, L2, V2, h3, e2, e3, X3, O3, G3, len3, oth3, -, ct1, ct2, big3⟩ := X1.grow (i := 68) rfl (o := 60) (kf := 11) rfl rfl (show 11 < 12 by decide) (fun x => rfl) (oF_grow (by decide) D) n1
    obtain ⟨D3, hD3⟩ : ∃ D3, D3 = updN D 68 x2 := ⟨_, rfl⟩
    rw [← hD3] at X3 G3
    have C1 : CC h1 S1 V Z D Ln b A N m F := C.to X1 O1 (by rw [hS1, upd2_ne (by decide)])
    have C3 : CC h3 S1 V2 Z D3 L2 b A N m F := C1.to X3 O3 rfl
    have g11' : gO h3 (.ref 60) 10 11 = some (D3 68) := gO_of (ltE (by decide)) (X3.1 60 rfl) rfl
    have hL := X3.lnD (i := 68) rfl
    have e4 := fill_at (x := 0) (X3.dlt (i := 68) rfl) (show L2 68 < 1000000 by omega) (X3.2.2.2.1 68 rfl)
    have r4 := X3.rowD (a := 68) (g := filF (V2 68) 0 (L2 68) 0) rfl
    obtain ⟨h4, hh4⟩ : ∃ h4, h4 = h3.set (D3 68) (.inl (.int, L2 68, .inl (filF (V2 68) 0 (L2 68) 0))) := ⟨_, rfl⟩
    rw [← hh4] at e4 r4
    have C4 := C3.to r4.1 r4.2 rfl
    have g9 : gO h4 (.ref 60) 10 9 = some 66 := gO_of (ltE (by decide)) (C4.1.1 60 rfl) rfl
    have e5 := fill_at (x := -2) (ltE (by decide)) (show 400 < 1000000 by decide) (C4.1.2.1 66 rfl)
    have r5 := C4.1.row (a := 66) (g := filF (upd2 V2 68 (filF (V2 68) 0 (L2 68) 0) 66) 0 400 (-2)) rfl
    obtain ⟨h5, hh5⟩ : ∃ h5, h5 = h4.set 66 (.inl (.int, lnC 66, .inl (filF (upd2 V2 68 (filF (V2 68) 0 (L2 68) 0) 66) 0 400 (-2)))) := ⟨_, rfl⟩
    rw [← hh5] at r5
    have e5' : s_J7_fill_53178 66 (-2) h4 = some (.inl none, h5) := by rw [hh5]; exact e5
    have C5 := C4.to r5.1 r5.2 rfl
    obtain ⟨V5, hV5⟩ : ∃ V5, V5 = upd2 (upd2 V2 68 (filF (V2 68) 0 (L2 68) 0)) 66 (filF (upd2 V2 68 (filF (V2 68) 0 (L2 68) 0) 66) 0 400 (-2)) := ⟨_, rfl⟩
    rw [← hV5] at C5
    have M5 : Sm [65, 66, 67, 68] V V5 := fun k hk => by
      have k1 : k ≠ 68 := fun z => hk (by rw [z]; decide)
      have k2 : k ≠ 66 := fun z => hk (by rw [z]; decide)
      rw [hV5, upd2_ne k2, upd2_ne k1, (oth3 k k1).2]
    have v66 : ∀ d, d < 400 → V5 66 d = -2 := fun d hd => by
      rw [hV5, upd2_eq]
      unfold filF
      rw [if_pos ⟨Nat.zero_le _, hd⟩]
    have v68 : ∀ d, d < L2 68 → V5 68 d = 0 := fun d hd => by
      rw [hV5, upd2_ne (by decide), upd2_eq]
      unfold filF
      rw [if_pos ⟨Nat.zero_le _, hd⟩]
    obtain ⟨h6, V6, e6, C6, O6, M6, a6⟩ := sr58_go 13 0 FU h5 V5 rfl (by decide) C5 (fun j hj => by omega)
    have gd6 : gdC V6 good := fun d hd => by rw [M6 62 (by decide), M5 62 (by decide)]; exact hgd d hd
    have gl6 : glC V6 goal := fun d hd => by rw [M6 63 (by decide), M5 63 (by decide)]; exact hgl d hd
    obtain ⟨h7, V7, e7, C7, O7, M7, a7⟩ := sr91_go (good := good) (goal := goal) (F 12) 0 FU h6 V6 (by omega) (by unfold FU; omega) C6 gd6 gl6 (fun d hd => by omega)
    have M57 : Sm [65, 66, 67, 68] V5 V7 := (M6.mono (by decide)).trans (M7.mono (by decide))
    have L3 : lenMv L2 F := by
      unfold lenMv
      rw [(oth3 58 (by decide)).1, (oth3 59 (by decide)).1]
      exact L
    have wat : watI V7 F := fun c p hc hp => by
      refine ⟨0, Nat.zero_le _, ?_, fun j hj => by omega⟩
      rw [M7 68 (by decide), M6 68 (by decide)]
      have h1 : (c + 1) * F 13 ≤ F 12 * F 13 := Nat.mul_le_mul_right _ (by omega)
      rw [Nat.add_mul] at h1
      exact v68 _ (by omega)
    have dn : ∀ d, d < 416 → bit (V7 67) 0 d = rcS (ldV A m F) (F 13) (F 14) good goal 0 d := fun d hd => by
      show _ = (good d && goal d)
      rw [← hgd d hd, ← hgl d hd]
      unfold bit
      rw [Nat.zero_add, M7 67 (by decide), a6 _ (by omega), M5 62 (by decide), M5 63 (by decide), Int32.toBitVec_and, BitVec.getLsbD_and]
    obtain ⟨h8, V8, e8, C8, O8, M8, ok8⟩ := sr140_go hg L3 len3 FU 0 true h7 V7 (by omega) (by unfold FU; omega) C7 (M.sm (by rw [M57 58 (by decide), M5 58 (by decide)]) (by rw [M57 59 (by decide), M5 59 (by decide)])) (fun d hd => by rw [M7 62 (by decide)]; exact gd6 d hd) dn wat a7 (fun d hd => by rw [M7 66 (by decide), M6 66 (by decide)]; exact v66 d (by omega)) (fun z => by cases z)
    have Gr1 : Gr h D D3 := fun i hi => by
      rcases G3 i hi with z | z
      · exact Or.inl z
      · exact Or.inr (Nat.le_trans O1.1 z)
    have OO : Oc D h h8 := (O1.trans O3).trans2 Gr1 ((((r4.2.trans r5.2).trans O6).trans O7).trans O8)
    refine ⟨h8, V8, D3, L2, 0 + na, 0 + ya, ?_, C8, OO, Gr1, (M5.trans M57).trans M8, ok8, ?_, ?_⟩
    · have e6' : s_X10_settleReaches_58 FU 60 0 h5 = s_X10_settleReaches_91 FU 60 0 h6 := e6
      have e7' : s_X10_settleReaches_91 FU 60 0 h6 = s_X10_settleReaches_140 FU 60 1 1 h7 := e7
      have e8' : s_X10_settleReaches_140 FU 60 1 1 h7 = some (.inl none, h8) := e8
      unfold s_X10_settleReaches
      rw [g7, Option.bind_some, if_pos q, e1]
      simp only [Option.bind_some, g11, g0, f12, f13, jI_mul, e2, dR, e3, g11', e4, cN, g9, e5']
      rw [e6', e7', e8']
      simp only [wC]
      rw [ck_of (Nat.le_refl _) (Nat.le_refl _)]
    · intro j hj
      rw [(oth3 j hj).1, hD3, updN_ne hj]
      exact ⟨rfl, rfl⟩
    · rw [Nat.zero_add, Nat.zero_add]
      exact Ct.of (i := 68) rfl (fun j hj => (oth3 j hj).1) ct1 ct2
  · have eS : upd2 S 60 (upd (S 60) 7 1) = S := by
      have e1 : upd (S 60) 7 1 = S 60 := by rw [← q]; exact upd_self
      rw [e1, upd2_self]
    refine ⟨h, V, D, Ln, 0, 0, ?_, by rw [eS]; exact C, Oc.refl, Gr.refl, Sm.refl, hok q, fun _ _ => ⟨rfl, rfl⟩, Ct.z⟩
    unfold s_X10_settleReaches
    rw [g7, Option.bind_some, if_neg (by rw [q]; decide)]
    rfl
end
