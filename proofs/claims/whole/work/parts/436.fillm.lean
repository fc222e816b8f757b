/-! the class with a thing; its moves filled -/
def CC (h : aH) (S : Nat → Nat → Int32) (V : Nat → Nat → Int32) (Z : Nat → Nat → Int64) (D Ln : Nat → Nat) (b : Nat) (A : Nat → Nat → Int32) (N : Nat → Int64) (m F : Nat → Nat) : Prop :=
  CW h S V Z D Ln b ∧ isM h 3 A N F ∧ okW A m F ∧ okC A m F ∧ S 56 3 = jI (F 12 / 32 + 1)
theorem CC.to {h h' : aH} {S S' : Nat → Nat → Int32} {V V' : Nat → Nat → Int32} {Z Z' : Nat → Nat → Int64} {D D' Ln Ln' : Nat → Nat} {b : Nat} {A : Nat → Nat → Int32} {N : Nat → Int64} {m F : Nat → Nat} (C : CC h S V Z D Ln b A N m F) (X : CW h' S' V' Z' D' Ln' b) (O : Oc D h h') (hs : S' 56 3 = S 56 3) : CC h' S' V' Z' D' Ln' b A N m F :=
  ⟨X, C.2.1.oc C.1 O (Or.inl rfl), C.2.2.1, C.2.2.2.1, hs.trans C.2.2.2.2⟩
/-- what was made is covered by what the rows grew -/
def Ct (Ln Ln' : Nat → Nat) (n y : Nat) : Prop := n + sumL Ln ≤ sumL Ln' ∧ y + 2 * sumL Ln ≤ 2 * sumL Ln'
theorem Ct.z {Ln : Nat → Nat} : Ct Ln Ln 0 0 := ⟨by omega, by omega⟩
theorem Ct.trans {L1 L2 L3 : Nat → Nat} {n y n' y' : Nat} (a : Ct L1 L2 n y) (c : Ct L2 L3 n' y') : Ct L1 L3 (n + n') (y + y') := by
  unfold Ct at *
  omega
theorem Ct.of {Ln Ln' : Nat → Nat} {i n y : Nat} (hi : dyC i = true) (h : ∀ j, j ≠ i → Ln' j = Ln j) (h1 : n + Ln i ≤ Ln' i) (h2 : y + 2 * Ln i ≤ 2 * Ln' i) : Ct Ln Ln' n y := by
  have e : Ln' = updN Ln i (Ln' i) := by
    funext j
    by_cases q : j = i
    · rw [q, updN_eq]
    · rw [updN_ne q]; exact h j q
  have hs := sumL_up (Ln := Ln) (x := Ln' i) hi
  rw [← e] at hs
  unfold Ct
  omega
theorem ck_of {c s mc ms : Nat} {r : aR} {h : aH} (h1 : c ≤ mc) (h2 : s ≤ ms) : ck c s (some (r, h, mc, ms)) = some (r, h, mc, ms) := by
  unfold ck
  simp only
  rw [if_pos ⟨h1, h2⟩]
/-- the leads, and what a push may lead to, as bits -/
def okMv (V : Nat → Nat → Int32) (A : Nat → Nat → Int32) (m F : Nat → Nat) : Prop :=
  (∀ c p w, c < F 12 → p < F 13 → w < F 14 → V 58 ((c * F 13 + p) * F 14 + w) = ldV A m F c p w) ∧
  ∀ c p, c < F 12 → p < F 13 → ∀ e, e < 32 * (F 12 / 32 + 1) → (bit (V 59) ((c * F 13 + p) * (F 12 / 32 + 1)) e = true ↔ ∃ x, x < F 14 ∧ e = markC (ldV A m F c p x) (F 12))
def lenMv (Ln F : Nat → Nat) : Prop := F 12 * F 13 * F 14 ≤ Ln 58 ∧ F 12 * F 13 * (F 12 / 32 + 1) ≤ Ln 59
theorem isLd.mark {x : Int32} {C : Nat} (h : isLd x C) (hC : C < 2147483648) : markC x C ≤ C := by
  unfold markC
  rcases h with rfl | ⟨d, rfl, hd⟩
  · rw [if_neg (by decide)]
    exact Nat.le_refl _
  · rw [if_pos (i32_nlt.mp (jI_neg (by omega))), jI_cl (by omega)]
    omega
theorem filF_bit {R : Nat → Int32} {n r wd e : Nat} (hr : r * wd + wd ≤ n) (he : e < 32 * wd) : bit (filF R 0 n 0) (r * wd) e = false := by
  unfold bit filF
  have : e / 32 < wd := by omega
  rw [if_pos ⟨Nat.zero_le _, by omega⟩]
  simp
theorem size3 {C P K : Nat} (hC : C ≤ 400) (hP : P ≤ 9) (X : Nat) (hK : K ≤ X) : C * P * K ≤ 3600 * X := Nat.mul_le_mul (show C * P ≤ 400 * 9 from Nat.mul_le_mul hC hP) hK
section
variable {h : aH} {S : Nat → Nat → Int32} {V : Nat → Nat → Int32} {Z : Nat → Nat → Int64} {D Ln : Nat → Nat} {b : Nat} {A : Nat → Nat → Int32} {N : Nat → Int64} {m F : Nat → Nat}
theorem CC.fill (C : CC h S V Z D Ln b A N m F) (hfl : S 56 2 = 0 ∨ S 56 2 = 1) (hok : S 56 2 = 1 → okMv V A m F ∧ lenMv Ln F) :
    ∃ h' V' D' Ln' n y, s_X3_fill 56 h = some (.inl none, h', n, y) ∧ CC h' (upd2 S 56 (upd (S 56) 2 1)) V' Z D' Ln' b A N m F ∧ Oc D h h' ∧ Gr h D D' ∧ Sm [57, 58, 59] V V' ∧ okMv V' A m F ∧ lenMv Ln' F ∧ (∀ j, j ≠ 58 → j ≠ 59 → Ln' j = Ln j ∧ D' j = D j) ∧ Ct Ln Ln' n y := by
  obtain ⟨X, HM, K, hC, hw⟩ := id C
  have h400 := hC.2.2.2.2.1
  have h9 := hC.2.2.2.2.2.1
  have h27 := hC.2.2.2.2.2.2.1
  have pos := hC.pos
  have ob := X.1 56 rfl
  have g2 : gI h (.ref 56) 3 2 = some (S 56 2) := gI_of (ltE (by decide)) ob rfl
  rcases hfl with q | q
  · obtain ⟨S1, hS1⟩ : ∃ S1, S1 = upd2 S 56 (upd (S 56) 2 1) := ⟨_, rfl⟩
    have r1 := X.obj (a := 56) (g := upd (S 56) 2 1) rfl
    rw [← hS1] at r1 ⊢
    have w1 : S1 56 3 = jI (F 12 / 32 + 1) := by rw [hS1, upd2_eq, upd_ne (by decide)]; exact hw
    obtain ⟨h1, e1, X1, O1⟩ : ∃ h1, pZ h (.ref 56) 3 2 1 = some h1 ∧ CW h1 S1 V Z D Ln b ∧ Oc D h h1 := by
      refine ⟨_, ?_, r1.1, r1.2⟩
      rw [pZ_of (ltE (by decide)) ob (show 2 < 6 by decide) (Or.inr rfl), hS1]
      rfl
    have HM1 := HM.oc X O1 (Or.inl rfl)
    have ob1 := X1.1 56 rfl
    have o10 : gO h1 (.ref 56) 3 0 = some 3 := gO_of (ltE (by decide)) ob1 rfl
    have o14 : gO h1 (.ref 56) 3 4 = some (D 58) := gO_of (ltE (by decide)) ob1 rfl
    have f12 : gI h1 (.ref 3) 2 12 = some (jI (F 12)) := gI_of (ltE (by decide)) HM1.2.1 rfl
    have f13 : gI h1 (.ref 3) 2 13 = some (jI (F 13)) := gI_of (ltE (by decide)) HM1.2.1 rfl
    have f14 : gI h1 (.ref 3) 2 14 = some (jI (F 14)) := gI_of (ltE (by decide)) HM1.2.1 rfl
    have eo : ∀ {i o : Nat}, (i = 58 ∨ i = 59) → o = 56 → ∀ (D : Nat → Nat) (x a : Nat), obC a = true → a ≠ o → oF S1 (updN D i x) a = oF S1 D a := by
      intro i o hi ho D x a ha hne
      have ha := of_decide_eq_true ha
      rcases ha with rfl | rfl | rfl | rfl | rfl | rfl | rfl | rfl <;> first | exact absurd ho.symm hne | (rcases hi with rfl | rfl <;> rfl)
    have n1 : F 12 * F 13 * F 14 ≤ mxD 58 := size3 h400 h9 27 h27
    obtain ⟨h2, na, ya, x2, L2, V2, h3, e2, e3, X3, O3, G3, len3, oth3, -, ct1, ct2, big3⟩ := X1.grow (i := 58) rfl (o := 56) (kf := 4) rfl rfl (show 4 < 6 by decide) (fun x => rfl) (eo (Or.inl rfl) rfl D) n1
    have HM3 := HM1.oc X1 O3 (Or.inl rfl)
    have ob3 := X3.1 56 rfl
    have o35 : gO h3 (.ref 56) 3 5 = some (D 59) := gO_of (ltE (by decide)) ob3 rfl
    have o33 : gI h3 (.ref 56) 3 3 = some (jI (F 12 / 32 + 1)) := w1 ▸ gI_of (ltE (by decide)) ob3 rfl
    have n2 : F 12 * F 13 * (F 12 / 32 + 1) ≤ mxD 59 := size3 h400 h9 13 (by omega)
    obtain ⟨h4, nb, yb, x4, L4, V4, h5, e4, e5, X5, O5, G5, len5, oth5, -, ct3, ct4, big5⟩ := X3.grow (i := 59) rfl (o := 56) (kf := 5) rfl rfl (show 5 < 6 by decide) (fun x => rfl) (eo (Or.inr rfl) rfl _) n2
    obtain ⟨D5, hD5⟩ : ∃ D5, D5 = updN (updN D 58 x2) 59 x4 := ⟨_, rfl⟩
    rw [← hD5] at X5 G5
    have d58 : D5 58 = x2 := by rw [hD5, updN_ne (by decide), updN_eq]
    have d59 : D5 59 = x4 := by rw [hD5, updN_eq]
    have p1 : 0 < F 12 * F 13 * F 14 := Nat.mul_pos (Nat.mul_pos pos.1 pos.2.1) pos.2.2.2.1
    have p2 : 0 < F 12 * F 13 * (F 12 / 32 + 1) := Nat.mul_pos (Nat.mul_pos pos.1 pos.2.1) (Nat.succ_pos _)
    have HM5 := HM3.oc X3 O5 (Or.inl rfl)
    have ob5 := X5.1 56 rfl
    have o55 : gO h5 (.ref 56) 3 5 = some (D5 59) := gO_of (ltE (by decide)) ob5 rfl
    have o53 : gI h5 (.ref 56) 3 3 = some (jI (F 12 / 32 + 1)) := w1 ▸ gI_of (ltE (by decide)) ob5 rfl
    have hL59 := X5.lnD (i := 59) rfl
    have hL58 := X5.lnD (i := 58) rfl
    have e6 := fillR_at (x := 0) (i := 0) (b := F 12 * F 13 * (F 12 / 32 + 1)) (X5.dlt (i := 59) rfl) (by omega) (Nat.zero_le _) len5 (by omega) (X5.2.2.2.1 59 rfl)
    have r6 := X5.rowD (a := 59) (g := filF (V4 59) 0 (F 12 * F 13 * (F 12 / 32 + 1)) 0) rfl
    obtain ⟨h6, hh6⟩ : ∃ h6, h6 = h5.set (D5 59) (.inl (.int, L4 59, .inl (filF (V4 59) 0 (F 12 * F 13 * (F 12 / 32 + 1)) 0))) := ⟨_, rfl⟩
    rw [← hh6] at e6 r6
    have X6 := r6.1
    have HM6 := HM5.oc X5 r6.2 (Or.inl rfl)
    have ob6 := X6.1 56 rfl
    have ob6' : h6[56]? = some (.inr (3, [.ref 3, .ref 57, .int (S1 56 2), .int (jI (F 12 / 32 + 1)), .ref (D5 58), .ref (D5 59)])) := by
      rw [← w1]
      exact ob6
    have ne89 : D5 58 ≠ D5 59 := fun z => absurd (X5.2.2.2.2.2.1 58 59 rfl rfl z) (by decide)
    have len58 : F 12 * F 13 * F 14 ≤ L4 58 := by rw [(oth5 58 (by decide)).1]; exact len3
    have ok : fOK A m F (F 12 / 32 + 1) (D5 58) (D5 59) (L4 58) (L4 59) := ⟨K.1, K.2.1, by rw [d58]; exact big3 p1, by rw [d59]; exact big5 p2, X5.dlt rfl, X5.dlt rfl, ne89, by omega, by omega, h400, h9, h27, len58, len5, by omega, fun c p w _ _ _ => (ldV_is K hC c p w).mark (by omega)⟩
    have fh : fH A N F (S1 56 2) (F 12 / 32 + 1) (D5 58) (D5 59) (L4 58) (L4 59) h6 (upd2 V4 59 (filF (V4 59) 0 (F 12 * F 13 * (F 12 / 32 + 1)) 0) 57) (upd2 V4 59 (filF (V4 59) 0 (F 12 * F 13 * (F 12 / 32 + 1)) 0) 58) (upd2 V4 59 (filF (V4 59) 0 (F 12 * F 13 * (F 12 / 32 + 1)) 0) 59) := ⟨HM6, ob6', X6.2.1 57 rfl, X6.2.2.2.1 58 rfl, X6.2.2.2.1 59 rfl⟩
    obtain ⟨v', L', R', i1, i2, -, i4⟩ := fill83_go ok (F 14) 0 FU h6 _ _ _ (by omega) (by unfold FU; omega) fh
    have r7 := X6.row (a := 57) (g := v') rfl
    have r8 := r7.1.rowD (a := 58) (g := L') rfl
    have r9 := r8.1.rowD (a := 59) (g := R') rfl
    have Gr1 : Gr h D (updN D 58 x2) := fun i hi => by
      rcases G3 i hi with z | z
      · exact Or.inl z
      · exact Or.inr (Nat.le_trans O1.1 z)
    have O15 : Oc D h h5 := (O1.trans O3).trans2 Gr1 O5
    have Gr2 : Gr h D D5 := Gr1.trans (Nat.le_trans O1.1 O3.1) G5
    have O19 : Oc D h (f3 (D5 58) (D5 59) (L4 58) (L4 59) h6 v' L' R') := O15.trans2 Gr2 (r6.2.trans ((r7.2.trans r8.2).trans r9.2))
    have sm0 : Sm [57, 58, 59] V V4 := fun k hk => by
      have k1 : k ≠ 58 := fun z => hk (by rw [z]; decide)
      have k2 : k ≠ 59 := fun z => hk (by rw [z]; decide)
      rw [(oth5 k k2).2, (oth3 k k1).2]
    have sm9 : Sm [57, 58, 59] V (upd2 (upd2 (upd2 (upd2 V4 59 (filF (V4 59) 0 (F 12 * F 13 * (F 12 / 32 + 1)) 0)) 57 v') 58 L') 59 R') := (((sm0.upd (by decide)).upd (by decide)).upd (by decide)).upd (by decide)
    refine ⟨_, _, D5, L4, 0 + na + nb, 0 + ya + yb, ?_, C.to r9.1 O19 (by rw [w1, hw]), O19, Gr2, sm9, ⟨?_, ?_⟩, ⟨len58, len5⟩, ?_, ?_⟩
    · have e6' : s_J7_fill_fda19 (D5 59) 0 (jI (F 12 * F 13 * (F 12 / 32 + 1))) 0 h5 = some (.inl none, h6) := e6
      have i1' : s_X3_fill_83 FU 56 0 h6 = _ := i1
      have e4' : s_X11_longEnough (D 59) (jI (F 12 * F 13 * (F 12 / 32 + 1))) h3 = _ := e4
      unfold s_X3_fill
      rw [g2, Option.bind_some, if_pos q, e1]
      simp only [Option.bind_some, o10, f12, f13, f14, o14, jI_mul, e2, dR, e3, o35, o33, e4', e5, o55, o53, e6', cN]
      rw [i1']
      simp only [wC]
      rw [ck_of (Nat.le_refl _) (Nat.le_refl _), ck_of (by omega) (by omega)]
      rfl
    · intro c p w hc hp hw2
      rw [upd2_ne (by decide), upd2_eq]
      exact i2 c p w hc hp (Nat.zero_le _) hw2
    · intro c p hc hp e he
      rw [upd2_eq, i4 _ e he, upd2_eq]
      have hrow : c * F 13 + p + 1 ≤ F 12 * F 13 := by
        have : (c + 1) * F 13 ≤ F 12 * F 13 := Nat.mul_le_mul_right _ (by omega)
        rw [Nat.add_mul] at this
        omega
      have hz : bit (filF (V4 59) 0 (F 12 * F 13 * (F 12 / 32 + 1)) 0) ((c * F 13 + p) * (F 12 / 32 + 1)) e = false := filF_bit (by
        have := Nat.mul_le_mul_right (F 12 / 32 + 1) hrow
        rw [Nat.add_mul, Nat.one_mul] at this
        exact this) he
      rw [hz]
      constructor
      · rintro (z | ⟨c2, p2, x, h1, h2, _, h3, h4, h5⟩)
        · cases z
        · have := idx_inj (W := 1) (w := 0) (w2 := 0) hp h2 (by decide) (by decide) (show (c * F 13 + p) * 1 + 0 = (c2 * F 13 + p2) * 1 + 0 by omega)
          rw [this.1, this.2.1]
          exact ⟨x, h3, h5⟩
      · rintro ⟨x, h3, h5⟩
        exact Or.inr ⟨c, p, x, hc, hp, Nat.zero_le _, h3, rfl, h5⟩
    · intro j j1 j2
      rw [(oth5 j j2).1, (oth3 j j1).1, hD5, updN_ne j2, updN_ne j1]
      exact ⟨rfl, rfl⟩
    · have c1 : Ct Ln L2 na ya := Ct.of (i := 58) rfl (fun j hj => (oth3 j hj).1) ct1 ct2
      have c2 : Ct L2 L4 nb yb := Ct.of (i := 59) rfl (fun j hj => (oth5 j hj).1) ct3 ct4
      rw [Nat.zero_add, Nat.zero_add]
      exact c1.trans c2
  · refine ⟨h, V, D, Ln, 0, 0, ?_, ?_, Oc.refl, Gr.refl, Sm.refl, (hok q).1, (hok q).2, fun _ _ _ => ⟨rfl, rfl⟩, Ct.z⟩
    · unfold s_X3_fill
      rw [g2, Option.bind_some, if_neg (by rw [q]; decide)]
      rfl
    · have e : upd2 S 56 (upd (S 56) 2 1) = S := by
        funext k
        by_cases z : k = 56
        · rw [z, upd2_eq]
          funext j
          by_cases z2 : j = 2
          · rw [z2, upd_eq, q]
          · rw [upd_ne z2]
        · rw [upd2_ne z]
      rw [e]
      exact C
end
