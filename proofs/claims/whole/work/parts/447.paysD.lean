/-! payments settled as a whole; what is paid, laws -/
theorem updS {S : Nat → Nat → Int32} {o k : Nat} {x y : Int32} : upd2 (upd2 S o (upd (S o) k x)) o (upd (upd2 S o (upd (S o) k x) o) k y) = upd2 S o (upd (S o) k y) := by
  rw [upd2_2, upd2_eq]
  congr 1
  funext j
  by_cases z : j = k
  · rw [z, upd_eq, upd_eq]
  · rw [upd_ne z, upd_ne z, upd_ne z]
theorem updS_self {S : Nat → Nat → Int32} {o k : Nat} : upd2 S o (upd (S o) k (S o k)) = S := by rw [upd_self, upd2_self]
def okPy (S V : Nat → Nat → Int32) (Ln : Nat → Nat) (A : Nat → Nat → Int32) (m F : Nat → Nat) (good : Nat → Bool) (cs : Nat → Nat → Int32) (hz : Nat) : Prop :=
  hz ≤ 21 ∧ S 78 3 + 1 = jI hz ∧ (0 < hz → 21 * F 12 ≤ Ln 79 ∧ 21 * F 12 ≤ Ln 80) ∧ okPc V (F 12) hz 0 (bst (ldV A m F) (F 13) (F 14) good cs)
section
variable {Z : Nat → Nat → Int64} {D Ln : Nat → Nat} {b : Nat} {A : Nat → Nat → Int32} {N : Nat → Int64} {m F : Nat → Nat}
theorem ps49_stop {to hz : Nat} (hto : to ≤ 20) (hz1 : hz ≤ 21) (q : to < hz) {h : aH} : ∀ {f : Nat}, 0 < f → s_X4_settle_49 f 78 (jI to) (jI hz) h = some (.inl none, h)
  | 0, hf => by omega
  | f + 1, _ => by
    show s_X4_settle_49_b (s_X4_settle_49 f) 78 (jI to) (jI hz) h = _
    unfold s_X4_settle_49_b
    rw [if_pos ((jI_lt (by omega) (by omega)).mpr q)]
theorem ps49_go (L : lenMv Ln F) (L2 : 21 * F 12 ≤ Ln 79) (L3 : 21 * F 12 ≤ Ln 80) (L4 : F 12 * F 13 ≤ Ln 64) {cs : Nat → Nat → Int32} {good : Nat → Bool} {to : Nat} (hto : to ≤ 20) :
    ∀ (n hz f : Nat) (h : aH) (S V : Nat → Nat → Int32), hz + n = to + 1 → n < f → CC h S V Z D Ln b A N m F → okMv V A m F → gdC V good → csC V F cs → okPc V (F 12) hz 0 (bst (ldV A m F) (F 13) (F 14) good cs) →
      ∃ h' V' x, s_X4_settle_49 f 78 (jI to) (jI hz) h = some (.inl none, h') ∧ CC h' (upd2 S 78 (upd (S 78) 3 x)) V' Z D Ln b A N m F ∧ Oc D h h' ∧ Sm [79, 80] V V' ∧ okPc V' (F 12) (to + 1) 0 (bst (ldV A m F) (F 13) (F 14) good cs) ∧ (n = 0 → x = S 78 3) ∧ (0 < n → x = jI to)
  | _, _, 0, _, _, _, _, hf, _, _, _, _, _ => by omega
  | 0, hz, f + 1, h, S, V, hk, hf, C, M, hg, hcs, hb => by
    have e : hz = to + 1 := by omega
    subst e
    exact ⟨h, V, S 78 3, ps49_stop hto (by omega) (by omega) (Nat.succ_pos _), by rw [updS_self]; exact C, Oc.refl, Sm.refl, hb, fun _ => rfl, fun z => by omega⟩
  | n + 1, hz, f + 1, h, S, V, hk, hf, C, M, hg, hcs, hb => by
    have h400 := C.2.2.2.1.2.2.2.2.1
    obtain ⟨h1, V1, e1, C1, O1, M1, b1⟩ := ps56_go L L2 L3 L4 (cs := cs) (good := good) (k49 := s_X4_settle_49 f) (to := to) (hz := hz) (by omega) (F 12) 0 FU h V (by omega) (by unfold FU; omega) C M hg hcs hb
    obtain ⟨h', V', x, ih, i1, i2, i3, i4, i5, i6⟩ := ps49_go L L2 L3 L4 (cs := cs) (good := good) hto n (hz + 1) f h1 _ V1 (by omega) (by omega) C1 (M.sm (M1 58 (by decide)) (M1 59 (by decide))) (fun d hd => by rw [M1 62 (by decide)]; exact hg d hd) (fun c p x1 x2 => by rw [M1 64 (by decide)]; exact hcs c p x1 x2) (fun k d hd hkd => b1 k d hd (by omega))
    rw [updS] at i1
    refine ⟨h', V', x, ?_, i1, O1.trans i2, M1.trans i3, i4, fun z => by omega, fun _ => ?_⟩
    · show s_X4_settle_49_b (s_X4_settle_49 f) 78 (jI to) (jI hz) h = _
      unfold s_X4_settle_49_b
      rw [if_neg (fun q => by have := (jI_lt (by omega) (by omega)).mp q; omega)]
      exact e1.trans ih
    · by_cases z : n = 0
      · rw [i5 z, upd2_eq, upd_eq, show hz = to by omega]
      · exact i6 (by omega)
theorem CC.settlePays {S : Nat → Nat → Int32} {h : aH} {V : Nat → Nat → Int32} (C : CC h S V Z D Ln b A N m F) {good : Nat → Bool} {cs : Nat → Nat → Int32} (hgd : gdC V good) (hcs : csC V F cs) (L4 : F 12 * F 13 ≤ Ln 64) (M : okMv V A m F) (L : lenMv Ln F) {hz to : Nat} (hto : to ≤ 20) (P : okPy S V Ln A m F good cs hz) :
    ∃ h' V' D' Ln' n y x hz', s_X4_settle 78 (jI to) h = some (.inl none, h', n, y) ∧ CC h' (upd2 S 78 (upd (S 78) 3 x)) V' Z D' Ln' b A N m F ∧ Oc D h h' ∧ Gr h D D' ∧ Sm [79, 80] V V' ∧ okPy (upd2 S 78 (upd (S 78) 3 x)) V' Ln' A m F good cs hz' ∧ to < hz' ∧ (∀ j, j ≠ 79 → j ≠ 80 → Ln' j = Ln j ∧ D' j = D j) ∧ Ct Ln Ln' n y := by
  obtain ⟨X, HM, K, hC, hw⟩ := id C
  obtain ⟨p1, p2, p3, p4⟩ := P
  have h400 := hC.2.2.2.2.1
  have g4 : gO h (.ref 78) 4 4 = some (D 79) := gO_of (ltE (by decide)) (X.1 78 rfl) rfl
  have g0 : gO h (.ref 78) 4 0 = some 3 := gO_of (ltE (by decide)) (X.1 78 rfl) rfl
  have f12 : gI h (.ref 3) 2 12 = some (jI (F 12)) := gI_of (ltE (by decide)) HM.2.1 rfl
  have n1 : 21 * F 12 ≤ mxD 79 := show 21 * F 12 ≤ 8400 by omega
  obtain ⟨h2, na, ya, x2, L2, V2, h3, e2, e3, X3, O3, G3, len3, oth3, sam3, ct1, ct2, big3⟩ := X.grow (i := 79) rfl (o := 78) (kf := 4) rfl rfl (show 4 < 6 by decide) (fun x => rfl) (oF_grow (by decide) D) n1
  have C3 := C.to X3 O3 rfl
  have g5 : gO h3 (.ref 78) 4 5 = some (D 80) := gO_of (ltE (by decide)) (X3.1 78 rfl) rfl
  have g0' : gO h3 (.ref 78) 4 0 = some 3 := gO_of (ltE (by decide)) (X3.1 78 rfl) rfl
  have f12' : gI h3 (.ref 3) 2 12 = some (jI (F 12)) := gI_of (ltE (by decide)) C3.2.1.2.1 rfl
  have n2 : 21 * F 12 ≤ mxD 80 := show 21 * F 12 ≤ 8400 by omega
  obtain ⟨h4, nb, yb, x4, L5, V5, h5, e4, e5, X5, O5, G5, len5, oth5, sam5, ct3, ct4, big5⟩ := X3.grow (i := 80) rfl (o := 78) (kf := 5) rfl rfl (show 5 < 6 by decide) (fun x => rfl) (oF_grow (by decide) _) n2
  have C5 := C3.to X5 O5 rfl
  obtain ⟨D5, hD5⟩ : ∃ D5, D5 = updN (updN D 79 x2) 80 x4 := ⟨_, rfl⟩
  rw [← hD5] at X5 G5 C5
  have oth : ∀ j, j ≠ 79 → j ≠ 80 → L5 j = Ln j ∧ D5 j = D j := fun j j1 j2 => by
    rw [(oth5 j j2).1, (oth3 j j1).1, hD5, updN_ne j2, updN_ne j1]
    exact ⟨rfl, rfl⟩
  have M5 : Sm [79, 80] V V5 := fun k hk => by
    have k1 : k ≠ 79 := fun z => hk (by rw [z]; decide)
    have k2 : k ≠ 80 := fun z => hk (by rw [z]; decide)
    rw [(oth5 k k2).2, (oth3 k k1).2]
  have len79 : 21 * F 12 ≤ L5 79 := by rw [(oth5 79 (by decide)).1]; exact len3
  have L' : lenMv L5 F := by
    unfold lenMv
    rw [(oth 58 (by decide) (by decide)).1, (oth 59 (by decide) (by decide)).1]
    exact L
  have pc5 : okPc V5 (F 12) hz 0 (bst (ldV A m F) (F 13) (F 14) good cs) := by
    by_cases z : 0 < hz
    · have q1 := (sam3 (p3 z).1).1
      have q2 := (sam5 (by rw [(oth3 80 (by decide)).1]; exact (p3 z).2)).1
      rw [q2, q1]
      exact p4
    · exact fun k d hd hkd => by omega
  have gr : Gr h D D5 := Gr.trans O3.1 G3 G5
  have o5 : Oc D h h5 := O3.trans2 G3 O5
  have c1 : Ct Ln L2 na ya := Ct.of (i := 79) rfl (fun j hj => (oth3 j hj).1) ct1 ct2
  have c2 : Ct L2 L5 nb yb := Ct.of (i := 80) rfl (fun j hj => (oth5 j hj).1) ct3 ct4
  have g3 : gI h5 (.ref 78) 4 3 = some (S 78 3) := gI_of (ltE (by decide)) (X5.1 78 rfl) rfl
  have fin : ∀ h6, s_X4_settle_49 FU 78 (jI to) (jI hz) h5 = some (.inl none, h6) → s_X4_settle 78 (jI to) h = some (.inl none, h6, 0 + na + nb, 0 + ya + yb) := by
    intro h6 e6
    have e21 : (21 : Int32) * jI (F 12) = jI (21 * F 12) := jI_mul 21 (F 12)
    have e4' : s_X11_longEnough (D 80) (jI (21 * F 12)) h3 = _ := e4
    unfold s_X4_settle
    simp only [g4, g0, f12, Option.bind_some, e21, e2, dR, e3, g5, g0', f12', e4', e5, g3, p2]
    rw [e6]
    simp only [wC]
    rw [ck_of (Nat.le_refl _) (Nat.le_refl _), ck_of (by omega) (by omega)]
  by_cases q : to < hz
  · refine ⟨h5, V5, D5, L5, 0 + na + nb, 0 + ya + yb, S 78 3, hz, fin h5 (ps49_stop hto p1 q (by decide)), by rw [updS_self]; exact C5, o5, gr, M5, ?_, q, oth, ?_⟩
    · rw [updS_self]
      exact ⟨p1, p2, fun _ => ⟨len79, len5⟩, pc5⟩
    · rw [Nat.zero_add, Nat.zero_add]
      exact c1.trans c2
  · obtain ⟨h6, V6, x, e6, C6, O6, M6, b6, -, hx⟩ := ps49_go L' len79 len5 (by rw [(oth 64 (by decide) (by decide)).1]; exact L4) (cs := cs) (good := good) hto (to + 1 - hz) hz FU h5 S V5 (by omega) (by unfold FU; omega) C5 (M.sm (M5 58 (by decide)) (M5 59 (by decide))) (fun d hd => by rw [M5 62 (by decide)]; exact hgd d hd) (fun c p x1 x2 => by rw [M5 64 (by decide)]; exact hcs c p x1 x2) pc5
    refine ⟨h6, V6, D5, L5, 0 + na + nb, 0 + ya + yb, x, to + 1, fin h6 e6, C6, o5.trans2 gr O6, gr, M5.trans M6, ?_, by omega, oth, ?_⟩
    · refine ⟨by omega, ?_, fun _ => ⟨len79, len5⟩, b6⟩
      rw [upd2_eq, upd_eq, hx (by omega), jI_inc]
    · rw [Nat.zero_add, Nat.zero_add]
      exact c1.trans c2
theorem paid_at {S : Nat → Nat → Int32} {h : aH} {V : Nat → Nat → Int32} (C : CC h S V Z D Ln b A N m F) {good : Nat → Bool} {cs : Nat → Nat → Int32} {hz to c : Nat} (P : okPy S V Ln A m F good cs hz) (hto : to < hz) (hc : c < F 12) :
    s_X4_paid 78 (jI c) (jI to) h = some (.inl (some (.int (bst (ldV A m F) (F 13) (F 14) good cs to c).1)), h) ∧ s_X4_lawOf 78 (jI c) (jI to) h = some (.inl (some (.int (bst (ldV A m F) (F 13) (F 14) good cs to c).2)), h) := by
  obtain ⟨X, HM, K, hC, hw⟩ := id C
  obtain ⟨p1, p2, p3, p4⟩ := P
  have l := p3 (by omega)
  have hi : to * F 12 + c < 21 * F 12 := by
    have h1 : (to + 1) * F 12 ≤ 21 * F 12 := Nat.mul_le_mul_right _ (by omega)
    rw [Nat.add_mul] at h1
    omega
  have g4 : gO h (.ref 78) 4 4 = some (D 79) := gO_of (ltE (by decide)) (X.1 78 rfl) rfl
  have g5 : gO h (.ref 78) 4 5 = some (D 80) := gO_of (ltE (by decide)) (X.1 78 rfl) rfl
  have g0 : gO h (.ref 78) 4 0 = some 3 := gO_of (ltE (by decide)) (X.1 78 rfl) rfl
  have f12 : gI h (.ref 3) 2 12 = some (jI (F 12)) := gI_of (ltE (by decide)) HM.2.1 rfl
  have l1 := X.ldD (i := 79) (j := to * F 12 + c) rfl (by omega)
  have l2 := X.ldD (i := 80) (j := to * F 12 + c) rfl (by omega)
  have e := p4 to c hc (Or.inl hto)
  constructor
  · unfold s_X4_paid
    simp only [g4, g0, f12, Option.bind_some, jI_mul, jI_add, l1, e.1]
  · unfold s_X4_lawOf
    simp only [g5, g0, f12, Option.bind_some, jI_mul, jI_add, l2, e.2]
end
