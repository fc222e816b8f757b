/-! the class: what is asked first; tables made ready -/
theorem in_or (x : Int32) {n : Nat} (hn : n < 2147483648) : (∃ c, c < n ∧ x = jI c) ∨ (x < 0 ∨ jI n ≤ x) := by
  by_cases q : x < 0
  · exact Or.inr (Or.inl q)
  · have e := jI_of q
    by_cases q2 : x.toNatClampNeg < n
    · exact Or.inl ⟨_, q2, e⟩
    · refine Or.inr (Or.inr ?_)
      have hb : x.toNatClampNeg < 2147483648 := by
        have := Int32.toInt_lt x
        unfold Int32.toNatClampNeg
        omega
      rw [e]
      exact (jI_le hn hb).mpr (by omega)
section
variable {h : aH} {S V : Nat → Nat → Int32} {Z : Nat → Nat → Int64} {D Ln : Nat → Nat} {b : Nat} {N : Nat → Int64} {γ : gSt} {τ : tSt}
theorem KN.g2 (K : KN h S V Z D Ln b γ) : gI h (.ref 0) 11 2 = some 0 := by rw [← K.2.1.1]; exact gI_of (ltE (by decide)) (K.1.1.1 0 rfl) rfl
theorem KT.g2 (K : KT h S V Z D Ln b N γ τ) : gI h (.ref 0) 11 2 = some 1 := by rw [← K.2.1]; exact gI_of (ltE (by decide)) (K.1.1.1 0 rfl) rfl
theorem KT.lim (K : KT h S V Z D Ln b N γ τ) : uF τ 12 ≤ 400 ∧ uF τ 13 ≤ 9 ∧ uF τ 14 ≤ 27 ∧ okm (uM τ) ∧ (0 < uF τ 12 ∧ 0 < uF τ 13 ∧ 0 < uF τ 15 ∧ 0 < uF τ 14 ∧ uF τ 15 ≤ 27) ∧ 0 < uM τ 0 := by
  have C := K.2.2.1
  obtain ⟨-, -, -, -, c5, c6, c7, c8⟩ := C.2.2.2.1
  exact ⟨c5, c6, c7, K.2.2.2.1.okm, C.2.2.2.1.pos, c8⟩
theorem KT.g7 (K : KT h S V Z D Ln b N γ τ) : gO h (.ref 0) 11 7 = some 3 := gO_of (ltE (by decide)) (K.1.1.1 0 rfl) rfl
theorem KT.k0 {β : Type} {y : Option β} (K : KT h S V Z D Ln b N γ τ) : kO h 0 11 y = y := kO_of (ltE (by decide)) (K.1.1.1 0 rfl)
theorem KN.k0 {β : Type} {y : Option β} (K : KN h S V Z D Ln b γ) : kO h 0 11 y = y := kO_of (ltE (by decide)) (K.1.1.1 0 rfl)
theorem KT.mn (K : KT h S V Z D Ln b N γ τ) : gO h (.ref 3) 2 0 = some 4 := K.2.2.1.2.1.mn
theorem KT.ldm (K : KT h S V Z D Ln b N γ τ) {k : Nat} (hk : k < 5) : ldI .int h (.ref 4) (jI k) = some (jI (uM τ k)) := by
  have e := K.2.2.1.2.1.ldmn (s := k) hk
  rw [(K.2.2.2.1.1 k hk).1] at e
  exact e
theorem hasCell_N (K : KN h S V Z D Ln b γ) (x : Int32) : s_X11_hasCell 0 x h = some (.inl (some (.int 0)), h) := by
  unfold s_X11_hasCell
  rw [K.g2, Option.bind_some, if_pos rfl]
  rfl
theorem hasPush_N (K : KN h S V Z D Ln b γ) (x : Int32) : s_X11_hasPush 0 x h = some (.inl (some (.int 0)), h) := by
  unfold s_X11_hasPush
  rw [K.g2, Option.bind_some, if_pos rfl]
  rfl
theorem hasMove_N (K : KN h S V Z D Ln b γ) (x p w : Int32) : s_X11_hasMove 0 x p w h = some (.inl (some (.int 0)), h) := by
  unfold s_X11_hasMove
  rw [K.k0, cI_of (hasCell_N K x), if_pos rfl]
  rfl
theorem hasCell_in (K : KT h S V Z D Ln b N γ τ) {c : Nat} (hc : c < uF τ 12) : s_X11_hasCell 0 (jI c) h = some (.inl (some (.int 1)), h) := by
  have l := K.lim
  unfold s_X11_hasCell
  rw [K.g2, Option.bind_some, if_neg (by decide), if_neg (jI_neg (by omega)), K.g7, Option.bind_some, K.2.2.1.f12, Option.bind_some, if_neg (fun z => by have := (jI_le (by omega) (by omega)).mp z; omega)]
  rfl
theorem hasCell_out (K : KT h S V Z D Ln b N γ τ) {x : Int32} (hx : x < 0 ∨ jI (uF τ 12) ≤ x) : s_X11_hasCell 0 x h = some (.inl (some (.int 0)), h) := by
  unfold s_X11_hasCell
  rw [K.g2, Option.bind_some, if_neg (by decide)]
  by_cases q : x < 0
  · rw [if_pos q]
    rfl
  · rw [if_neg q, K.g7, Option.bind_some, K.2.2.1.f12, Option.bind_some, if_pos (hx.resolve_left q)]
    rfl
theorem hasPush_in (K : KT h S V Z D Ln b N γ τ) {c : Nat} (hc : c < uF τ 13) : s_X11_hasPush 0 (jI c) h = some (.inl (some (.int 1)), h) := by
  have l := K.lim
  unfold s_X11_hasPush
  rw [K.g2, Option.bind_some, if_neg (by decide), if_neg (jI_neg (by omega)), K.g7, Option.bind_some, K.2.2.1.f13, Option.bind_some, if_neg (fun z => by have := (jI_le (by omega) (by omega)).mp z; omega)]
  rfl
theorem hasPush_out (K : KT h S V Z D Ln b N γ τ) {x : Int32} (hx : x < 0 ∨ jI (uF τ 13) ≤ x) : s_X11_hasPush 0 x h = some (.inl (some (.int 0)), h) := by
  unfold s_X11_hasPush
  rw [K.g2, Option.bind_some, if_neg (by decide)]
  by_cases q : x < 0
  · rw [if_pos q]
    rfl
  · rw [if_neg q, K.g7, Option.bind_some, K.2.2.1.f13, Option.bind_some, if_pos (hx.resolve_left q)]
    rfl
theorem hasMove_in (K : KT h S V Z D Ln b N γ τ) {c p w : Nat} (hc : c < uF τ 12) (hp : p < uF τ 13) (hw : w < uF τ 14) : s_X11_hasMove 0 (jI c) (jI p) (jI w) h = some (.inl (some (.int 1)), h) := by
  have l := K.lim
  unfold s_X11_hasMove
  rw [K.k0, cI_of (hasCell_in K hc), if_neg (by decide), K.k0, cI_of (hasPush_in K hp), if_neg (by decide), if_neg (jI_neg (by omega)), K.g7, Option.bind_some, K.2.2.1.f14, Option.bind_some, if_neg (fun z => by have := (jI_le (by omega) (by omega)).mp z; omega)]
  rfl
theorem hasMove_out (K : KT h S V Z D Ln b N γ τ) {x p w : Int32} (hx : (x < 0 ∨ jI (uF τ 12) ≤ x) ∨ (p < 0 ∨ jI (uF τ 13) ≤ p) ∨ (w < 0 ∨ jI (uF τ 14) ≤ w)) : s_X11_hasMove 0 x p w h = some (.inl (some (.int 0)), h) := by
  have l := K.lim
  unfold s_X11_hasMove
  rcases in_or x (show uF τ 12 < 2147483648 by omega) with ⟨c, hc, rfl⟩ | q
  · have nx : ¬ (jI c < 0 ∨ jI (uF τ 12) ≤ jI c) := by
      rintro (z | z)
      · exact jI_neg (by omega) z
      · have := (jI_le (by omega) (by omega)).mp z; omega
    rw [K.k0, cI_of (hasCell_in K hc), if_neg (by decide), K.k0]
    rcases in_or p (show uF τ 13 < 2147483648 by omega) with ⟨c2, hc2, rfl⟩ | q2
    · have np : ¬ (jI c2 < 0 ∨ jI (uF τ 13) ≤ jI c2) := by
        rintro (z | z)
        · exact jI_neg (by omega) z
        · have := (jI_le (by omega) (by omega)).mp z; omega
      have hw := (hx.resolve_left nx).resolve_left np
      rw [cI_of (hasPush_in K hc2), if_neg (by decide)]
      by_cases q3 : w < 0
      · rw [if_pos q3]
        rfl
      · rw [if_neg q3, K.g7, Option.bind_some, K.2.2.1.f14, Option.bind_some, if_pos (hw.resolve_left q3)]
        rfl
    · rw [cI_of (hasPush_out K q2), if_pos rfl]
      rfl
  · rw [K.k0, cI_of (hasCell_out K q), if_pos rfl]
    rfl
theorem refusedN (K : KN h S V Z D Ln b γ) {w : Int32} (hw : w ≠ 4) : ∃ h' S', s_X11_refused 0 w h = some (.inl (some (.int (-1))), h') ∧ KN h' S' V Z D Ln b (qTw γ w) ∧ Oc D h h' := by
  obtain ⟨h1, e1, K1, O1⟩ := K.tw hw
  refine ⟨h1, _, ?_, K1, O1⟩
  unfold s_X11_refused
  rw [e1, Option.bind_some]
theorem refusedT (K : KT h S V Z D Ln b N γ τ) {w : Int32} (hw : w ≠ 4) : ∃ h' S', s_X11_refused 0 w h = some (.inl (some (.int (-1))), h') ∧ KT h' S' V Z D Ln b N (qTw γ w) τ ∧ Oc D h h' := by
  obtain ⟨h1, e1, K1, O1⟩ := K.tw hw
  refine ⟨h1, _, ?_, K1, O1⟩
  unfold s_X11_refused
  rw [e1, Option.bind_some]
theorem Ct.cat0 {L1 L2 : Nat → Nat} {n y : Nat} (a : Ct L1 L2 n y) : Ct L1 L2 (0 + n) (0 + y) := by rw [Nat.zero_add, Nat.zero_add]; exact a
theorem KT.readySafety (K : KT h S V Z D Ln b N γ τ) : ∃ h' S' V' D' Ln' n y, s_X11_readySafety 0 h = some (.inl (some (.ref 69)), h', n, y) ∧ KT h' S' V' Z D' Ln' b N γ τ ∧ okMv V' (uA τ) (uM τ) (uF τ) ∧ lenMv Ln' (uF τ) ∧ okSf S' V' (uA τ) (uM τ) (uF τ) (uG τ) ∧ Oc D h h' ∧ Gr h D D' ∧ Ct Ln Ln' n y := by
  obtain ⟨h1, S1, V1, D1, L1, n, y, e1, K1, mv, ln, O1, G1, ct⟩ := K.fill
  obtain ⟨h2, S2, V2, e2, K2, mv2, sf, O2⟩ := K1.settle mv ln
  have g0 : gO h (.ref 0) 11 11 = some 56 := gO_of (ltE (by decide)) (K.1.1.1 0 rfl) rfl
  have g1 : gO h1 (.ref 0) 11 13 = some 69 := gO_of (ltE (by decide)) (K1.1.1.1 0 rfl) rfl
  have g2 : gO h2 (.ref 0) 11 13 = some 69 := gO_of (ltE (by decide)) (K2.1.1.1 0 rfl) rfl
  refine ⟨h2, S2, V2, D1, L1, 0 + n, 0 + y, ?_, K2, mv2, ln, sf, O1.trans2 G1 O2, G1, ct.cat0⟩
  unfold s_X11_readySafety
  rw [g0, Option.bind_some, kO_of (ltE (by decide)) (K.1.1.1 56 rfl), dN_of e1, g1, Option.bind_some, kO_of (ltE (by decide)) (K1.1.1.1 69 rfl), cN_of e2, g2, Option.bind_some]
  show ck (0 + n) (0 + y) (some (.inl (some (.ref 69)), h2, 0 + n, 0 + y)) = _
  rw [ck_of (Nat.le_refl _) (Nat.le_refl _)]
theorem KT.readyWatcher (K : KT h S V Z D Ln b N γ τ) : ∃ h' S' V' D' Ln' n y, s_X11_readyWatcher 0 h = some (.inl (some (.ref 92)), h', n, y) ∧ KT h' S' V' Z D' Ln' b N γ τ ∧ okMv V' (uA τ) (uM τ) (uF τ) ∧ lenMv Ln' (uF τ) ∧ Oc D h h' ∧ Gr h D D' ∧ Ct Ln Ln' n y := by
  obtain ⟨h1, S1, V1, D1, L1, n, y, e1, K1, mv, ln, O1, G1, ct⟩ := K.fill
  have g0 : gO h (.ref 0) 11 11 = some 56 := gO_of (ltE (by decide)) (K.1.1.1 0 rfl) rfl
  have g1 : gO h1 (.ref 0) 11 16 = some 92 := gO_of (ltE (by decide)) (K1.1.1.1 0 rfl) rfl
  refine ⟨h1, S1, V1, D1, L1, 0 + n, 0 + y, ?_, K1, mv, ln, O1, G1, ct.cat0⟩
  unfold s_X11_readyWatcher
  rw [g0, Option.bind_some, kO_of (ltE (by decide)) (K.1.1.1 56 rfl), dN_of e1, g1, Option.bind_some]
  show ck (0 + n) (0 + y) (some (.inl (some (.ref 92)), h1, 0 + n, 0 + y)) = _
  rw [ck_of (Nat.le_refl _) (Nat.le_refl _)]
theorem KT.readyReaches (K : KT h S V Z D Ln b N γ τ) : ∃ h' S' V' D' Ln' n y, s_X11_readyReaches 0 h = some (.inl (some (.ref 60)), h', n, y) ∧ KT h' S' V' Z D' Ln' b N γ τ ∧ okRc V' (uA τ) (uM τ) (uF τ) (uG τ) (uL τ) ∧ Oc D h h' ∧ Gr h D D' ∧ Ct Ln Ln' n y := by
  obtain ⟨h1, S1, V1, D1, L1, n, y, e1, K1, mv, ln, O1, G1, ct⟩ := K.fill
  obtain ⟨h2, S2, V2, D2, L2, n2, y2, e2, K2, rc, O2, G2, ct2⟩ := K1.reaches mv ln
  have g0 : gO h (.ref 0) 11 11 = some 56 := gO_of (ltE (by decide)) (K.1.1.1 0 rfl) rfl
  have g1 : gO h1 (.ref 0) 11 12 = some 60 := gO_of (ltE (by decide)) (K1.1.1.1 0 rfl) rfl
  have g2 : gO h2 (.ref 0) 11 12 = some 60 := gO_of (ltE (by decide)) (K2.1.1.1 0 rfl) rfl
  refine ⟨h2, S2, V2, D2, L2, 0 + n + n2, 0 + y + y2, ?_, K2, rc, O1.trans2 G1 O2, Gr.trans O1.1 G1 G2, ct.cat0.trans ct2⟩
  unfold s_X11_readyReaches
  rw [g0, Option.bind_some, kO_of (ltE (by decide)) (K.1.1.1 56 rfl), dN_of e1, g1, Option.bind_some, kO_of (ltE (by decide)) (K1.1.1.1 60 rfl), dN_of e2, g2, Option.bind_some]
  show ck (0 + n) (0 + y) (ck (0 + n + n2) (0 + y + y2) (some (.inl (some (.ref 60)), h2, 0 + n + n2, 0 + y + y2))) = _
  rw [ck_of (Nat.le_refl _) (Nat.le_refl _), ck_of (Nat.le_add_right _ _) (Nat.le_add_right _ _)]
theorem KT.readyPayments (K : KT h S V Z D Ln b N γ τ) {to : Nat} (hto : to ≤ 20) : ∃ h' S' V' D' Ln' n y hz, s_X11_readyPayments 0 (jI to) h = some (.inl (some (.ref 78)), h', n, y) ∧ KT h' S' V' Z D' Ln' b N γ τ ∧ okPy S' V' Ln' (uA τ) (uM τ) (uF τ) (uG τ) (uC τ) hz ∧ to < hz ∧ okMv V' (uA τ) (uM τ) (uF τ) ∧ lenMv Ln' (uF τ) ∧ Oc D h h' ∧ Gr h D D' ∧ Ct Ln Ln' n y := by
  obtain ⟨h1, S1, V1, D1, L1, n, y, e1, K1, mv, ln, O1, G1, ct⟩ := K.fill
  obtain ⟨h2, S2, V2, D2, L2, n2, y2, hz, e2, K2, py, lt, mv2, ln2, O2, G2, ct2⟩ := K1.pays mv ln hto
  have g0 : gO h (.ref 0) 11 11 = some 56 := gO_of (ltE (by decide)) (K.1.1.1 0 rfl) rfl
  have g1 : gO h1 (.ref 0) 11 14 = some 78 := gO_of (ltE (by decide)) (K1.1.1.1 0 rfl) rfl
  have g2 : gO h2 (.ref 0) 11 14 = some 78 := gO_of (ltE (by decide)) (K2.1.1.1 0 rfl) rfl
  refine ⟨h2, S2, V2, D2, L2, 0 + n + n2, 0 + y + y2, hz, ?_, K2, py, lt, mv2, ln2, O1.trans2 G1 O2, Gr.trans O1.1 G1 G2, ct.cat0.trans ct2⟩
  unfold s_X11_readyPayments
  rw [g0, Option.bind_some, kO_of (ltE (by decide)) (K.1.1.1 56 rfl), dN_of e1, g1, Option.bind_some, kO_of (ltE (by decide)) (K1.1.1.1 78 rfl), dN_of e2, g2, Option.bind_some]
  show ck (0 + n) (0 + y) (ck (0 + n + n2) (0 + y + y2) (some (.inl (some (.ref 78)), h2, 0 + n + n2, 0 + y + y2))) = _
  rw [ck_of (Nat.le_refl _) (Nat.le_refl _), ck_of (Nat.le_add_right _ _) (Nat.le_add_right _ _)]
end
