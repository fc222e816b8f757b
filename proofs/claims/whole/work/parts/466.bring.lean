/-! lanes brought -/
def lnI (F : Nat → Nat) (lane e : Nat) : Nat := (lane * 31 + e) * F 12
theorem lnI_le {F : Nat → Nat} {lane e lane' e' : Nat} (h : lane * 31 + e + 1 ≤ lane' * 31 + e') : lnI F lane e + F 12 ≤ lnI F lane' e' := by
  unfold lnI
  have := Nat.mul_le_mul_right (F 12) h
  rw [Nat.add_mul, Nat.one_mul] at this
  exact this
theorem okLa.keep {V V' : Nat → Nat → Int32} {A : Nat → Nat → Int32} {m F : Nat → Nat} {good : Nat → Bool} {tp ta tv : Nat → Int32} {by' : Int32} {fl st e : Nat} (H : okLa V A m F good tp ta tv by' fl st e) (h : ∀ c, c < F 12 → V' 97 (st + c) = V 97 (st + c)) : okLa V' A m F good tp ta tv by' fl st e := fun c hc q hq => by
  rw [h c hc]
  exact H c hc q hq
section
variable {S : Nat → Nat → Int32} {Z : Nat → Nat → Int64} {b : Nat} {A : Nat → Nat → Int32} {N : Nat → Int64} {m F : Nat → Nat}
theorem br38_go {D Ln : Nat → Nat} {ta tv tp : Nat → Int32} {by' : Int32} {lane fl tick : Nat} {good : Nat → Bool} (hla : lane < 6) (hti : tick ≤ 30) (hfl : fl ≤ 100) (hok : ∀ j, j < 62 → ta j = -1 ∨ 0 ≤ ta j) (hby : S 92 10 = by') (hL9 : 186 * F 12 ≤ Ln 97) (L : lenMv Ln F) (htq : ∀ e, 1 ≤ e → e ≤ tick → ∃ q, tp e = jI q ∧ q < F 13) : ∀ (n e f : Nat) (h : aH) (V : Nat → Nat → Int32), e + n = tick + 1 → n < f → CC h S V Z D Ln b A N m F → okMv V A m F → okTl V ta tv → gdC V good → (∀ e, 1 ≤ e → e ≤ tick → V 94 e = tp e) → (∀ e', e' < e → okLa V A m F good tp ta tv by' fl (lnI F lane e') e') →
    ∃ h' V', s_X9_bring_38 f 92 (jI lane) (jI fl) (jI tick) (jI e) h = some (.inl none, h') ∧ CC h' S V' Z D Ln b A N m F ∧ Oc D h h' ∧ Sm [93, 97, 98] V V' ∧ (∀ e', e' ≤ tick → okLa V' A m F good tp ta tv by' fl (lnI F lane e') e') ∧ (∀ i, (i < lnI F lane 0 ∨ lnI F lane 31 ≤ i) → V' 97 i = V 97 i) ∧ (∀ j, j ≠ lane → V' 98 j = V 98 j) ∧ (n = 0 → V' 98 lane = V 98 lane) ∧ (0 < n → V' 98 lane = jI tick)
  | _, _, 0, _, _, _, hf, _, _, _, _, _, _ => by omega
  | 0, e, f + 1, h, V, hk, hf, C, M, T, hg, htp, hz => by
    refine ⟨h, V, ?_, C, Oc.refl, Sm.refl, fun e' he' => hz e' (by omega), fun _ _ => rfl, fun _ _ => rfl, fun _ => rfl, fun z => by omega⟩
    show s_X9_bring_38_b (s_X9_bring_38 f) 92 (jI lane) (jI fl) (jI tick) (jI e) h = _
    unfold s_X9_bring_38_b
    rw [if_pos ((jI_lt (by omega) (by omega)).mpr (by omega))]
  | n + 1, e, f + 1, h, V, hk, hf, C, M, T, hg, htp, hz => by
    obtain ⟨X, HM, K, hC, hwd⟩ := id C
    have h400 := hC.2.2.2.2.1
    have hL := X.lnD (i := 97) rfl
    have g0 : gO h (.ref 92) 9 0 = some 3 := gO_of (ltE (by decide)) (X.1 92 rfl) rfl
    have g8 : gO h (.ref 92) 9 8 = some (D 97) := gO_of (ltE (by decide)) (X.1 92 rfl) rfl
    obtain ⟨st, hst⟩ : ∃ st, st = lnI F lane e := ⟨_, rfl⟩
    have stl : st + F 12 ≤ 186 * F 12 := by
      have := lnI_le (F := F) (show lane * 31 + e + 1 ≤ 6 * 31 + 0 by omega)
      rw [hst]
      exact this
    have eso : s_X9_startOf 92 (jI lane) (jI e) h = some (.inl (some (.int (jI st))), h) := by
      unfold s_X9_startOf
      rw [g0, Option.bind_some, C.f12, Option.bind_some, show (31 : Int32) = jI 31 from rfl, jI_mul, jI_add, jI_mul, hst]
      rfl
    have ef := fillR_at (x := 0) (i := st) (b := st + F 12) (X.dlt (i := 97) rfl) (by omega) (by omega) (by omega) (by omega) (X.2.2.2.1 97 rfl)
    have rf := X.rowD (a := 97) (g := filF (V 97) st (st + F 12) 0) rfl
    obtain ⟨h1, hh1⟩ : ∃ h1, h1 = h.set (D 97) (.inl (.int, Ln 97, .inl (filF (V 97) st (st + F 12) 0))) := ⟨_, rfl⟩
    rw [← hh1] at ef rf
    have C1 := C.to rf.1 rf.2 rfl
    obtain ⟨V1, hV1⟩ : ∃ V1, V1 = upd2 V 97 (filF (V 97) st (st + F 12) 0) := ⟨_, rfl⟩
    rw [← hV1] at C1
    have M1 : Sm [93, 97, 98] V V1 := by rw [hV1]; exact Sm.refl.upd (by decide)
    have z1 : ∀ d, d < F 12 → V1 97 (st + d) = 0 := fun d hd => by
      rw [hV1, upd2_eq]
      unfold filF
      rw [if_pos ⟨by omega, by omega⟩]
    have o1 : ∀ i, (i < st ∨ st + F 12 ≤ i) → V1 97 i = V 97 i := fun i hi => by
      rw [hV1, upd2_eq]
      unfold filF
      rw [if_neg (by omega)]
    have hlow : ∀ e', e' < e → lnI F lane e' + F 12 ≤ st := fun e' he' => by rw [hst]; exact lnI_le (by omega)
    have k1 : ∀ e', e' < e → okLa V1 A m F good tp ta tv by' fl (lnI F lane e') e' := fun e' he' => (hz e' he').keep (fun c hc => o1 _ (Or.inl (by have := hlow e' he'; omega)))
    obtain ⟨h2, V2, e2, C2, O2, M2, a2, b2⟩ : ∃ h2 V2, (if jI e = 0 then (kO h1 92 9 (cN (s_X9_beginLane 92 (jI st) (jI fl) h1) fun h82 => s_X9_bring_97 (s_X9_bring_38 f) 92 (jI lane) (jI fl) (jI tick) (jI e) h82)) else (kO h1 92 9 (cN (s_X9_moveLane 92 (jI st) (jI fl) (jI e) h1) fun h94 => s_X9_bring_97 (s_X9_bring_38 f) 92 (jI lane) (jI fl) (jI tick) (jI e) h94))) = s_X9_bring_97 (s_X9_bring_38 f) 92 (jI lane) (jI fl) (jI tick) (jI e) h2 ∧ CC h2 S V2 Z D Ln b A N m F ∧ Oc D h1 h2 ∧ Sm [93, 97] V1 V2 ∧ okLa V2 A m F good tp ta tv by' fl st e ∧ ∀ i, (i < st ∨ st + F 12 ≤ i) → V2 97 i = V1 97 i := by
      by_cases e0 : e = 0
      · obtain ⟨h2, V2, e2, C2, O2, M2, a2, b2⟩ := CC.beginLane (tp := tp) (good := good) hfl hok hby (show st + F 12 ≤ Ln 97 by omega) C1 (T.sm (M1 96 (by decide)) (M1 95 (by decide))) (fun d hd => by rw [M1 62 (by decide)]; exact hg d hd) z1
        refine ⟨h2, V2, ?_, C2, O2, M2, ?_, b2⟩
        · rw [if_pos (by rw [e0]; rfl), kO_of (ltE (by decide)) (C1.1.1 92 rfl), e2]
          rfl
        · rw [e0]
          exact a2
      · obtain ⟨t, rfl⟩ : ∃ t, e = t + 1 := ⟨e - 1, by omega⟩
        have sm1 : st - F 12 = lnI F lane t := by
          rw [hst]
          unfold lnI
          rw [← Nat.add_assoc, Nat.add_mul, Nat.one_mul]
          omega
        have hge := hlow t (by omega)
        obtain ⟨h2, V2, e2, C2, O2, M2, a2, b2⟩ := CC.moveLane (tp := tp) (good := good) (t := t) (st := st) (by omega) hfl hok hby (by omega) (show st + F 12 ≤ Ln 97 by omega) L C1 (M.sm (M1 58 (by decide)) (M1 59 (by decide))) (T.sm (M1 96 (by decide)) (M1 95 (by decide))) (by rw [M1 94 (by decide)]; exact htp (t + 1) (by omega) (by omega)) (htq (t + 1) (by omega) (by omega)) z1 (by rw [sm1]; exact k1 t (by omega))
        refine ⟨h2, V2, ?_, C2, O2, M2, a2, b2⟩
        rw [if_neg (fun z => by have := (jI_inj (k := 0) (by omega) (by omega)).mp z; omega), kO_of (ltE (by decide)) (C1.1.1 92 rfl), e2]
        rfl
    have G9 : gO h2 (.ref 92) 9 9 = some 98 := gO_of (ltE (by decide)) (C2.1.1 92 rfl) rfl
    obtain ⟨h3, e3, X3, O3⟩ := C2.1.st (a := 98) (j := lane) rfl (show lane < 6 from hla) (jI e)
    have C3 := C2.to X3 O3 rfl
    have M3 : Sm [93, 97, 98] V (upd2 V2 98 (upd (V2 98) lane (jI e))) := (M1.trans (M2.mono (by decide))).upd (by decide)
    have b3 : ∀ i, (i < st ∨ st + F 12 ≤ i) → (upd2 V2 98 (upd (V2 98) lane (jI e))) 97 i = V 97 i := fun i hi => by rw [upd2_ne (by decide), b2 i hi, o1 i hi]
    obtain ⟨h', V', ih, i1, i2, i3, i4, i5, i6, i7, i8⟩ := br38_go hla hti hfl hok hby hL9 L htq (good := good) n (e + 1) f h3 _ (by omega) (by omega) C3 (M.sm (M3 58 (by decide)) (M3 59 (by decide))) (T.sm (M3 96 (by decide)) (M3 95 (by decide))) (fun d hd => by rw [M3 62 (by decide)]; exact hg d hd) (fun e' h1 h2 => by rw [M3 94 (by decide)]; exact htp e' h1 h2) (fun e' he' => by
      by_cases u : e' = e
      · rw [u, ← hst]
        exact a2.keep (fun c hc => by rw [upd2_ne (by decide)])
      · exact (hz e' (by omega)).keep (fun c hc => b3 _ (Or.inl (by have := hlow e' (by omega); omega))))
    have lo : lnI F lane 0 ≤ st := by
      rw [hst]
      unfold lnI
      exact Nat.mul_le_mul_right _ (by omega)
    have hi : st + F 12 ≤ lnI F lane 31 := by
      rw [hst]
      exact lnI_le (by omega)
    refine ⟨h', V', ?_, i1, ((rf.2.trans O2).trans O3).trans i2, M3.trans i3, i4, fun i hi' => by rw [i5 i hi', b3 i (by omega)], fun j hj => ?_, fun z => by omega, fun _ => ?_⟩
    · have ef' : s_J7_fill_fda19 (D 97) (jI st) (jI (st + F 12)) 0 h = some (.inl none, h1) := ef
      show s_X9_bring_38_b (s_X9_bring_38 f) 92 (jI lane) (jI fl) (jI tick) (jI e) h = _
      unfold s_X9_bring_38_b
      rw [if_neg (fun q => by have := (jI_lt (by omega) (by omega)).mp q; omega), kO_of (ltE (by decide)) (X.1 92 rfl), eso]
      simp only [cI, g8, g0, C.f12, Option.bind_some, jI_add, ef', cN]
      have e2' := e2
      simp only [cN] at e2'
      rw [e2']
      unfold s_X9_bring_97
      rw [G9, Option.bind_some, e3, Option.bind_some, jI_inc]
      exact ih
    · rw [i6 j hj, upd2_eq, upd_ne hj, M2 98 (by decide), hV1, upd2_ne (by decide)]
    · by_cases u : n = 0
      · rw [i7 u, upd2_eq, upd_eq, show e = tick by omega]
      · exact i8 (by omega)
/-- all lanes of faults -/
def okWl (V : Nat → Nat → Int32) (Ln : Nat → Nat) (A : Nat → Nat → Int32) (m F : Nat → Nat) (good : Nat → Bool) (tp ta tv : Nat → Int32) (tk : Nat) : Prop :=
  ∀ lane, lane < 5 → ∃ r, V 98 lane + 1 = jI r ∧ r ≤ tk + 1 ∧ (0 < r → 186 * F 12 ≤ Ln 97) ∧ ∀ e, e < r → okLa V A m F good tp ta tv 30 lane (lnI F lane e) e
theorem CC.bring {D Ln : Nat → Nat} {ta tv tp : Nat → Int32} {bn : Nat} {lane fl tick tk : Nat} {good : Nat → Bool} (hti : tick ≤ tk) (htk : tk ≤ 30) (hok : ∀ j, j < 62 → ta j = -1 ∨ 0 ≤ ta j) (hla : (lane < 5 ∧ fl = lane ∧ bn = 30 ∧ tick = tk) ∨ (lane = 5 ∧ fl = 0)) {h : aH} {V : Nat → Nat → Int32} (h5 : lane = 5 → V 98 5 = -1) (htq : ∀ e, 1 ≤ e → e ≤ tk → V 94 e = tp e ∧ ∃ q, tp e = jI q ∧ q < F 13) (C : CC h S V Z D Ln b A N m F) (M : okMv V A m F) (L : lenMv Ln F) (T : okTl V ta tv) (hg : gdC V good) (Wl : okWl V Ln A m F good tp ta tv tk) :
    ∃ h' V' D' Ln' n y, s_X9_bring 92 (jI lane) (jI fl) (jI tick) (jI bn) h = some (.inl none, h', n, y) ∧ CC h' (upd2 S 92 (upd (S 92) 10 (jI bn))) V' Z D' Ln' b A N m F ∧ Oc D h h' ∧ Gr h D D' ∧ Sm [93, 97, 98] V V' ∧ 186 * F 12 ≤ Ln' 97 ∧ okLa V' A m F good tp ta tv (jI bn) fl (lnI F lane tick) tick ∧ okWl V' Ln' A m F good tp ta tv tk ∧ (∀ j, j ≠ 97 → Ln' j = Ln j ∧ D' j = D j) ∧ Ct Ln Ln' n y := by
  obtain ⟨X, HM, K, hC, hwd⟩ := id C
  have h400 := hC.2.2.2.2.1
  have hl6 : lane < 6 := by omega
  obtain ⟨S1, hS1⟩ : ∃ S1, S1 = upd2 S 92 (upd (S 92) 10 (jI bn)) := ⟨_, rfl⟩
  have r1 := X.obj (a := 92) (g := upd (S 92) 10 (jI bn)) rfl
  rw [← hS1] at r1 ⊢
  obtain ⟨h1, e1, X1, O1⟩ : ∃ h1, pF h (.ref 92) 9 10 (.int (jI bn)) = some h1 ∧ CW h1 S1 V Z D Ln b ∧ Oc D h h1 := by
    refine ⟨_, ?_, r1.1, r1.2⟩
    rw [pF_of (ltE (by decide)) (X.1 92 rfl) (show 10 < 11 by decide), hS1]
    rfl
  have C1 : CC h1 S1 V Z D Ln b A N m F := C.to X1 O1 (by rw [hS1, upd2_ne (by decide)])
  have g8 : gO h1 (.ref 92) 9 8 = some (D 97) := gO_of (ltE (by decide)) (X1.1 92 rfl) rfl
  have g0 : gO h1 (.ref 92) 9 0 = some 3 := gO_of (ltE (by decide)) (X1.1 92 rfl) rfl
  have n1 : 186 * F 12 ≤ mxD 97 := show 186 * F 12 ≤ 74400 by omega
  obtain ⟨h2, na, ya, x2, L3, V3, h3, e2, e3, X3, O3, G3, len3, oth3, sam3, ct1, ct2, big3⟩ := X1.grow (i := 97) rfl (o := 92) (kf := 8) rfl rfl (show 8 < 11 by decide) (fun x => rfl) (oF_grow (by decide) D) n1
  obtain ⟨D3, hD3⟩ : ∃ D3, D3 = updN D 97 x2 := ⟨_, rfl⟩
  rw [← hD3] at X3 G3
  have C3 := C1.to X3 O3 rfl
  have g9 : gO h3 (.ref 92) 9 9 = some 98 := gO_of (ltE (by decide)) (X3.1 92 rfl) rfl
  have M3 : Sm [93, 97, 98] V V3 := fun k hk => (oth3 k (fun z => hk (by rw [z]; decide))).2
  have v98 : V3 98 = V 98 := (oth3 98 (by decide)).2
  have l98 : ldI .int h3 (.ref 98) (jI lane) = some (V 98 lane) := by
    rw [← v98]
    exact X3.ld (a := 98) rfl (show lane < 6 from hl6)
  have L3' : lenMv L3 F := by
    unfold lenMv
    rw [(oth3 58 (by decide)).1, (oth3 59 (by decide)).1]
    exact L
  obtain ⟨e0, he0, he1, hl0, hz0⟩ : ∃ e0, V 98 lane + 1 = jI e0 ∧ e0 ≤ tick + 1 ∧ (0 < e0 → 186 * F 12 ≤ Ln 97) ∧ ∀ e, e < e0 → okLa V A m F good tp ta tv (jI bn) fl (lnI F lane e) e := by
    rcases hla with ⟨a1, a2, a3, a4⟩ | ⟨a1, a2⟩
    · obtain ⟨r, r1, r2, r3, r4⟩ := Wl lane a1
      refine ⟨r, r1, by omega, r3, fun e he => ?_⟩
      rw [a2, a3]
      exact r4 e he
    · refine ⟨0, ?_, by omega, fun z => by omega, fun e he => by omega⟩
      have := h5 a1
      rw [a1, this]
      rfl
  have hz3 : ∀ e, e < e0 → okLa V3 A m F good tp ta tv (jI bn) fl (lnI F lane e) e := fun e he => by
    have q := (sam3 (hl0 (by omega))).1
    rw [q]
    exact hz0 e he
  obtain ⟨h4, V4, e4, C4, O4, M4, a4, b4, c4, d4, f4⟩ := br38_go (by' := jI bn) (fl := fl) (good := good) (tp := tp) (ta := ta) (tv := tv) hl6 (show tick ≤ 30 by omega) (by omega) hok (by rw [hS1, upd2_eq, upd_eq]) len3 L3' (fun e x1 x2 => (htq e x1 (by omega)).2) (tick + 1 - e0) e0 FU h3 V3 (by omega) (by unfold FU; omega) C3 (M.sm (M3 58 (by decide)) (M3 59 (by decide))) (T.sm (M3 96 (by decide)) (M3 95 (by decide))) (fun d hd => by rw [M3 62 (by decide)]; exact hg d hd) (fun e x1 x2 => by rw [M3 94 (by decide)]; exact (htq e x1 (by omega)).1) hz3
  have Gr1 : Gr h D D3 := fun i hi => by
    rcases G3 i hi with z | z
    · exact Or.inl z
    · exact Or.inr (Nat.le_trans O1.1 z)
  refine ⟨h4, V4, D3, L3, 0 + na, 0 + ya, ?_, C4, (O1.trans O3).trans2 Gr1 O4, Gr1, M3.trans M4, len3, a4 tick (Nat.le_refl _), fun l2 hl2 => ?_, fun j hj => ?_, ?_⟩
  · have e186 : (186 : Int32) * jI (F 12) = jI (186 * F 12) := jI_mul 186 (F 12)
    unfold s_X9_bring
    rw [e1]
    simp only [Option.bind_some, g8, g0, C1.f12, e186, e2, dR, e3, g9, l98, he0]
    rw [e4]
    simp only [wC]
    rw [ck_of (Nat.le_refl _) (Nat.le_refl _)]
  · by_cases u : l2 = lane
    · rcases hla with ⟨q1, q2, q3, q4⟩ | ⟨q1, q2⟩
      · refine ⟨tick + 1, ?_, by omega, fun _ => len3, fun e he => ?_⟩
        · rw [u]
          by_cases z : tick + 1 - e0 = 0
          · rw [d4 z, v98, he0, show e0 = tick + 1 by omega]
          · rw [f4 (by omega), jI_inc]
        · have := a4 e (by omega)
          rw [q3, q2] at this
          rw [u]
          exact this
      · omega
    · obtain ⟨r, r1, r2, r3, r4⟩ := Wl l2 hl2
      refine ⟨r, by rw [c4 l2 u, v98]; exact r1, r2, fun _ => len3, fun e he => (r4 e he).keep (fun c hc => ?_)⟩
      have sm := (sam3 (r3 (by omega))).1
      rw [← sm]
      refine b4 _ ?_
      have w1 := lnI_le (F := F) (show l2 * 31 + e + 1 ≤ l2 * 31 + 31 by omega)
      by_cases v : l2 < lane
      · left
        have : lnI F l2 31 ≤ lnI F lane 0 := by
          unfold lnI
          exact Nat.mul_le_mul_right _ (by omega)
        omega
      · right
        have : lnI F lane 31 ≤ lnI F l2 e := by
          unfold lnI
          exact Nat.mul_le_mul_right _ (by omega)
        omega
  · rw [(oth3 j hj).1, hD3, updN_ne hj]
    exact ⟨rfl, rfl⟩
  · rw [Nat.zero_add, Nat.zero_add]
    exact Ct.of (i := 97) rfl (fun j hj => (oth3 j hj).1) ct1 ct2
end
