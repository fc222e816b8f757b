/-! the class's costs; renew -/
def mS1 (m : Nat → Nat) : Nat → Nat := fun k => if k ≤ 1 then m k else 0
theorem sumV_sp {m : Nat → Nat} {v v' : Nat → Int32} (h : ∀ s, s < m 0 ∨ (3 ≤ s ∧ s < 3 + m 1) → v s = v' s) {l : List pFa} (hl : okL2 m l) : sumV v l = sumV v' l := by
  have d : ∀ s, decl (mS1 m) s ↔ s < m 0 ∨ (3 ≤ s ∧ s < 3 + m 1) := fun s => by
    unfold decl mS1
    simp only [show (0 : Nat) ≤ 1 by decide, show (1 : Nat) ≤ 1 by decide, show ¬ (2 : Nat) ≤ 1 by decide, show ¬ (3 : Nat) ≤ 1 by decide, if_true, if_false]
    omega
  exact sumV_congr (m := mS1 m) (fun s hs => h s ((d s).mp hs)) (fun a ha q => (d _).mpr (hl a ha q))
section
variable {S : Nat → Nat → Int32} {Z : Nat → Nat → Int64} {b : Nat} {A : Nat → Nat → Int32} {N : Nat → Int64} {m F : Nat → Nat}
theorem sc29_go {D Ln : Nat → Nat} {l : List pFa} (hl : okL2 m l) (hln : F 12 * F 13 ≤ Ln 64) {k2 : Nat → Nat → Int32 → aH → aO} {p : Nat} (hp : p < F 13) : ∀ (n c f : Nat) (h : aH) (V : Nat → Nat → Int32), c + n = F 12 → n < f → CC h S V Z D Ln b A N m F → wSum h l → (∀ s, 3 ≤ s → s < 3 + m 1 → V 61 s = sprGo A 0 3 (m 1) (jI p) zV s) →
    ∃ h' V', s_X10_setCosts_29 k2 f 60 43 (jI p) (jI c) h = k2 60 43 (jI (p + 1)) h' ∧ CC h' S V' Z D Ln b A N m F ∧ Oc D h h' ∧ Sm [61, 64] V V' ∧ (∀ d, c ≤ d → d < F 12 → V' 64 (d * F 13 + p) = csV A m l d p) ∧ ∀ i, (∀ d, c ≤ d → d < F 12 → i ≠ d * F 13 + p) → V' 64 i = V 64 i
  | _, _, 0, _, _, _, hf, _, _, _ => by omega
  | 0, c, f + 1, h, V, hk, hf, C, T, hz => by
    have h400 := C.2.2.2.1.2.2.2.2.1
    have g0 : gO h (.ref 60) 10 0 = some 3 := gO_of (ltE (by decide)) (C.1.1 60 rfl) rfl
    refine ⟨h, V, ?_, C, Oc.refl, Sm.refl, fun d h1 h2 => by omega, fun _ _ => rfl⟩
    show s_X10_setCosts_29_b k2 (s_X10_setCosts_29 k2 f) 60 43 (jI p) (jI c) h = _
    unfold s_X10_setCosts_29_b
    rw [g0, Option.bind_some, C.f12, Option.bind_some, if_pos ((jI_le (by omega) (by omega)).mpr (by omega)), jI_inc]
  | n + 1, c, f + 1, h, V, hk, hf, C, T, hz => by
    obtain ⟨X, HM, K, hC, hwd⟩ := id C
    have h400 := hC.2.2.2.2.1
    have hm := K.1.1
    have g0 : gO h (.ref 60) 10 0 = some 3 := gO_of (ltE (by decide)) (X.1 60 rfl) rfl
    have g2 : gO h (.ref 60) 10 2 = some 61 := gO_of (ltE (by decide)) (X.1 60 rfl) rfl
    obtain ⟨h1, e1, C1, O1⟩ := C.spr (a := 61) rfl rfl (k := 0) (by decide) (jI c)
    have e1' : s_X2_spread 3 0 (jI c) 0 61 h = some (.inl none, h1) := e1
    have G2 : gO h1 (.ref 60) 10 2 = some 61 := gO_of (ltE (by decide)) (C1.1.1 60 rfl) rfl
    have G0 : gO h1 (.ref 60) 10 0 = some 3 := gO_of (ltE (by decide)) (C1.1.1 60 rfl) rfl
    have G6 : gO h1 (.ref 60) 10 6 = some (D 64) := gO_of (ltE (by decide)) (C1.1.1 60 rfl) rfl
    have T1 := T.oc X O1
    obtain ⟨r1, r2, r3⟩ := C1.r9 (a := 61) rfl rfl
    obtain ⟨x, ex, eh, ek⟩ := T1.sum r2 r1
    have es : sumV (upd2 V 61 (sprGo A 0 (baseN 0) (m 0) (jI c) (V 61)) 61) l = sumV (sprGo A 0 3 (m 1) (jI p) (sprGo A 0 0 (m 0) (jI c) zV)) l := by
      rw [upd2_eq]
      refine sumV_sp (fun s hs => ?_) hl
      show sprGo A 0 0 (m 0) (jI c) (V 61) s = _
      obtain ⟨k0, -⟩ := hm
      by_cases q1 : 3 ≤ s ∧ s < 3 + m 1
      · rw [spr_out A 0 0 (m 0) _ _ s (by omega), hz s q1.1 q1.2]
        exact spr_in A 0 3 (m 1) _ _ _ s q1.1 q1.2
      · rw [spr_out A 0 3 (m 1) _ _ s (by omega)]
        exact spr_in A 0 0 (m 0) _ _ _ s (Nat.zero_le _) (by omega)
    rw [es] at eh
    have hi : c * F 13 + p < F 12 * F 13 := by
      have : (c + 1) * F 13 ≤ F 12 * F 13 := Nat.mul_le_mul_right _ (by omega)
      rw [Nat.add_mul] at this
      omega
    obtain ⟨h2, e2, X2, O2⟩ := C1.1.stD (i := 64) (j := c * F 13 + p) rfl (by omega) (csV A m l c p)
    have C2 := C1.to X2 O2 rfl
    obtain ⟨h', V', ih, i1, i2, i3, i4, i5⟩ := sc29_go hl hln (k2 := k2) hp n (c + 1) f h2 _ (by omega) (by omega) C2 (T1.oc C1.1 O2) (fun s h1 h2 => by
      rw [upd2_ne (by decide), upd2_eq]
      show sprGo A 0 0 (m 0) (jI c) (V 61) s = _
      rw [spr_out A 0 0 (m 0) _ _ s (by have := hm.1; omega)]
      exact hz s h1 h2)
    refine ⟨h', V', ?_, i1, (O1.trans O2).trans i2, ((Sm.refl.upd (by decide)).upd (by decide)).trans i3, fun d d1 d2 => ?_, fun i hi => ?_⟩
    · show s_X10_setCosts_29_b k2 (s_X10_setCosts_29 k2 f) 60 43 (jI p) (jI c) h = _
      unfold s_X10_setCosts_29_b
      rw [g0, Option.bind_some, C.f12, Option.bind_some, if_neg (fun q => by have := (jI_le (by omega) (by omega)).mp q; omega), Option.bind_some, g2, Option.bind_some, C.kO3, e1']
      simp only [cN, ex, Option.bind_some, G2]
      rw [ek, eh]
      simp only [cI, G6, G0, C1.f13, Option.bind_some, jI_mul, jI_add, jI_inc]
      have e2' : stI h1 (.ref (D 64)) (jI (c * F 13 + p)) (jmax 0 (jmin 1000 (sumV (sprGo A 0 3 (m 1) (jI p) (sprGo A 0 0 (m 0) (jI c) zV)) l))) = some h2 := e2
      rw [e2', Option.bind_some]
      exact ih
    · by_cases q : d = c
      · rw [q, i5 _ (fun d' d1 d2 z => by have := (rc_inj hp hp z).1; omega), upd2_eq, upd_eq]
      · exact i4 d (by omega) d2
    · rw [i5 i (fun d d1 d2 => hi d (by omega) d2), upd2_eq, upd_ne (hi c (Nat.le_refl _) (by omega)), upd2_ne (by decide)]
theorem sc2_go {D Ln : Nat → Nat} {l : List pFa} (hl : okL2 m l) (hln : F 12 * F 13 ≤ Ln 64) : ∀ (n p f : Nat) (h : aH) (V : Nat → Nat → Int32), p + n = F 13 → n < f → CC h S V Z D Ln b A N m F → wSum h l → (∀ d q, d < F 12 → q < p → V 64 (d * F 13 + q) = csV A m l d q) →
    ∃ h' V', s_X10_setCosts_2 f 60 43 (jI p) h = some (.inl none, h') ∧ CC h' S V' Z D Ln b A N m F ∧ Oc D h h' ∧ Sm [61, 64] V V' ∧ csC V' F (csV A m l)
  | _, _, 0, _, _, _, hf, _, _, _ => by omega
  | 0, p, f + 1, h, V, hk, hf, C, T, hz => by
    have h9 := C.2.2.2.1.2.2.2.2.2.1
    have g0 : gO h (.ref 60) 10 0 = some 3 := gO_of (ltE (by decide)) (C.1.1 60 rfl) rfl
    refine ⟨h, V, ?_, C, Oc.refl, Sm.refl, fun d q hd hq => hz d q hd (by omega)⟩
    show s_X10_setCosts_2_b (s_X10_setCosts_2 f) 60 43 (jI p) h = _
    unfold s_X10_setCosts_2_b
    rw [g0, Option.bind_some, C.f13, Option.bind_some, if_pos ((jI_le (by omega) (by omega)).mpr (by omega))]
  | n + 1, p, f + 1, h, V, hk, hf, C, T, hz => by
    obtain ⟨X, HM, K, hC, hwd⟩ := id C
    have h9 := hC.2.2.2.2.2.1
    have h400 := hC.2.2.2.2.1
    have g0 : gO h (.ref 60) 10 0 = some 3 := gO_of (ltE (by decide)) (X.1 60 rfl) rfl
    have g2 : gO h (.ref 60) 10 2 = some 61 := gO_of (ltE (by decide)) (X.1 60 rfl) rfl
    obtain ⟨h1, e1, C1, O1⟩ := C.spr (a := 61) rfl rfl (k := 1) (by decide) (jI p)
    have e1' : s_X2_spread 3 1 (jI p) 0 61 h = some (.inl none, h1) := e1
    obtain ⟨h2, V2, e2, C2, O2, M2, a2, b2⟩ := sc29_go hl hln (k2 := s_X10_setCosts_2 f) (show p < F 13 by omega) (F 12) 0 FU h1 _ (by omega) (by unfold FU; omega) C1 (T.oc X O1) (fun s h1 h2 => by
      rw [upd2_eq]
      exact spr_in A 0 3 (m 1) _ _ _ s h1 h2)
    obtain ⟨h', V', ih, i1, i2, i3, i4⟩ := sc2_go hl hln n (p + 1) f h2 V2 (by omega) (by omega) C2 ((T.oc X O1).oc C1.1 O2) (fun d q hd hq => by
      by_cases z : q = p
      · rw [z]; exact a2 d (Nat.zero_le _) hd
      · rw [b2 _ (fun d' _ d2 z2 => z (rc_inj (by omega) (by omega) z2).2), upd2_ne (by decide)]
        exact hz d q hd (by omega))
    refine ⟨h', V', ?_, i1, (O1.trans O2).trans i2, ((Sm.refl.upd (by decide)).trans M2).trans i3, i4⟩
    show s_X10_setCosts_2_b (s_X10_setCosts_2 f) 60 43 (jI p) h = _
    unfold s_X10_setCosts_2_b
    rw [g0, Option.bind_some, C.f13, Option.bind_some, if_neg (fun q => by have := (jI_le (by omega) (by omega)).mp q; omega), Option.bind_some, g2, Option.bind_some, C.kO3, e1']
    simp only [cN]
    have e2' : s_X10_setCosts_29 (s_X10_setCosts_2 f) FU 60 43 (jI p) 0 h1 = _ := e2
    rw [e2']
    exact ih
theorem CC.setCosts {D Ln : Nat → Nat} {l : List pFa} (hl : okL2 m l) (hln : F 12 * F 13 ≤ Ln 64) {h : aH} {V : Nat → Nat → Int32} (C : CC h S V Z D Ln b A N m F) (T : wSum h l) :
    ∃ h' V', s_X10_setCosts 60 43 h = some (.inl none, h') ∧ CC h' S V' Z D Ln b A N m F ∧ Oc D h h' ∧ Sm [61, 64] V V' ∧ csC V' F (csV A m l) := by
  have h9 := C.2.2.2.1.2.2.2.2.2.1
  exact sc2_go hl hln (F 13) 0 FU h V (by omega) (by unfold FU; omega) C T (fun d q hd hq => by omega)
theorem rn52_go {D Ln : Nat → Nat} : ∀ (n c f : Nat) (h : aH) (V : Nat → Nat → Int32), c + n = F 12 → n < f → CC h S V Z D Ln b A N m F → (∀ d, d < 416 → bit (V 62) 0 d = decide (d < c)) →
    ∃ h' V', s_X10_renew_52 f 60 (jI c) h = some (.inl none, h') ∧ CC h' (upd2 S 60 (upd (upd (S 60) 3 (jI (F 12))) 7 0)) V' Z D Ln b A N m F ∧ Oc D h h' ∧ Sm [62] V V' ∧ ∀ d, d < 416 → bit (V' 62) 0 d = decide (d < F 12)
  | _, _, 0, _, _, _, hf, _, _ => by omega
  | 0, c, f + 1, h, V, hk, hf, C, hz => by
    have h400 := C.2.2.2.1.2.2.2.2.1
    have g0 : gO h (.ref 60) 10 0 = some 3 := gO_of (ltE (by decide)) (C.1.1 60 rfl) rfl
    obtain ⟨S2, hS2⟩ : ∃ S2, S2 = upd2 S 60 (upd (S 60) 3 (jI (F 12))) := ⟨_, rfl⟩
    have r2 := C.1.obj (a := 60) (g := upd (S 60) 3 (jI (F 12))) rfl
    rw [← hS2] at r2
    obtain ⟨h2, hh2⟩ : ∃ h2, h2 = h.set 60 (.inr (oF S2 D 60)) := ⟨_, rfl⟩
    rw [← hh2] at r2
    have e2 : pF h (.ref 60) 10 3 (.int (jI (F 12))) = some h2 := by
      rw [pF_of (ltE (by decide)) (C.1.1 60 rfl) (show 3 < 12 by decide), hh2, hS2]
      rfl
    have C2 : CC h2 S2 V Z D Ln b A N m F := C.to r2.1 r2.2 (by rw [hS2, upd2_ne (by decide)])
    have r3 := C2.1.obj (a := 60) (g := upd (S2 60) 7 0) rfl
    have eS : upd2 S2 60 (upd (S2 60) 7 0) = upd2 S 60 (upd (upd (S 60) 3 (jI (F 12))) 7 0) := by rw [hS2, upd2_2, upd2_eq]
    rw [eS] at r3
    have e3 : pZ h2 (.ref 60) 10 7 0 = some (h2.set 60 (.inr (oF (upd2 S 60 (upd (upd (S 60) 3 (jI (F 12))) 7 0)) D 60))) := by
      rw [pZ_of (ltE (by decide)) (C2.1.1 60 rfl) (show 7 < 12 by decide) (Or.inl rfl), hS2]
      rfl
    refine ⟨_, V, ?_, C2.to r3.1 r3.2 (by rw [upd2_ne (by decide), hS2, upd2_ne (by decide)]), r2.2.trans r3.2, Sm.refl, fun d hd => by rw [hz d hd]; exact decide_eq_decide.mpr (by omega)⟩
    show s_X10_renew_52_b (s_X10_renew_52 f) 60 (jI c) h = _
    unfold s_X10_renew_52_b
    rw [g0, Option.bind_some, C.f12, Option.bind_some, if_pos ((jI_le (by omega) (by omega)).mpr (by omega)), Option.bind_some, C.f12, Option.bind_some, e2, Option.bind_some, e3, Option.bind_some]
  | n + 1, c, f + 1, h, V, hk, hf, C, hz => by
    have h400 := C.2.2.2.1.2.2.2.2.1
    have g0 : gO h (.ref 60) 10 0 = some 3 := gO_of (ltE (by decide)) (C.1.1 60 rfl) rfl
    have g4 : gO h (.ref 60) 10 4 = some 62 := gO_of (ltE (by decide)) (C.1.1 60 rfl) rfl
    obtain ⟨h2, y, p1, p2, C2, O2⟩ := C.putb (a := 62) rfl rfl (show c < 400 by omega)
    obtain ⟨h', V', ih, i1, i2, i3, i4⟩ := rn52_go n (c + 1) f h2 _ (by omega) (by omega) C2 (fun d hd => by
      rw [upd2_eq, bit_orb, hz d hd, ← Bool.decide_or]
      exact decide_eq_decide.mpr (by omega))
    refine ⟨h', V', ?_, i1, O2.trans i2, (Sm.refl.upd (by decide)).trans i3, i4⟩
    show s_X10_renew_52_b (s_X10_renew_52 f) 60 (jI c) h = _
    unfold s_X10_renew_52_b
    rw [g0, Option.bind_some, C.f12, Option.bind_some, if_neg (fun q => by have := (jI_le (by omega) (by omega)).mp q; omega), g4, Option.bind_some, p1, Option.bind_some, p2, Option.bind_some, jI_inc]
    exact ih
theorem CC.fill13 {D Ln : Nat → Nat} {h : aH} {V : Nat → Nat → Int32} (C : CC h S V Z D Ln b A N m F) {a : Nat} (hin : inC a = true) {n : Nat} (hln : lnC a = n) (x : Int32) :
    ∃ h', s_J7_fill_53178 a x h = some (.inl none, h') ∧ CC h' S (upd2 V a (filF (V a) 0 n x)) Z D Ln b A N m F ∧ Oc D h h' := by
  have hrow := C.1.2.1 a hin
  have hle := lnC_le a
  rw [hln] at hrow hle
  have e1 := fill_at (x := x) (ltE (by have := (inC_lt hin).1; omega)) (show n < 1000000 by omega) hrow
  have r1 := C.1.row (a := a) (g := filF (V a) 0 n x) hin
  rw [hln] at r1
  exact ⟨_, e1, C.to r1.1 r1.2 rfl, r1.2⟩
theorem CC.renew {D Ln : Nat → Nat} {h : aH} {V : Nat → Nat → Int32} (C : CC h S V Z D Ln b A N m F) :
    ∃ h' V' D' Ln' n y, s_X10_renew 60 h = some (.inl none, h', n, y) ∧ CC h' (upd2 S 60 (upd (upd (S 60) 3 (jI (F 12))) 7 0)) V' Z D' Ln' b A N m F ∧ Oc D h h' ∧ Gr h D D' ∧ Sm [62, 63, 64] V V' ∧ gdC V' (fun d => decide (d < F 12)) ∧ glC V' (fun _ => false) ∧ (∀ i, i < F 12 * F 13 → V' 64 i = 0) ∧ F 12 * F 13 ≤ Ln' 64 ∧ (∀ j, j ≠ 64 → Ln' j = Ln j ∧ D' j = D j) ∧ Ct Ln Ln' n y := by
  have hC := C.2.2.2.1
  have h400 := hC.2.2.2.2.1
  have h9 := hC.2.2.2.2.2.1
  have g4 : gO h (.ref 60) 10 4 = some 62 := gO_of (ltE (by decide)) (C.1.1 60 rfl) rfl
  obtain ⟨h1, e1, C1, O1⟩ := C.fill13 (a := 62) rfl rfl 0
  have g5 : gO h1 (.ref 60) 10 5 = some 63 := gO_of (ltE (by decide)) (C1.1.1 60 rfl) rfl
  obtain ⟨h2, e2, C2, O2⟩ := C1.fill13 (a := 63) rfl rfl 0
  have g6 : gO h2 (.ref 60) 10 6 = some (D 64) := gO_of (ltE (by decide)) (C2.1.1 60 rfl) rfl
  have g0 : gO h2 (.ref 60) 10 0 = some 3 := gO_of (ltE (by decide)) (C2.1.1 60 rfl) rfl
  have n1 : F 12 * F 13 ≤ mxD 64 := show F 12 * F 13 ≤ 400 * 9 from Nat.mul_le_mul h400 h9
  obtain ⟨h3, na, ya, x3, L4, V4, h4, e3, e4, X4, O4, G4, len4, oth4, -, ct1, ct2, big4⟩ := C2.1.grow (i := 64) rfl (o := 60) (kf := 6) rfl rfl (show 6 < 12 by decide) (fun x => rfl) (oF_grow (by decide) D) n1
  obtain ⟨D4, hD4⟩ : ∃ D4, D4 = updN D 64 x3 := ⟨_, rfl⟩
  rw [← hD4] at X4 G4
  have C4 := C2.to X4 O4 rfl
  have g6' : gO h4 (.ref 60) 10 6 = some (D4 64) := gO_of (ltE (by decide)) (X4.1 60 rfl) rfl
  have hL := X4.lnD (i := 64) rfl
  have e5 := fill_at (x := 0) (X4.dlt (i := 64) rfl) (show L4 64 < 1000000 by omega) (X4.2.2.2.1 64 rfl)
  have r5 := X4.rowD (a := 64) (g := filF (V4 64) 0 (L4 64) 0) rfl
  obtain ⟨h5, hh5⟩ : ∃ h5, h5 = h4.set (D4 64) (.inl (.int, L4 64, .inl (filF (V4 64) 0 (L4 64) 0))) := ⟨_, rfl⟩
  rw [← hh5] at e5 r5
  have C5 := C4.to r5.1 r5.2 rfl
  have z62 : ∀ d, d < 416 → bit (upd2 V4 64 (filF (V4 64) 0 (L4 64) 0) 62) 0 d = decide (d < 0) := fun d hd => by
    rw [upd2_ne (by decide), (oth4 62 (by decide)).2, upd2_ne (by decide), upd2_eq, decide_eq_false (by omega)]
    exact bit_zero (fun k hk => by unfold filF; rw [if_pos ⟨Nat.zero_le _, hk⟩]) hd
  obtain ⟨h6, V6, e6, C6, O6, M6, a6⟩ := rn52_go (F 12) 0 FU h5 _ (by omega) (by unfold FU; omega) C5 z62
  have Gr1 : Gr h D D4 := fun i hi => by
    rcases G4 i hi with z | z
    · exact Or.inl z
    · exact Or.inr (Nat.le_trans (O1.trans O2).1 z)
  refine ⟨h6, V6, D4, L4, 0 + na, 0 + ya, ?_, C6, ((O1.trans O2).trans O4).trans2 Gr1 (r5.2.trans O6), Gr1, ?_, a6, fun d hd => ?_, fun i hi => ?_, len4, fun j hj => ?_, ?_⟩
  · have e6' : s_X10_renew_52 FU 60 0 h5 = some (.inl none, h6) := e6
    unfold s_X10_renew
    simp only [g4, Option.bind_some, e1, cN, g5, e2, g6, g0, C2.f12, C2.f13, jI_mul, e3, dR, e4, g6', e5]
    rw [e6']
    simp only [wC]
    rw [ck_of (Nat.le_refl _) (Nat.le_refl _), ck_of (by omega) (by omega), ck_of (by omega) (by omega)]
  · intro k hk
    have k1 : k ≠ 62 := fun z => hk (by rw [z]; decide)
    have k2 : k ≠ 63 := fun z => hk (by rw [z]; decide)
    have k3 : k ≠ 64 := fun z => hk (by rw [z]; decide)
    rw [M6 k (by simp [k1]), upd2_ne k3, (oth4 k k3).2, upd2_ne k2, upd2_ne k1]
  · rw [M6 63 (by decide), upd2_ne (by decide), (oth4 63 (by decide)).2, upd2_eq]
    exact bit_zero (fun k hk => by unfold filF; rw [if_pos ⟨Nat.zero_le _, hk⟩]) hd
  · rw [M6 64 (by decide), upd2_eq]
    unfold filF
    rw [if_pos ⟨Nat.zero_le _, by omega⟩]
  · rw [(oth4 j hj).1, hD4, updN_ne hj]
    exact ⟨rfl, rfl⟩
  · rw [Nat.zero_add, Nat.zero_add]
    exact Ct.of (i := 64) rfl (fun j hj => (oth4 j hj).1) ct1 ct2
end
