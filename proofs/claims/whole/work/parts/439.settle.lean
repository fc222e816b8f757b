/-! the class's rounds of keeping -/
def Qs (ld : Nat → Nat → Nat → Int32) (P n : Nat) (good : Nat → Bool) : Nat → Nat → Nat → Prop
  | 0, c, _ => good c = true
  | r + 1, c, q => kpS ld P n good r c = true ∧ intoB (ld c q) n (kpS ld P n good r) = true
def Gs (ld : Nat → Nat → Nat → Int32) (P n : Nat) (good : Nat → Bool) : Nat → Nat → Prop
  | 0, e => good e = false
  | r + 1, e => kpS ld P n good r e = true ∧ kpS ld P n good (r + 1) e = false
theorem intoB_iff {ld : Nat → Int32} {n C : Nat} {T : Nat → Bool} (hl : ∀ x, isLd (ld x) C) (hC : C < 2147483648) (hT : T C = false) : intoB ld n T = true ↔ ∀ x, x < n → T (markC (ld x) C) = true := by
  unfold intoB
  rw [List.all_eq_true]
  constructor
  · intro H x hx
    have := H x (List.mem_range.mpr hx)
    rcases hl x with z | ⟨d, z, hd⟩
    · rw [z, tst_out] at this; cases this
    · rw [z, tst_in (by omega)] at this
      rw [z]
      unfold markC
      rw [if_pos (i32_nlt.mp (jI_neg (by omega))), jI_cl (by omega)]
      exact this
  · intro H x hx
    have := H x (List.mem_range.mp hx)
    rcases hl x with z | ⟨d, z, hd⟩
    · rw [z] at this
      unfold markC at this
      rw [if_neg (by decide), hT] at this
      cases this
    · rw [z] at this
      unfold markC at this
      rw [if_pos (i32_nlt.mp (jI_neg (by omega))), jI_cl (by omega)] at this
      rw [z, tst_in (by omega)]
      exact this
section
variable {ld : Nat → Nat → Nat → Int32} {P n C : Nat} {good : Nat → Bool}
theorem kpS_out (hg : ∀ c, C ≤ c → good c = false) (r : Nat) {c : Nat} (hc : C ≤ c) : kpS ld P n good r c = false := by
  cases h : kpS ld P n good r c with
  | false => rfl
  | true => exact absurd (kpS_good r c h) (by rw [hg c hc]; decide)
theorem canB_iff {T : Nat → Bool} {c : Nat} : canB ld P n T c = true ↔ ∃ q, q < P ∧ intoB (ld c q) n T = true := by
  unfold canB
  rw [List.any_eq_true]
  exact ⟨fun ⟨q, h1, h2⟩ => ⟨q, List.mem_range.mp h1, h2⟩, fun ⟨q, h1, h2⟩ => ⟨q, List.mem_range.mpr h1, h2⟩⟩
theorem Qs_ex (hP : 0 < P) : ∀ (r c : Nat), (∃ q, q < P ∧ Qs ld P n good r c q) ↔ kpS ld P n good r c = true
  | 0, c => ⟨fun ⟨_, _, h⟩ => h, fun h => ⟨0, hP, h⟩⟩
  | r + 1, c => by
    show (∃ q, q < P ∧ (kpS ld P n good r c = true ∧ intoB (ld c q) n (kpS ld P n good r) = true)) ↔ (kpS ld P n good r c && canB ld P n (kpS ld P n good r) c) = true
    rw [Bool.and_eq_true, canB_iff]
    exact ⟨fun ⟨q, h1, h2, h3⟩ => ⟨h2, q, h1, h3⟩, fun ⟨h2, q, h1, h3⟩ => ⟨q, h1, h2, h3⟩⟩
theorem Qs_step (hg : ∀ c, C ≤ c → good c = false) (hC : C < 2147483648) (hl : ∀ c p x, isLd (ld c p x) C) : ∀ (r c q : Nat), q < P → (Qs ld P n good (r + 1) c q ↔ Qs ld P n good r c q ∧ ∀ x, x < n → ¬ Gs ld P n good r (markC (ld c q x) C))
  | 0, c, q, hq => by
    show (good c = true ∧ intoB (ld c q) n good = true) ↔ good c = true ∧ ∀ x, x < n → ¬ good (markC (ld c q x) C) = false
    rw [intoB_iff (hl c q) hC (hg C (Nat.le_refl _))]
    refine and_congr Iff.rfl ⟨fun H x hx z => ?_, fun H x hx => ?_⟩
    · rw [H x hx] at z; cases z
    · cases z : good (markC (ld c q x) C) with
      | true => rfl
      | false => exact absurd z (H x hx)
  | r + 1, c, q, hq => by
    show (kpS ld P n good (r + 1) c = true ∧ intoB (ld c q) n (kpS ld P n good (r + 1)) = true) ↔ (kpS ld P n good r c = true ∧ intoB (ld c q) n (kpS ld P n good r) = true) ∧ ∀ x, x < n → ¬ (kpS ld P n good r (markC (ld c q x) C) = true ∧ kpS ld P n good (r + 1) (markC (ld c q x) C) = false)
    rw [intoB_iff (hl c q) hC (kpS_out hg r (Nat.le_refl _)), intoB_iff (hl c q) hC (kpS_out hg (r + 1) (Nat.le_refl _))]
    constructor
    · rintro ⟨h1, h2⟩
      exact ⟨⟨kpS_le h1, fun x hx => kpS_le (h2 x hx)⟩, fun x hx z => by rw [h2 x hx] at z; exact absurd z.2 (by decide)⟩
    · rintro ⟨⟨h1, h2⟩, h3⟩
      have h4 : ∀ x, x < n → kpS ld P n good (r + 1) (markC (ld c q x) C) = true := fun x hx => by
        cases z : kpS ld P n good (r + 1) (markC (ld c q x) C) with
        | true => rfl
        | false => exact absurd ⟨h2 x hx, z⟩ (h3 x hx)
      refine ⟨?_, h4⟩
      show (kpS ld P n good r c && canB ld P n (kpS ld P n good r) c) = true
      rw [h1, canB_iff.mpr ⟨q, hq, (intoB_iff (hl c q) hC (kpS_out hg r (Nat.le_refl _))).mpr h2⟩]
      rfl
theorem cnt_diff {T T' : Nat → Bool} : ∀ C, (∀ c, c < C → T' c = true → T c = true) → cntB (fun c => T c && !T' c) C + cntB T' C = cntB T C
  | 0, _ => rfl
  | C + 1, h => by
    have ih := cnt_diff C (fun c hc => h c (by omega))
    have h1 := h C (by omega)
    show cntB (fun c => T c && !T' c) C + (if (T C && !T' C) then 1 else 0) + (cntB T' C + (if T' C then 1 else 0)) = cntB T C + (if T C then 1 else 0)
    cases z1 : T C with
    | true => cases z2 : T' C <;> simp <;> omega
    | false =>
      cases z2 : T' C with
      | true => rw [h1 z2] at z1; cases z1
      | false => simp; omega
end
def gdC (V : Nat → Nat → Int32) (good : Nat → Bool) : Prop := ∀ d, d < 416 → bit (V 62) 0 d = good d
theorem mask_bits : ∀ P, P < 10 → ∀ q, q < 32 → bitI (((1 : Int32) <<< (jI P &&& 31)) - 1) q = decide (q < P) := by decide +kernel
section
variable {S : Nat → Nat → Int32} {Z : Nat → Nat → Int64} {D Ln : Nat → Nat} {b : Nat} {A : Nat → Nat → Int32} {N : Nat → Int64} {m F : Nat → Nat}
theorem bitw_at {h : aH} {V : Nat → Nat → Int32} (X : CW h S V Z D Ln b) {a c : Nat} (ha : inC a = true) (hl : lnC a = 13) (hc : c < 400) : ldI .int h (.ref a) (jI c >>> (5 &&& 31)) = some (V a (c / 32)) ∧ ((((V a (c / 32)) >>> ((jI c &&& 31) &&& 31)) &&& 1) = 0 ↔ bit (V a) 0 c = false) := by
  rw [sh5_code c (by omega), and31_code c (by omega)]
  refine ⟨X.ld ha (by omega), ?_⟩
  rw [bit_test _ _ (Nat.mod_lt _ (by decide))]
  unfold bit
  rw [Nat.zero_add]
theorem isGood_at {h : aH} {V : Nat → Nat → Int32} (X : CW h S V Z D Ln b) {good : Nat → Bool} (hg : gdC V good) {c : Nat} (hc : c < 400) : s_X10_isGood 60 (jI c) h = some (.inl (some (.int (b01 (good c)))), h) := by
  have g4 : gO h (.ref 60) 10 4 = some 62 := gO_of (ltE (by decide)) (X.1 60 rfl) rfl
  have w := bitw_at X (a := 62) (c := c) rfl rfl hc
  unfold s_X10_isGood
  rw [g4, Option.bind_some, w.1, Option.bind_some]
  have e := hg c (by omega)
  cases q : good c with
  | false =>
    rw [if_pos (w.2.mpr (by rw [e, q]))]
    rfl
  | true =>
    rw [if_neg (fun z => by have := w.2.mp z; rw [e, q] at this; cases this)]
    rfl
theorem name_go {r : Nat} : ∀ (n c f : Nat) (h : aH) (V : Nat → Nat → Int32), c + n = F 12 → n < f → CC h S V Z D Ln b A N m F →
    ∃ h' V', s_X7_nameLayer_2 f 69 (jI r) (jI c) h = some (.inl none, h') ∧ CC h' S V' Z D Ln b A N m F ∧ Oc D h h' ∧ Sm [71] V V' ∧ ∀ d, d < F 12 → V' 71 d = if c ≤ d ∧ bit (V 76) 0 d = true then jI r else V 71 d
  | _, _, 0, _, _, _, hf, _ => by omega
  | 0, c, f + 1, h, V, hk, hf, C => by
    obtain ⟨X, HM, K, hC, hw⟩ := id C
    have h400 := hC.2.2.2.2.1
    refine ⟨h, V, ?_, C, Oc.refl, Sm.refl, fun d hd => by rw [if_neg (by omega)]⟩
    have g0 : gO h (.ref 69) 7 0 = some 3 := gO_of (ltE (by decide)) (X.1 69 rfl) rfl
    have f12 : gI h (.ref 3) 2 12 = some (jI (F 12)) := gI_of (ltE (by decide)) HM.2.1 rfl
    show s_X7_nameLayer_2_b (s_X7_nameLayer_2 f) 69 (jI r) (jI c) h = _
    unfold s_X7_nameLayer_2_b
    rw [g0, Option.bind_some, f12, Option.bind_some, if_pos ((jI_le (by omega) (by omega)).mpr (by omega))]
  | n + 1, c, f + 1, h, V, hk, hf, C => by
    obtain ⟨X, HM, K, hC, hw⟩ := id C
    have h400 := hC.2.2.2.2.1
    have g0 : gO h (.ref 69) 7 0 = some 3 := gO_of (ltE (by decide)) (X.1 69 rfl) rfl
    have g7 : gO h (.ref 69) 7 7 = some 71 := gO_of (ltE (by decide)) (X.1 69 rfl) rfl
    have g12 : gO h (.ref 69) 7 12 = some 76 := gO_of (ltE (by decide)) (X.1 69 rfl) rfl
    have f12 : gI h (.ref 3) 2 12 = some (jI (F 12)) := gI_of (ltE (by decide)) HM.2.1 rfl
    have w := bitw_at X (a := 76) (c := c) rfl rfl (by omega)
    have start : ∀ {x : aO}, (if (((V 76 (c / 32)) >>> ((jI c &&& 31) &&& 31)) &&& 1) = 0 then (s_X7_nameLayer_2 f 69 (jI r) (jI (c + 1)) h) else ((stI h (.ref 71) (jI c) (jI r)).bind fun h37 => s_X7_nameLayer_2 f 69 (jI r) (jI (c + 1)) h37)) = x → s_X7_nameLayer_2 (f + 1) 69 (jI r) (jI c) h = x := by
      intro x hx
      show s_X7_nameLayer_2_b (s_X7_nameLayer_2 f) 69 (jI r) (jI c) h = _
      unfold s_X7_nameLayer_2_b
      rw [g0, Option.bind_some, f12, Option.bind_some, if_neg (fun q => by have := (jI_le (by omega) (by omega)).mp q; omega), g12, Option.bind_some, w.1, Option.bind_some, g7, Option.bind_some, jI_inc]
      exact hx
    cases q : bit (V 76) 0 c with
    | false =>
      obtain ⟨h', V', ih, i1, i2, i3, i4⟩ := name_go (r := r) n (c + 1) f h V (by omega) (by omega) C
      refine ⟨h', V', start (by rw [if_pos (w.2.mpr q)]; exact ih), i1, i2, i3, fun d hd => ?_⟩
      rw [i4 d hd]
      by_cases y : d = c
      · rw [y, if_neg (by omega), if_neg (by rw [q]; simp)]
      · by_cases y2 : c ≤ d ∧ bit (V 76) 0 d = true
        · rw [if_pos y2, if_pos ⟨by omega, y2.2⟩]
        · rw [if_neg y2, if_neg (fun z => y2 ⟨by omega, z.2⟩)]
    | true =>
      obtain ⟨h1, e1, X1, O1⟩ := X.st (a := 71) (j := c) rfl (show c < 400 by omega) (jI r)
      obtain ⟨h', V', ih, i1, i2, i3, i4⟩ := name_go (r := r) n (c + 1) f h1 _ (by omega) (by omega) (C.to X1 O1 rfl)
      refine ⟨h', V', start (by rw [if_neg (fun z => by rw [w.2.mp z] at q; cases q), e1, Option.bind_some]; exact ih), i1, O1.trans i2, (Sm.refl.upd (by decide)).trans i3, fun d hd => ?_⟩
      rw [i4 d hd, upd2_ne (by decide), upd2_eq]
      by_cases y : d = c
      · rw [y, if_neg (by omega), if_pos ⟨Nat.le_refl _, q⟩, upd_eq]
      · rw [upd_ne y]
        by_cases y2 : c ≤ d ∧ bit (V 76) 0 d = true
        · rw [if_pos y2, if_pos ⟨by omega, y2.2⟩]
        · rw [if_neg y2, if_neg (fun z => y2 ⟨by omega, z.2⟩)]
/-- what the class has found when it is settled -/
def okSf (S : Nat → Nat → Int32) (V : Nat → Nat → Int32) (A : Nat → Nat → Int32) (m F : Nat → Nat) (good : Nat → Bool) : Prop :=
  (∀ c, c < F 12 → ∀ q, q < 32 → (bitI (V 72 c) q = true ↔ q < F 13 ∧ safeS (ldV A m F) (F 13) (F 14) (F 12) good c = true ∧ intoB (ldV A m F c q) (F 14) (safeS (ldV A m F) (F 13) (F 14) (F 12) good) = true)) ∧
  (∀ c, c < F 12 → V 71 c = if good c then laysS (ldV A m F) (F 13) (F 14) (F 12) good c else 0) ∧ S 69 6 = jI (cntB (safeS (ldV A m F) (F 13) (F 14) (F 12) good) (F 12))
/-- after r rounds -/
def invS (S : Nat → Nat → Int32) (V : Nat → Nat → Int32) (A : Nat → Nat → Int32) (m F : Nat → Nat) (good : Nat → Bool) (r : Nat) : Prop :=
  (∀ c, c < F 12 → ∀ q, q < 32 → (bitI (V 72 c) q = true ↔ q < F 13 ∧ Qs (ldV A m F) (F 13) (F 14) good r c q)) ∧ (∀ e, e < 32 * (F 12 / 32 + 1) → (bit (V 76) 0 e = true ↔ Gs (ldV A m F) (F 13) (F 14) good r e)) ∧
  (∀ c, c < F 12 → V 71 c = if good c then layS (ldV A m F) (F 13) (F 14) good r c else 0) ∧ S 69 6 = jI (cntB (kpS (ldV A m F) (F 13) (F 14) good r) (F 12))
theorem invS.fin {V : Nat → Nat → Int32} {good : Nat → Bool} (hg : ∀ c, F 12 ≤ c → good c = false) {r : Nat} (I : invS S V A m F good (r + 1)) (st : Stb (ldV A m F) (F 13) (F 14) good r) : okSf S V A m F good := by
  obtain ⟨h1, -, h3, h4⟩ := I
  have f := st.safe hg
  have k1 : kpS (ldV A m F) (F 13) (F 14) good (r + 1) = safeS (ldV A m F) (F 13) (F 14) (F 12) good := st.trans f.1
  refine ⟨fun c hc q hq => (h1 c hc q hq).trans ?_, fun c hc => ?_, ?_⟩
  · show _ ∧ (kpS (ldV A m F) (F 13) (F 14) good r c = true ∧ intoB (ldV A m F c q) (F 14) (kpS (ldV A m F) (F 13) (F 14) good r) = true) ↔ _
    rw [f.1]
  · rw [h3 c hc, st.lay 1, f.2]
  · rw [h4, k1]
theorem settle117_go {good : Nat → Bool} (hg : ∀ c, F 12 ≤ c → good c = false) (f : Nat) : ∀ (r g : Nat) (h : aH) (S : Nat → Nat → Int32) (V : Nat → Nat → Int32), r ≤ F 12 + 1 → F 12 + 2 < f + r → g ≤ 1000 → CC h S V Z D Ln b A N m F → okMv V A m F → lenMv Ln F → invS S V A m F good r →
    (g = 0 → ∃ s, r = s + 1 ∧ Stb (ldV A m F) (F 13) (F 14) good s) →
    ∃ h' V' x, s_X7_settle_117 f 69 (jI g) (jI (r + 1)) h = some (.inl none, h') ∧ CC h' (upd2 S 69 (upd (S 69) 6 x)) V' Z D Ln b A N m F ∧ Oc D h h' ∧ Sm [71, 72, 76, 77] V V' ∧ okSf (upd2 S 69 (upd (S 69) 6 x)) V' A m F good := by
  induction f with
  | zero =>
    intro r g h S V h1 h2
    omega
  | succ f ih0 =>
    intro r g h S V hr hf hgg C M L I hz
    obtain ⟨X, HM, K, hC, hw⟩ := id C
    have h400 := hC.2.2.2.2.1
    have h9 := hC.2.2.2.2.2.1
    have pos := hC.pos
    have selfS : upd2 S 69 (upd (S 69) 6 (S 69 6)) = S := by
      funext k
      by_cases z : k = 69
      · rw [z, upd2_eq]
        funext j
        by_cases z2 : j = 6
        · rw [z2, upd_eq]
        · rw [upd_ne z2]
      · rw [upd2_ne z]
    have g0 : gO h (.ref 69) 7 0 = some 3 := gO_of (ltE (by decide)) (X.1 69 rfl) rfl
    have g1 : gO h (.ref 69) 7 1 = some 56 := gO_of (ltE (by decide)) (X.1 69 rfl) rfl
    have g8 : gO h (.ref 69) 7 8 = some 72 := gO_of (ltE (by decide)) (X.1 69 rfl) rfl
    have g5 : gO h (.ref 56) 3 5 = some (D 59) := gO_of (ltE (by decide)) (X.1 56 rfl) rfl
    have f12 : gI h (.ref 3) 2 12 = some (jI (F 12)) := gI_of (ltE (by decide)) HM.2.1 rfl
    have one : ∀ {x : aO}, (if jI g ≤ 0 then some (.inl none, h) else (if (jI (F 12 + 1)) < jI (r + 1) then some (.inl none, h) else (kO h 69 7 (cI (s_X7_shrink 69 (D 59) 72 h) fun x146 h146 => (gI h146 (.ref 69) 7 6).bind fun x152 => (pF h146 (.ref 69) 7 6 (.int (x152 - x146))).bind fun h157 => kO h157 69 7 (cN (s_X7_nameLayer 69 (jI (r + 1)) h157) fun h162 => s_X7_settle_117 f 69 x146 (jI (r + 1 + 1)) h162))))) = x → s_X7_settle_117 (f + 1) 69 (jI g) (jI (r + 1)) h = x := by
      intro x hx
      show s_X7_settle_117_b (s_X7_settle_117 f) 69 (jI g) (jI (r + 1)) h = _
      unfold s_X7_settle_117_b
      simp only [g0, g1, g8, g5, f12, Option.bind_some, jI_inc]
      exact hx
    by_cases q0 : g = 0
    · obtain ⟨s, rs, st⟩ := hz q0
      refine ⟨h, V, S 69 6, one (by rw [if_pos (by rw [q0]; decide)]), by rw [selfS]; exact C, Oc.refl, Sm.refl, ?_⟩
      rw [selfS]
      rw [rs] at I
      exact I.fin hg st
    · have n0 : ¬ jI g ≤ 0 := fun z => by have := (jI_le (k := 0) (by omega) (by omega)).mp z; omega
      by_cases q1 : r = F 12 + 1
      · refine ⟨h, V, S 69 6, one (by rw [if_neg n0, if_pos ((jI_lt (by omega) (by omega)).mpr (by omega))]), by rw [selfS]; exact C, Oc.refl, Sm.refl, ?_⟩
        rw [selfS]
        rw [q1] at I
        exact I.fin hg (stb_C hg)
      · obtain ⟨h1, V1, e1, C1, O1, M1, a1, b1⟩ := shrink_at (rid := 59) (oid := 72) rfl (Or.inl rfl) C L.2
        obtain ⟨I1, I2, I3, I4⟩ := I
        have hl := ldV_is K hC
        -- what is open now
        have op : ∀ c, c < F 12 → ∀ q, q < 32 → (bitI (V1 72 c) q = true ↔ q < F 13 ∧ Qs (ldV A m F) (F 13) (F 14) good (r + 1) c q) := fun c hc q hq => by
          rw [a1 c hc q hq, I1 c hc q hq]
          constructor
          · rintro ⟨⟨h1, h2⟩, h3⟩
            refine ⟨h1, (Qs_step hg (by omega) hl r c q h1).mpr ⟨h2, fun x hx z => ?_⟩⟩
            have hm := (hl c q x).mark (by omega)
            exact h3 h1 (markC (ldV A m F c q x) (F 12)) (by omega) ⟨(M.2 c q hc h1 _ (by omega)).mpr ⟨x, hx, rfl⟩, (I2 _ (by omega)).mpr z⟩
          · rintro ⟨h1, h2⟩
            obtain ⟨h3, h4⟩ := (Qs_step hg (by omega) hl r c q h1).mp h2
            refine ⟨⟨h1, h3⟩, fun _ e he ⟨z1, z2⟩ => ?_⟩
            obtain ⟨x, hx, ex⟩ := (M.2 c q hc h1 e he).mp z1
            exact h4 x hx (ex ▸ (I2 e he).mp z2)
        have ne0 : ∀ (W : Nat → Nat → Int32) (s : Nat), (∀ c, c < F 12 → ∀ q, q < 32 → (bitI (W 72 c) q = true ↔ q < F 13 ∧ Qs (ldV A m F) (F 13) (F 14) good s c q)) → ∀ c, c < F 12 → (W 72 c ≠ 0 ↔ kpS (ldV A m F) (F 13) (F 14) good s c = true) := fun W s hW c hc => by
          rw [← Qs_ex pos.2.1 s c]
          constructor
          · intro z
            by_cases y : ∃ q, q < F 13 ∧ Qs (ldV A m F) (F 13) (F 14) good s c q
            · exact y
            · refine absurd (bitI_zero.mpr (fun q hq => ?_)) z
              cases w : bitI (W 72 c) q with
              | false => rfl
              | true => exact absurd ⟨q, (hW c hc q hq).mp w⟩ y
          · rintro ⟨q, h1, h2⟩ z
            have := (hW c hc q (by omega)).mpr ⟨h1, h2⟩
            rw [bitI_zero.mp z q (by omega)] at this
            cases this
        have wn : ∀ c, c < F 12 → (wnt (V 72) (V1 72) c = (kpS (ldV A m F) (F 13) (F 14) good r c && !kpS (ldV A m F) (F 13) (F 14) good (r + 1) c)) := fun c hc => by
          have n1 := ne0 V r I1 c hc
          have n2 := ne0 V1 (r + 1) op c hc
          unfold wnt
          cases z1 : kpS (ldV A m F) (F 13) (F 14) good r c with
          | false => rw [decide_eq_false (fun z => by rw [n1.mp z] at z1; cases z1)]; rfl
          | true =>
            rw [decide_eq_true (n1.mpr z1)]
            cases z2 : kpS (ldV A m F) (F 13) (F 14) good (r + 1) c with
            | false =>
              rw [decide_eq_true (show V1 72 c = 0 from by
                by_cases y : V1 72 c = 0
                · exact y
                · rw [n2.mp y] at z2; cases z2)]
              rfl
            | true => rw [decide_eq_false (n2.mpr z2)]; rfl
        have cn : cntB (wnt (V 72) (V1 72)) (F 12) + cntB (kpS (ldV A m F) (F 13) (F 14) good (r + 1)) (F 12) = cntB (kpS (ldV A m F) (F 13) (F 14) good r) (F 12) := by
          rw [cntB_congr (F 12) wn]
          exact cnt_diff (F 12) (fun c _ => kpS_le)
        have gn : ∀ e, e < 32 * (F 12 / 32 + 1) → (bit (V1 76) 0 e = true ↔ Gs (ldV A m F) (F 13) (F 14) good (r + 1) e) := fun e he => by
          rw [b1 e (by omega)]
          show _ ↔ kpS (ldV A m F) (F 13) (F 14) good r e = true ∧ kpS (ldV A m F) (F 13) (F 14) good (r + 1) e = false
          constructor
          · rintro ⟨h1, h2⟩
            rw [wn e h1, Bool.and_eq_true] at h2
            exact ⟨h2.1, by simpa using h2.2⟩
          · rintro ⟨h1, h2⟩
            have he2 : e < F 12 := Nat.lt_of_not_le (fun z => by rw [kpS_out hg r z] at h1; cases h1)
            exact ⟨he2, by rw [wn e he2, h1, h2]; rfl⟩
        have s6 : gI h1 (.ref 69) 7 6 = some (jI (cntB (kpS (ldV A m F) (F 13) (F 14) good r) (F 12))) := I4 ▸ gI_of (ltE (by decide)) (C1.1.1 69 rfl) rfl
        have sub : jI (cntB (kpS (ldV A m F) (F 13) (F 14) good r) (F 12)) - jI (cntB (wnt (V 72) (V1 72)) (F 12)) = jI (cntB (kpS (ldV A m F) (F 13) (F 14) good (r + 1)) (F 12)) := by
          rw [← cn, ← jI_add, Int32.add_comm]
          exact Int32.add_sub_cancel _ _
        obtain ⟨y6, hy6⟩ : ∃ y6, y6 = jI (cntB (kpS (ldV A m F) (F 13) (F 14) good (r + 1)) (F 12)) := ⟨_, rfl⟩
        have r2 := C1.1.obj (a := 69) (g := upd (S 69) 6 y6) rfl
        obtain ⟨S2, hS2⟩ : ∃ S2, S2 = upd2 S 69 (upd (S 69) 6 y6) := ⟨_, rfl⟩
        rw [← hS2] at r2
        obtain ⟨h2, e2, X2, O2⟩ : ∃ h2, pF h1 (.ref 69) 7 6 (.int y6) = some h2 ∧ CW h2 S2 V1 Z D Ln b ∧ Oc D h1 h2 := by
          refine ⟨_, ?_, r2.1, r2.2⟩
          rw [pF_of (ltE (by decide)) (C1.1.1 69 rfl) (show 6 < 14 by decide), hS2]
          rfl
        have C2 := C1.to X2 O2 (by rw [hS2, upd2_ne (by decide)])
        obtain ⟨h3, V3, e3, C3, O3, M3, a3⟩ := name_go (r := r + 1) (F 12) 0 FU h2 V1 (by omega) (by unfold FU; omega) C2
        have M13 : Sm [71, 72, 76, 77] V V3 := (M1.mono (by decide)).trans (M3.mono (by decide))
        have inv3 : invS S2 V3 A m F good (r + 1) := by
          refine ⟨fun c hc q hq => by rw [M3 72 (by decide)]; exact op c hc q hq, fun e he => by rw [M3 76 (by decide)]; exact gn e he, fun c hc => ?_, by rw [hS2, upd2_eq, upd_eq, hy6]⟩
          rw [a3 c hc, M1 71 (by decide), I3 c hc]
          have l1 : layS (ldV A m F) (F 13) (F 14) good (r + 1) c = if kpS (ldV A m F) (F 13) (F 14) good r c && !kpS (ldV A m F) (F 13) (F 14) good (r + 1) c then jI (r + 1) else layS (ldV A m F) (F 13) (F 14) good r c := rfl
          rw [l1]
          by_cases y : bit (V1 76) 0 c = true
          · obtain ⟨k1, k2⟩ := (gn c (by omega)).mp y
            rw [if_pos ⟨Nat.zero_le _, y⟩, kpS_good r c k1, k1, k2]
            rfl
          · rw [if_neg (fun z => y z.2)]
            have : (kpS (ldV A m F) (F 13) (F 14) good r c && !kpS (ldV A m F) (F 13) (F 14) good (r + 1) c) = false := by
              cases z : (kpS (ldV A m F) (F 13) (F 14) good r c && !kpS (ldV A m F) (F 13) (F 14) good (r + 1) c) with
              | false => rfl
              | true =>
                rw [Bool.and_eq_true] at z
                exact absurd ((gn c (by omega)).mpr ⟨z.1, by simpa using z.2⟩) y
            rw [this]
            rfl
        have cle := cntB_le (wnt (V 72) (V1 72)) (F 12)
        obtain ⟨h', V', x, ih, i1, i2, i3, i4⟩ := ih0 (r + 1) (cntB (wnt (V 72) (V1 72)) (F 12)) h3 S2 V3 (by omega) (by omega) (by omega) C3 ⟨fun c p w x1 x2 x3 => by rw [M13 58 (by decide)]; exact M.1 c p w x1 x2 x3, fun c p x1 x2 e he => by rw [M13 59 (by decide)]; exact M.2 c p x1 x2 e he⟩ L inv3 (fun z => ⟨r, rfl, by
          rcases stb_or (ld := ldV A m F) (P := F 13) (n := F 14) hg r with w | w
          · exact w
          · omega⟩)
        have eS : upd2 S2 69 (upd (S2 69) 6 x) = upd2 S 69 (upd (S 69) 6 x) := by
          rw [hS2, upd2_2, upd2_eq]
          congr 1
          funext j
          by_cases z : j = 6
          · rw [z, upd_eq, upd_eq]
          · rw [upd_ne z, upd_ne z, upd_ne z]
        rw [eS] at i1 i4
        refine ⟨h', V', x, one ?_, i1, ((O1.trans O2).trans O3).trans i2, M13.trans i3, i4⟩
        have e3' : s_X7_nameLayer 69 (jI (r + 1)) h2 = some (.inl none, h3) := e3
        rw [if_neg n0, if_neg (fun z => by have := (jI_lt (by omega) (by omega)).mp z; omega), kO_of (ltE (by decide)) (X.1 69 rfl), e1]
        simp only [cI, s6, Option.bind_some, sub, ← hy6, e2, kO_of (ltE (by decide)) (X2.1 69 rfl), e3', cN]
        exact ih
end
