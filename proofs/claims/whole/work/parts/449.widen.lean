/-! the class's spreads on its own rows; staysByWider -/
section
variable {h : aH} {S : Nat → Nat → Int32} {V : Nat → Nat → Int32} {Z : Nat → Nat → Int64} {D Ln : Nat → Nat} {b : Nat} {A : Nat → Nat → Int32} {N : Nat → Int64} {m F : Nat → Nat}
theorem CC.r9 (C : CC h S V Z D Ln b A N m F) {a : Nat} (ha : inC a = true) (hl : lnC a = 9) : h[a]? = some (.inl (.int, 9, .inl (V a))) ∧ a < aE ∧ (a < 3 ∨ 3 + 19 < a) := by
  have e := C.1.2.1 a ha
  rw [hl] at e
  have h1 := of_decide_eq_true ha
  exact ⟨e, ltE (by omega), by omega⟩
theorem CC.set9 (C : CC h S V Z D Ln b A N m F) {a : Nat} (ha : inC a = true) (hl : lnC a = 9) (g : Nat → Int32) : CC (h.set a (.inl (.int, 9, .inl g))) S (upd2 V a g) Z D Ln b A N m F ∧ Oc D h (h.set a (.inl (.int, 9, .inl g))) := by
  have r := C.1.row (a := a) (g := g) ha
  rw [hl] at r
  exact ⟨C.to r.1 r.2 rfl, r.2⟩
theorem CC.spr (C : CC h S V Z D Ln b A N m F) {a : Nat} (ha : inC a = true) (hl : lnC a = 9) {k : Nat} (hk : k < 4) (x : Int32) :
    ∃ h', s_X2_spread 3 (jI k) x 0 a h = some (.inl none, h') ∧ CC h' S (upd2 V a (sprGo A 0 (baseN k) (m k) x (V a))) Z D Ln b A N m F ∧ Oc D h h' := by
  obtain ⟨e, h1, h2⟩ := C.r9 ha hl
  have r := C.set9 ha hl (sprGo A 0 (baseN k) (m k) x (V a))
  exact ⟨_, spreadK_at C.2.1 C.2.2.1.1 hk h1 h2 e x 0, r.1, r.2⟩
theorem CC.sprW (C : CC h S V Z D Ln b A N m F) {a : Nat} (ha : inC a = true) (hl : lnC a = 9) (x w : Int32) :
    ∃ h', s_X2_spreadWorld 3 x w a h = some (.inl none, h') ∧ CC h' S (upd2 V a (spW A m (jI (F 15)) w x (V a))) Z D Ln b A N m F ∧ Oc D h h' := by
  obtain ⟨e, h1, h2⟩ := C.r9 ha hl
  have r := C.set9 ha hl (spW A m (jI (F 15)) w x (V a))
  exact ⟨_, spreadWorld_at C.2.1 C.2.2.1.1 h1 h2 e x w, r.1, r.2⟩
theorem CC.sprM (C : CC h S V Z D Ln b A N m F) {a : Nat} (ha : inC a = true) (hl : lnC a = 9) (c p x : Int32) :
    ∃ h', s_X2_spreadMove 3 c p x a h = some (.inl none, h') ∧ CC h' S (upd2 V a (spM A m (jI (F 15)) c p x (V a))) Z D Ln b A N m F ∧ Oc D h h' := by
  obtain ⟨e, h1, h2⟩ := C.r9 ha hl
  have r := C.set9 ha hl (spM A m (jI (F 15)) c p x (V a))
  exact ⟨_, spreadMove_at C.2.1 C.2.2.1.1 h1 h2 e c p x, r.1, r.2⟩
theorem CC.lead (C : CC h S V Z D Ln b A N m F) {a : Nat} (ha : inC a = true) (hl : lnC a = 9) : s_X2_lead 3 a h = some (.inl (some (.int (leadV A m F (V a)))), h) := by
  obtain ⟨e, h1, h2⟩ := C.r9 ha hl
  exact lead_at C.2.1 C.2.2.1.1 h1 e
theorem CC.seen (C : CC h S V Z D Ln b A N m F) {a : Nat} (ha : inC a = true) (hl : lnC a = 9) {i : Nat} (hi : i < m 4) : s_X2_seen 3 (jI i) a h = some (.inl (some (.int (sumV (V a) (sgm A 10 11 i)))), h) := by
  obtain ⟨e, h1, h2⟩ := C.r9 ha hl
  exact seen_at C.2.1 C.2.2.1.1 h1 e hi
theorem CC.kO3 {β : Type} {k : Option β} (C : CC h S V Z D Ln b A N m F) : kO h 3 2 k = k := C.2.1.kO
theorem CC.f12 (C : CC h S V Z D Ln b A N m F) : gI h (.ref 3) 2 12 = some (jI (F 12)) := gI_of (ltE (by decide)) C.2.1.2.1 rfl
theorem CC.f13 (C : CC h S V Z D Ln b A N m F) : gI h (.ref 3) 2 13 = some (jI (F 13)) := gI_of (ltE (by decide)) C.2.1.2.1 rfl
theorem CC.f14 (C : CC h S V Z D Ln b A N m F) : gI h (.ref 3) 2 14 = some (jI (F 14)) := gI_of (ltE (by decide)) C.2.1.2.1 rfl
theorem CC.f15 (C : CC h S V Z D Ln b A N m F) : gI h (.ref 3) 2 15 = some (jI (F 15)) := gI_of (ltE (by decide)) C.2.1.2.1 rfl
end
/-- the values of a cell and a push stand -/
def cqV (A : Nat → Nat → Int32) (m : Nat → Nat) (c q : Nat) (v : Nat → Int32) : Prop := ∀ s, (s < m 0 ∨ (3 ≤ s ∧ s < 3 + m 1)) → v s = sprGo A 0 3 (m 1) (jI q) (sprGo A 0 0 (m 0) (jI c) zV) s
theorem cqV.wide {A : Nat → Nat → Int32} {m : Nat → Nat} (K : okm m) {c q : Nat} {v : Nat → Int32} (h : cqV A m c q v) (np w x : Int32) : cqV A m c q (spW A m np w x v) ∧ agree m (spW A m np w x v) (spX A m np w (jI c) (jI q) x zV) := by
  obtain ⟨k0, k1, k2, k3, -⟩ := K
  constructor
  · intro s hs
    unfold spW
    rw [spr_out A 0 7 (m 3) _ _ s (by omega), spr_out A w 5 (m 2) _ _ s (by omega)]
    exact h s hs
  · intro s hs
    unfold spX spW
    by_cases q7 : 7 ≤ s ∧ s < 7 + m 3
    · exact spr_in A 0 7 (m 3) _ _ _ s q7.1 q7.2
    · rw [spr_out A 0 7 (m 3) _ _ s (by omega), spr_out A 0 7 (m 3) _ _ s (by omega)]
      by_cases q5 : 5 ≤ s ∧ s < 5 + m 2
      · exact spr_in A w 5 (m 2) _ _ _ s q5.1 q5.2
      · rw [spr_out A w 5 (m 2) _ _ s (by omega), spr_out A w 5 (m 2) _ _ s (by omega)]
        exact h s (by unfold decl at hs; omega)
theorem edge_congr {A : Nat → Nat → Int32} {w : Int32} {v v' : Nat → Int32} : ∀ (n s : Nat), (∀ k, s ≤ k → k < s + n → v k = v' k) → edgeGo A w v s n = edgeGo A w v' s n
  | 0, _, _ => rfl
  | n + 1, s, h => by
    unfold edgeGo
    rw [h s (Nat.le_refl _) (by omega), edge_congr n (s + 1) (fun k h1 h2 => h k (by omega) (by omega))]
/-- whether a wider world is new -/
def edgW (A : Nat → Nat → Int32) (m F : Nat → Nat) (w y : Nat) : Bool := edgeGo A (jI w) (spW A m (jI (F 15)) (jI w) (jI y) zV) 5 (m 2)
theorem edgW_of {A : Nat → Nat → Int32} {m F : Nat → Nat} (K : okm m) {w y : Nat} (v : Nat → Int32) : edgeGo A (jI w) (spW A m (jI (F 15)) (jI w) (jI y) v) 5 (m 2) = edgW A m F w y := by
  obtain ⟨k0, k1, k2, k3, -⟩ := K
  refine edge_congr (m 2) 5 (fun k h1 h2 => ?_)
  unfold spW
  rw [spr_out A 0 7 (m 3) _ _ k (by omega), spr_out A 0 7 (m 3) _ _ k (by omega)]
  exact spr_in A (jI w) 5 (m 2) _ _ _ k h1 h2
theorem edgW_dn {A : Nat → Nat → Int32} {m F : Nat → Nat} (K : okW A m F) (C : okC A m F) {w : Nat} (hw : w + 1 ≤ 2) {y : Nat} (hy : y < nWd A m F (w + 1)) (he : edgW A m F (w + 1) y = false) : ∃ x, x < nWd A m F w ∧ ∀ c p, ldW A m F (w + 1) c p y = ldW A m F w c p x := by
  have pos := C.pos
  have nle1 := nWd_le K C hw
  refine wide_dn K C hw hy (fun s h1 h2 => ?_) he
  obtain ⟨k0, k1, k2, k3, -⟩ := K.1.1
  unfold spW
  rw [spr_out A 0 7 (m 3) _ _ s (by omega), jmax1_N pos.2.2.1 (by omega), jI_div (by omega) pos.2.2.1 (by omega)]
/-- a row of words says where a row of leads goes -/
def rwM (R : Nat → Int32) (F : Nat → Nat) (ld : Nat → Int32) (n row : Nat) : Prop := ∀ e, e < 32 * (F 12 / 32 + 1) → (bit R (row * (F 12 / 32 + 1)) e = true ↔ ∃ x, x < n ∧ e = markC (ld x) (F 12))
theorem bit_orbr {R : Nat → Int32} {wd r r' d e : Nat} (hd : d < 32 * wd) (he : e < 32 * wd) (hr : r' ≠ r) : bit (orb R (r * wd) d) (r' * wd) e = bit R (r' * wd) e := by
  unfold bit
  rw [orb_out]
  intro z
  exact hr (rc_inj (C := wd) (by omega) (by omega) z).1
section
variable {S : Nat → Nat → Int32} {Z : Nat → Nat → Int64} {D Ln : Nat → Nat} {b : Nat} {A : Nat → Nat → Int32} {N : Nat → Int64} {m F : Nat → Nat}
def alv (f : Nat → Int32) (d : Nat) : Bool := decide (f d ≠ 0)
theorem rtZ_b (q : Bool) (h : aH) : rtZ (b01 q) h = some (.inl (some (.int (b01 q))), h) := by
  unfold rtZ
  cases q <;> rfl
theorem st50_go {w c q : Nat} (hw : w ≤ 2) (hc : c < F 12) (hq : q < F 13) (hlen : F 12 * F 13 * (F 12 / 32 + 1) ≤ Ln 75) :
    ∀ (n x f : Nat) (h : aH) (V : Nat → Nat → Int32), x + n = nWd A m F w → n < f → CC h S V Z D Ln b A N m F → cqV A m c q (V 70) →
      ∃ h' V' r, s_X7_staysByWider_50 f 69 (jI c) (jI q) (jI w) (jI (nWd A m F w)) (jI x) h = some (.inl (some (.int (b01 r))), h') ∧ CC h' S V' Z D Ln b A N m F ∧ Oc D h h' ∧ Sm [70, 75] V V' ∧
        (∀ r' e, e < 32 * (F 12 / 32 + 1) → r' ≠ c * F 13 + q → bit (V' 75) (r' * (F 12 / 32 + 1)) e = bit (V 75) (r' * (F 12 / 32 + 1)) e) ∧
        ((∀ y, x ≤ y → y < nWd A m F w → edgW A m F w y = true → tst (ldW A m F w c q y) (alv (V 74)) = true) → r = true) ∧
        (r = true → (∀ y, x ≤ y → y < nWd A m F w → edgW A m F w y = true → tst (ldW A m F w c q y) (alv (V 74)) = true) ∧ ∀ e, e < 32 * (F 12 / 32 + 1) → (bit (V' 75) ((c * F 13 + q) * (F 12 / 32 + 1)) e = true ↔ bit (V 75) ((c * F 13 + q) * (F 12 / 32 + 1)) e = true ∨ ∃ y, x ≤ y ∧ y < nWd A m F w ∧ edgW A m F w y = true ∧ e = markC (ldW A m F w c q y) (F 12)))
  | _, _, 0, _, _, _, hf, _, _ => by omega
  | 0, x, f + 1, h, V, hk, hf, C, hv => by
    have nle := nWd_le C.2.2.1 C.2.2.2.1 hw
    refine ⟨h, V, true, ?_, C, Oc.refl, Sm.refl, fun _ _ _ _ => rfl, fun _ => rfl, fun _ => ⟨fun y h1 h2 => by omega, fun e he => ⟨Or.inl, fun z => z.elim id (fun ⟨y, h1, h2, _⟩ => by omega)⟩⟩⟩
    show s_X7_staysByWider_50_b (s_X7_staysByWider_50 f) 69 (jI c) (jI q) (jI w) (jI (nWd A m F w)) (jI x) h = _
    unfold s_X7_staysByWider_50_b
    rw [if_pos ((jI_le (by omega) (by omega)).mpr (by omega))]
    rfl
  | n + 1, x, f + 1, h, V, hk, hf, C, hv => by
    obtain ⟨X, HM, K, hC, hwd⟩ := id C
    have h400 := hC.2.2.2.2.1
    have h9 := hC.2.2.2.2.2.1
    have nle := nWd_le K hC hw
    have g0 : gO h (.ref 69) 7 0 = some 3 := gO_of (ltE (by decide)) (X.1 69 rfl) rfl
    have g3 : gO h (.ref 69) 7 3 = some 70 := gO_of (ltE (by decide)) (X.1 69 rfl) rfl
    obtain ⟨h1, e1, C1, O1⟩ := C.sprW (a := 70) rfl rfl (jI x) (jI w)
    have G0 : gO h1 (.ref 69) 7 0 = some 3 := gO_of (ltE (by decide)) (C1.1.1 69 rfl) rfl
    have G1 : gO h1 (.ref 69) 7 1 = some 56 := gO_of (ltE (by decide)) (C1.1.1 69 rfl) rfl
    have G3 : gO h1 (.ref 69) 7 3 = some 70 := gO_of (ltE (by decide)) (C1.1.1 69 rfl) rfl
    have G10 : gO h1 (.ref 69) 7 10 = some 74 := gO_of (ltE (by decide)) (C1.1.1 69 rfl) rfl
    have G11 : gO h1 (.ref 69) 7 11 = some (D 75) := gO_of (ltE (by decide)) (C1.1.1 69 rfl) rfl
    obtain ⟨V1, hV1⟩ : ∃ V1, V1 = upd2 V 70 (spW A m (jI (F 15)) (jI w) (jI x) (V 70)) := ⟨_, rfl⟩
    rw [← hV1] at C1
    have a70 : V1 70 = spW A m (jI (F 15)) (jI w) (jI x) (V 70) := by rw [hV1, upd2_eq]
    have M1 : Sm [70, 75] V V1 := by rw [hV1]; exact Sm.refl.upd (by decide)
    have hv1 := hv.wide K.1.1 (jI (F 15)) (jI w) (jI x)
    rw [← a70] at hv1
    obtain ⟨r1, r2, r3⟩ := C1.r9 (a := 70) rfl rfl
    have ee := edge_at C1.2.1 K.1 r2 r1 (jI w)
    rw [a70, edgW_of K.1.1] at ee
    have el := C1.lead (a := 70) rfl rfl
    have exl : leadV A m F (V1 70) = ldW A m F w c q x := leadV_congr hv1.2 K.2.1
    rw [exl] at el
    have start : ∀ {y : aO}, (if (if edgW A m F w x then (1 : Int32) else 0) = 0 then (s_X7_staysByWider_50 f 69 (jI c) (jI q) (jI w) (jI (nWd A m F w)) (jI (x + 1)) h1) else if ldW A m F w c q x < 0 then rtZ 0 h1 else ((ldI .int h1 (.ref 74) (ldW A m F w c q x)).bind fun x110 => if x110 = 0 then (rtZ 0 h1) else (cN (s_X3_mark 56 (D 75) (jI (c * F 13 + q)) (ldW A m F w c q x) h1) fun h137 => s_X7_staysByWider_50 f 69 (jI c) (jI q) (jI w) (jI (nWd A m F w)) (jI (x + 1)) h137))) = y →
        s_X7_staysByWider_50 (f + 1) 69 (jI c) (jI q) (jI w) (jI (nWd A m F w)) (jI x) h = y := by
      intro y hy
      show s_X7_staysByWider_50_b (s_X7_staysByWider_50 f) 69 (jI c) (jI q) (jI w) (jI (nWd A m F w)) (jI x) h = _
      unfold s_X7_staysByWider_50_b
      rw [if_neg (fun z => by have := (jI_le (by omega) (by omega)).mp z; omega)]
      simp only [g0, g3, Option.bind_some, C.kO3, e1, cN, G0, G3, C1.kO3, ee, cI, el, G10, G1, G11, C1.f13, jI_mul, jI_add, jI_inc, kO_of (ltE (show 56 < 1000000 by decide)) (C1.1.1 56 rfl)]
      exact hy
    cases z : edgW A m F w x with
    | false =>
      obtain ⟨h', V', r, ih, i1, i2, i3, i4, i5, i6⟩ := st50_go hw hc hq hlen n (x + 1) f h1 V1 (by omega) (by omega) C1 hv1.1
      have e75 : V1 75 = V 75 := by rw [hV1, upd2_ne (by decide)]
      have e74 : V1 74 = V 74 := by rw [hV1, upd2_ne (by decide)]
      rw [e75] at i4 i6
      rw [e74] at i5 i6
      refine ⟨h', V', r, start ?_, i1, O1.trans i2, M1.trans i3, i4, fun H => i5 (fun y h1 h2 h3 => H y (by omega) h2 h3), fun hr => ⟨fun y h1 h2 h3 => ?_, fun e he => ((i6 hr).2 e he).trans ⟨?_, ?_⟩⟩⟩
      · rw [z]; exact ih
      · by_cases t : y = x
        · rw [t, z] at h3; cases h3
        · exact (i6 hr).1 y (by omega) h2 h3
      · rintro (t | ⟨y, h1, h2, h3⟩)
        · exact Or.inl t
        · exact Or.inr ⟨y, by omega, h2, h3⟩
      · rintro (t | ⟨y, h1, h2, h3⟩)
        · exact Or.inl t
        · refine Or.inr ⟨y, ?_, h2, h3⟩
          by_cases t : y = x
          · rw [t, z] at h3; cases h3.1
          · omega
    | true =>
      have e75 : V1 75 = V 75 := by rw [hV1, upd2_ne (by decide)]
      have e74 : V1 74 = V 74 := by rw [hV1, upd2_ne (by decide)]
      by_cases al : tst (ldW A m F w c q x) (alv (V 74)) = true
      · rcases ldW_is K hC w c q x with y | ⟨d, y, hd⟩
        · rw [y, tst_out] at al; cases al
        · rw [y, tst_in (by omega)] at al
          have l74 : ldI .int h1 (.ref 74) (jI d) = some (V 74 d) := by
            rw [← e74]
            exact C1.1.ld (a := 74) rfl (show d < 400 by omega)
          have al0 : V 74 d ≠ 0 := of_decide_eq_true al
          have hmk : markC (jI d) (F 12) = d := by
            unfold markC
            rw [if_pos (i32_nlt.mp (jI_neg (by omega))), jI_cl (by omega)]
          have hrow : (c * F 13 + q) * (F 12 / 32 + 1) + (F 12 / 32 + 1) ≤ F 12 * F 13 * (F 12 / 32 + 1) := by
            have h1 : c * F 13 + q + 1 ≤ F 12 * F 13 := by
              have : (c + 1) * F 13 ≤ F 12 * F 13 := Nat.mul_le_mul_right _ (by omega)
              rw [Nat.add_mul] at this
              omega
            have := Nat.mul_le_mul_right (F 12 / 32 + 1) h1
            rw [Nat.add_mul, Nat.one_mul] at this
            exact this
          have hL := C1.1.lnD (i := 75) rfl
          have ob1 : h1[56]? = some (.inr (3, [.ref 3, .ref 57, .int (S 56 2), .int (jI (F 12 / 32 + 1)), .ref (D 58), .ref (D 59)])) := by
            rw [← hwd]
            exact C1.1.1 56 rfl
          have em := mark_at C1.2.1 ob1 (C1.1.dlt (i := 75) rfl) (C1.1.2.2.2.1 75 rfl) (by omega) (row := c * F 13 + q) (x := jI d) (by rw [hmk]; omega) (by rw [hmk]; omega)
          rw [hmk] at em
          have r2 := C1.1.rowD (a := 75) (g := orb (V1 75) ((c * F 13 + q) * (F 12 / 32 + 1)) d) rfl
          obtain ⟨h2, hh2⟩ : ∃ h2, h2 = h1.set (D 75) (.inl (.int, Ln 75, .inl (orb (V1 75) ((c * F 13 + q) * (F 12 / 32 + 1)) d))) := ⟨_, rfl⟩
          rw [← hh2] at em r2
          have C2 := C1.to r2.1 r2.2 rfl
          obtain ⟨h', V', r, ih, i1, i2, i3, i4, i5, i6⟩ := st50_go hw hc hq hlen n (x + 1) f h2 _ (by omega) (by omega) C2 (by rw [upd2_ne (by decide)]; exact hv1.1)
          rw [upd2_eq, e75] at i4 i6
          rw [upd2_ne (by decide), e74] at i5 i6
          have hdw : d < 32 * (F 12 / 32 + 1) := by omega
          refine ⟨h', V', r, start ?_, i1, (O1.trans r2.2).trans i2, (M1.upd (by decide)).trans i3, fun r' e he hr' => by rw [i4 r' e he hr', bit_orbr hdw he hr'], fun H => i5 (fun y h1 h2 h3 => H y (by omega) h2 h3), fun hr => ⟨fun y' h1 h2 h3 => ?_, fun e he => ((i6 hr).2 e he).trans ?_⟩⟩
          · rw [z, y, if_neg (by decide), if_neg (jI_neg (by omega)), l74, Option.bind_some, if_neg al0, em]
            exact ih
          · by_cases t : y' = x
            · rw [t, y, tst_in (by omega)]; exact al
            · exact (i6 hr).1 y' (by omega) h2 h3
          · rw [bit_orb, Bool.or_eq_true, decide_eq_true_eq]
            constructor
            · rintro ((t | t) | ⟨y', h1, h2, h3⟩)
              · exact Or.inl t
              · exact Or.inr ⟨x, Nat.le_refl _, by omega, z, by rw [y, hmk]; exact t⟩
              · exact Or.inr ⟨y', by omega, h2, h3⟩
            · rintro (t | ⟨y', h1, h2, h3, h4⟩)
              · exact Or.inl (Or.inl t)
              · by_cases t : y' = x
                · rw [t, y, hmk] at h4
                  exact Or.inl (Or.inr h4)
                · exact Or.inr ⟨y', by omega, h2, h3, h4⟩
      · refine ⟨h1, V1, false, start ?_, C1, O1, M1, fun r' e _ _ => by rw [e75], fun H => absurd (H x (Nat.le_refl _) (by omega) z) al, fun hr => by cases hr⟩
        rw [z, if_neg (by decide)]
        rcases ldW_is K hC w c q x with y | ⟨d, y, hd⟩
        · rw [y, if_pos (by decide)]
          rfl
        · rw [y, tst_in (by omega)] at al
          have l74 : ldI .int h1 (.ref 74) (jI d) = some (V 74 d) := by
            rw [← e74]
            exact C1.1.ld (a := 74) rfl (show d < 400 by omega)
          have al0 : V 74 d = 0 := Decidable.byContradiction (fun t => al (decide_eq_true t))
          rw [y, if_neg (jI_neg (by omega)), l74, Option.bind_some, if_pos al0]
          rfl
end
