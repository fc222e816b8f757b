/-! the class's settle as a whole -/
section
variable {Z : Nat → Nat → Int64} {D Ln : Nat → Nat} {b : Nat} {A : Nat → Nat → Int32} {N : Nat → Int64} {m F : Nat → Nat}
theorem settle26_go {S : Nat → Nat → Int32} {good : Nat → Bool} : ∀ (n c f : Nat) (h : aH) (V : Nat → Nat → Int32), c + n = F 12 → n < f → CC h S V Z D Ln b A N m F → gdC V good →
    ∃ h' V', s_X7_settle_26 f 69 (jI c) h = s_X7_settle_84 FU 69 0 h' ∧ CC h' S V' Z D Ln b A N m F ∧ Oc D h h' ∧ Sm [71, 72] V V' ∧ (∀ d, c ≤ d → d < F 12 → V' 71 d = 0 ∧ ∀ q, q < 32 → bitI (V' 72 d) q = (good d && decide (q < F 13))) ∧ ∀ d, d < c → V' 71 d = V 71 d ∧ V' 72 d = V 72 d
  | _, _, 0, _, _, _, hf, _, _ => by omega
  | 0, c, f + 1, h, V, hk, hf, C, hg => by
    obtain ⟨X, HM, K, hC, hw⟩ := id C
    have h400 := hC.2.2.2.2.1
    refine ⟨h, V, ?_, C, Oc.refl, Sm.refl, fun d h1 h2 => by omega, fun _ _ => ⟨rfl, rfl⟩⟩
    have g0 : gO h (.ref 69) 7 0 = some 3 := gO_of (ltE (by decide)) (X.1 69 rfl) rfl
    have f12 : gI h (.ref 3) 2 12 = some (jI (F 12)) := gI_of (ltE (by decide)) HM.2.1 rfl
    show s_X7_settle_26_b (s_X7_settle_26 f) 69 (jI c) h = _
    unfold s_X7_settle_26_b
    rw [g0, Option.bind_some, f12, Option.bind_some, if_pos ((jI_le (by omega) (by omega)).mpr (by omega))]
  | n + 1, c, f + 1, h, V, hk, hf, C, hg => by
    obtain ⟨X, HM, K, hC, hw⟩ := id C
    have h400 := hC.2.2.2.2.1
    have h9 := hC.2.2.2.2.2.1
    have g0 : gO h (.ref 69) 7 0 = some 3 := gO_of (ltE (by decide)) (X.1 69 rfl) rfl
    have g8 : gO h (.ref 69) 7 8 = some 72 := gO_of (ltE (by decide)) (X.1 69 rfl) rfl
    have g2 : gO h (.ref 69) 7 2 = some 60 := gO_of (ltE (by decide)) (X.1 69 rfl) rfl
    have f12 : gI h (.ref 3) 2 12 = some (jI (F 12)) := gI_of (ltE (by decide)) HM.2.1 rfl
    have f13 : gI h (.ref 3) 2 13 = some (jI (F 13)) := gI_of (ltE (by decide)) HM.2.1 rfl
    have ig := isGood_at X hg (c := c) (by omega)
    obtain ⟨x, hx⟩ : ∃ x : Int32, x = if good c then ((1 : Int32) <<< (jI (F 13) &&& 31)) - 1 else 0 := ⟨_, rfl⟩
    have xb : ∀ q, q < 32 → bitI x q = (good c && decide (q < F 13)) := fun q hq => by
      rw [hx]
      cases z : good c with
      | true =>
        rw [if_pos rfl, mask_bits (F 13) (by omega) q hq]
        rfl
      | false =>
        rw [if_neg (by decide)]
        exact bitI_zero.mp rfl q hq
    obtain ⟨h1, e1, X1, O1⟩ := X.st (a := 72) (j := c) rfl (show c < 400 by omega) x
    have g7 : gO h1 (.ref 69) 7 7 = some 71 := gO_of (ltE (by decide)) (X1.1 69 rfl) rfl
    obtain ⟨h2, e2, X2, O2⟩ := X1.st (a := 71) (j := c) rfl (show c < 400 by omega) 0
    obtain ⟨h', V', ih, i1, i2, i3, i4, i5⟩ := settle26_go (good := good) n (c + 1) f h2 _ (by omega) (by omega) ((C.to X1 O1 rfl).to X2 O2 rfl) (fun d hd => by rw [upd2_ne (by decide), upd2_ne (by decide)]; exact hg d hd)
    refine ⟨h', V', ?_, i1, (O1.trans O2).trans i2, ((Sm.refl.upd (by decide)).upd (by decide)).trans i3, fun d d1 d2 => ?_, fun d hd => ?_⟩
    · have p68 : ∀ y, y = x → s_X7_settle_68 (s_X7_settle_26 f) 69 (jI c) y (jI c) 72 h = s_X7_settle_84 FU 69 0 h' := by
        intro y hy
        unfold s_X7_settle_68
        rw [hy, e1, Option.bind_some, g7, Option.bind_some, e2, Option.bind_some, jI_inc]
        exact ih
      show s_X7_settle_26_b (s_X7_settle_26 f) 69 (jI c) h = _
      unfold s_X7_settle_26_b
      simp only [g0, f12, f13, g8, g2, Option.bind_some]
      rw [if_neg (fun q => by have := (jI_le (by omega) (by omega)).mp q; omega), kO_of (ltE (by decide)) (X.1 60 rfl), ig]
      simp only [cI, g0, f13, Option.bind_some]
      cases z : good c with
      | false =>
        rw [if_pos b01_f]
        exact p68 0 (by rw [hx, z]; rfl)
      | true =>
        rw [if_neg (show ¬ b01 true = 0 by decide)]
        exact p68 _ (by rw [hx, z]; rfl)
    · by_cases y : d = c
      · rw [y, (i5 c (by omega)).1, (i5 c (by omega)).2, upd2_eq, upd_eq, upd2_ne (by decide), upd2_eq, upd_eq]
        exact ⟨rfl, xb⟩
      · exact i4 d (by omega) d2
    · rw [(i5 d (by omega)).1, (i5 d (by omega)).2, upd2_eq, upd_ne (by omega), upd2_ne (by decide), upd2_ne (by decide), upd2_eq, upd_ne (by omega)]
      exact ⟨rfl, rfl⟩
theorem settle84_go {S : Nat → Nat → Int32} : ∀ (n k f : Nat) (h : aH) (V : Nat → Nat → Int32), k + n = 13 → n < f → CC h S V Z D Ln b A N m F → (∀ j, j < k → V 76 j = ~~~ (V 62 j)) →
    ∃ h' V', s_X7_settle_84 f 69 (jI k) h = s_X7_settle_117 FU 69 1 1 h' ∧ CC h' S V' Z D Ln b A N m F ∧ Oc D h h' ∧ Sm [76] V V' ∧ ∀ j, j < 13 → V' 76 j = ~~~ (V 62 j)
  | _, _, 0, _, _, _, hf, _, _ => by omega
  | 0, k, f + 1, h, V, hk, hf, C, hz => by
    refine ⟨h, V, ?_, C, Oc.refl, Sm.refl, fun j hj => hz j (by omega)⟩
    show s_X7_settle_84_b (s_X7_settle_84 f) 69 (jI k) h = _
    unfold s_X7_settle_84_b
    rw [show (13 : Int32) = jI 13 from rfl, if_pos ((jI_le (by omega) (by omega)).mpr (by omega))]
  | n + 1, k, f + 1, h, V, hk, hf, C, hz => by
    have X := C.1
    have g12 : gO h (.ref 69) 7 12 = some 76 := gO_of (ltE (by decide)) (X.1 69 rfl) rfl
    have g2 : gO h (.ref 69) 7 2 = some 60 := gO_of (ltE (by decide)) (X.1 69 rfl) rfl
    have g4 : gO h (.ref 60) 10 4 = some 62 := gO_of (ltE (by decide)) (X.1 60 rfl) rfl
    have l : ldI .int h (.ref 62) (jI k) = some (V 62 k) := X.ld (a := 62) rfl (show k < 13 by omega)
    obtain ⟨h1, e1, X1, O1⟩ := X.st (a := 76) (j := k) rfl (show k < 13 by omega) (~~~ (V 62 k))
    obtain ⟨h', V', ih, i1, i2, i3, i4⟩ := settle84_go n (k + 1) f h1 _ (by omega) (by omega) (C.to X1 O1 rfl) (fun j hj => by
      rw [upd2_eq, upd2_ne (by decide)]
      by_cases z : j = k
      · rw [z, upd_eq]
      · rw [upd_ne z]; exact hz j (by omega))
    refine ⟨h', V', ?_, i1, O1.trans i2, (Sm.refl.upd (by decide)).trans i3, fun j hj => by rw [i4 j hj, upd2_ne (by decide)]⟩
    show s_X7_settle_84_b (s_X7_settle_84 f) 69 (jI k) h = _
    unfold s_X7_settle_84_b
    rw [show (13 : Int32) = jI 13 from rfl, if_neg (fun q => by have := (jI_le (by omega) (by omega)).mp q; omega), g12, Option.bind_some, g2, Option.bind_some, g4, Option.bind_some, l, Option.bind_some, xor_neg, e1, Option.bind_some, jI_inc]
    exact ih
/-- of an object's fields, one anew -/
theorem upd_self {S : Nat → Int32} {k : Nat} : upd S k (S k) = S := by
  funext j
  by_cases z : j = k
  · rw [z, upd_eq]
  · rw [upd_ne z]
theorem upd2_self {α : Type} {S : Nat → α} {k : Nat} : upd2 S k (S k) = S := by
  funext j
  by_cases z : j = k
  · rw [z, upd2_eq]
  · rw [upd2_ne z]
theorem CC.settle {S : Nat → Nat → Int32} {h : aH} {V : Nat → Nat → Int32} (C : CC h S V Z D Ln b A N m F) {good : Nat → Bool} (hg : ∀ c, F 12 ≤ c → good c = false) (hgd : gdC V good) (hgn : S 60 3 = jI (cntB good (F 12))) (M : okMv V A m F) (L : lenMv Ln F) (hs : S 69 4 = 0 ∨ S 69 4 = 1) (hok : S 69 4 = 1 → okSf S V A m F good) :
    ∃ h' V' x, s_X7_settle 69 h = some (.inl none, h') ∧ CC h' (upd2 S 69 (upd (upd (S 69) 4 1) 6 x)) V' Z D Ln b A N m F ∧ Oc D h h' ∧ Sm [71, 72, 76, 77] V V' ∧ okSf (upd2 S 69 (upd (upd (S 69) 4 1) 6 x)) V' A m F good := by
  obtain ⟨X, HM, K, hC, hw⟩ := id C
  have h400 := hC.2.2.2.2.1
  have g4 : gI h (.ref 69) 7 4 = some (S 69 4) := gI_of (ltE (by decide)) (X.1 69 rfl) rfl
  rcases hs with q | q
  · obtain ⟨S1, hS1⟩ : ∃ S1, S1 = upd2 S 69 (upd (S 69) 4 1) := ⟨_, rfl⟩
    have r1 := X.obj (a := 69) (g := upd (S 69) 4 1) rfl
    rw [← hS1] at r1
    obtain ⟨h1, e1, X1, O1⟩ : ∃ h1, pZ h (.ref 69) 7 4 1 = some h1 ∧ CW h1 S1 V Z D Ln b ∧ Oc D h h1 := by
      refine ⟨_, ?_, r1.1, r1.2⟩
      rw [pZ_of (ltE (by decide)) (X.1 69 rfl) (show 4 < 14 by decide) (Or.inr rfl), hS1]
      rfl
    have s60 : S1 60 3 = jI (cntB good (F 12)) := by rw [hS1, upd2_ne (by decide)]; exact hgn
    have g2 : gO h1 (.ref 69) 7 2 = some 60 := gO_of (ltE (by decide)) (X1.1 69 rfl) rfl
    have g3 : gI h1 (.ref 60) 10 3 = some (jI (cntB good (F 12))) := s60 ▸ gI_of (ltE (by decide)) (X1.1 60 rfl) rfl
    obtain ⟨S2, hS2⟩ : ∃ S2, S2 = upd2 S1 69 (upd (S1 69) 6 (jI (cntB good (F 12)))) := ⟨_, rfl⟩
    have r2 := X1.obj (a := 69) (g := upd (S1 69) 6 (jI (cntB good (F 12)))) rfl
    rw [← hS2] at r2
    obtain ⟨h2, e2, X2, O2⟩ : ∃ h2, pF h1 (.ref 69) 7 6 (.int (jI (cntB good (F 12)))) = some h2 ∧ CW h2 S2 V Z D Ln b ∧ Oc D h1 h2 := by
      refine ⟨_, ?_, r2.1, r2.2⟩
      rw [pF_of (ltE (by decide)) (X1.1 69 rfl) (show 6 < 14 by decide), hS2]
      rfl
    have C2 : CC h2 S2 V Z D Ln b A N m F := (C.to X1 O1 (by rw [hS1, upd2_ne (by decide)])).to X2 O2 (by rw [hS2, upd2_ne (by decide)])
    obtain ⟨h3, V3, e3, C3, O3, M3, a3, -⟩ := settle26_go (good := good) (F 12) 0 FU h2 V (by omega) (by unfold FU; omega) C2 hgd
    obtain ⟨h4, V4, e4, C4, O4, M4, a4⟩ := settle84_go 13 0 FU h3 V3 rfl (by decide) C3 (fun j hj => by omega)
    have M34 : Sm [71, 72, 76, 77] V V4 := (M3.mono (by decide)).trans (M4.mono (by decide))
    have inv : invS S2 V4 A m F good 0 := by
      refine ⟨fun c hc q hq => ?_, fun e he => ?_, fun c hc => ?_, by rw [hS2, upd2_eq, upd_eq]; rfl⟩
      · rw [M4 72 (by decide), (a3 c (Nat.zero_le _) hc).2 q hq, Bool.and_eq_true, decide_eq_true_eq]
        exact And.comm
      · show _ ↔ good e = false
        have : bit (V4 76) 0 e = !good e := by
          rw [← hgd e (by omega)]
          unfold bit
          rw [Nat.zero_add, a4 _ (by omega), M3 62 (by decide), not_bit _ (Nat.mod_lt _ (by decide))]
        rw [this]
        simp
      · rw [M4 71 (by decide), (a3 c (Nat.zero_le _) hc).1]
        show _ = if good c then (if good c then (0 : Int32) else -2) else 0
        cases good c <;> rfl
    obtain ⟨h5, V5, x, e5, C5, O5, M5, ok5⟩ := settle117_go hg FU 0 1 h4 S2 V4 (by omega) (by unfold FU; omega) (by decide) C4 ⟨fun c p w x1 x2 x3 => by rw [M34 58 (by decide)]; exact M.1 c p w x1 x2 x3, fun c p x1 x2 e he => by rw [M34 59 (by decide)]; exact M.2 c p x1 x2 e he⟩ L inv (fun z => by cases z)
    have eS : upd2 S2 69 (upd (S2 69) 6 x) = upd2 S 69 (upd (upd (S 69) 4 1) 6 x) := by
      rw [hS2, upd2_2, upd2_eq, hS1, upd2_2, upd2_eq]
      congr 1
      funext j
      by_cases z : j = 6
      · rw [z, upd_eq, upd_eq]
      · rw [upd_ne z, upd_ne z, upd_ne z]
    rw [eS] at C5 ok5
    refine ⟨h5, V5, x, ?_, C5, (((O1.trans O2).trans O3).trans O4).trans O5, M34.trans M5, ok5⟩
    have e3' : s_X7_settle_26 FU 69 0 h2 = s_X7_settle_84 FU 69 0 h3 := e3
    have e4' : s_X7_settle_84 FU 69 0 h3 = s_X7_settle_117 FU 69 1 1 h4 := e4
    have e5' : s_X7_settle_117 FU 69 1 1 h4 = some (.inl none, h5) := e5
    unfold s_X7_settle
    rw [g4, Option.bind_some, if_pos q, e1, Option.bind_some, g2, Option.bind_some, g3, Option.bind_some, e2, Option.bind_some, e3', e4', e5']
  · have eS : upd2 S 69 (upd (upd (S 69) 4 1) 6 (S 69 6)) = S := by
      have e1 : upd (S 69) 4 1 = S 69 := by rw [← q]; exact upd_self
      rw [e1, upd_self, upd2_self]
    refine ⟨h, V, S 69 6, ?_, by rw [eS]; exact C, Oc.refl, Sm.refl, by rw [eS]; exact hok q⟩
    unfold s_X7_settle
    rw [g4, Option.bind_some, if_neg (by rw [q]; decide)]
end
