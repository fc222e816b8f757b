/-! the class's rounds of reaching -/
theorem fpF_is {ld : Nat → Nat → Nat → Int32} {n : Nat} {T : Nat → Bool} {c : Nat} : ∀ (k p : Nat), fpF ld n T c p k = -2 ∨ ∃ q, q < p + k ∧ fpF ld n T c p k = jI q
  | 0, _ => Or.inl rfl
  | k + 1, p => by
    show (if intoB (ld c p) n T then jI p else fpF ld n T c (p + 1) k) = -2 ∨ ∃ q, q < p + (k + 1) ∧ (if intoB (ld c p) n T then jI p else fpF ld n T c (p + 1) k) = jI q
    cases intoB (ld c p) n T with
    | true => exact Or.inr ⟨p, by omega, rfl⟩
    | false =>
      rcases fpF_is k (p + 1) with z | ⟨q, h1, h2⟩
      · exact Or.inl z
      · exact Or.inr ⟨q, by omega, h2⟩
theorem tkS_rng {ld : Nat → Nat → Nat → Int32} {P n : Nat} {good goal : Nat → Bool} : ∀ (r c : Nat), tkS ld P n good goal r c = -2 ∨ ∃ k, k ≤ r ∧ tkS ld P n good goal r c = jI k
  | 0, c => by
    show (if good c && goal c then (0 : Int32) else -2) = -2 ∨ ∃ k, k ≤ 0 ∧ (if good c && goal c then (0 : Int32) else -2) = jI k
    cases good c && goal c with
    | true => exact Or.inr ⟨0, Nat.le_refl _, rfl⟩
    | false => exact Or.inl rfl
  | r + 1, c => by
    have e : tkS ld P n good goal (r + 1) c = if !rcS ld P n good goal r c && rcS ld P n good goal (r + 1) c then jI (r + 1) else tkS ld P n good goal r c := rfl
    rw [e]
    cases !rcS ld P n good goal r c && rcS ld P n good goal (r + 1) c with
    | true => exact Or.inr ⟨r + 1, Nat.le_refl _, rfl⟩
    | false =>
      rcases tkS_rng r c with z | ⟨k, h1, h2⟩
      · exact Or.inl z
      · exact Or.inr ⟨k, by omega, h2⟩
theorem tkS_new {ld : Nat → Nat → Nat → Int32} {P n : Nat} {good goal : Nat → Bool} {r c : Nat} (hr : r < 1000000) : tkS ld P n good goal (r + 1) c = jI (r + 1) ↔ (rcS ld P n good goal r c = false ∧ rcS ld P n good goal (r + 1) c = true) := by
  have e : tkS ld P n good goal (r + 1) c = if !rcS ld P n good goal r c && rcS ld P n good goal (r + 1) c then jI (r + 1) else tkS ld P n good goal r c := rfl
  rw [e]
  cases z1 : rcS ld P n good goal r c with
  | false =>
    cases z2 : rcS ld P n good goal (r + 1) c with
    | true => exact ⟨fun _ => ⟨rfl, rfl⟩, fun _ => rfl⟩
    | false =>
      refine ⟨fun h => ?_, fun h => absurd h.2 (by decide)⟩
      have h : tkS ld P n good goal r c = jI (r + 1) := h
      rcases tkS_rng (ld := ld) (P := P) (n := n) (good := good) (goal := goal) r c with y | ⟨k, y1, y2⟩
      · exact absurd (h.symm.trans y) (jI_m2 (by omega))
      · have := (jI_inj (by omega) (by omega)).mp (h.symm.trans y2)
        omega
  | true =>
    refine ⟨fun h => ?_, fun h => absurd h.1 (by decide)⟩
    have h : tkS ld P n good goal r c = jI (r + 1) := h
    rcases tkS_rng (ld := ld) (P := P) (n := n) (good := good) (goal := goal) r c with y | ⟨k, y1, y2⟩
    · exact absurd (h.symm.trans y) (jI_m2 (by omega))
    · have := (jI_inj (by omega) (by omega)).mp (h.symm.trans y2)
      omega
section
variable {S : Nat → Nat → Int32} {Z : Nat → Nat → Int64} {D Ln : Nat → Nat} {b : Nat} {A : Nat → Nat → Int32} {N : Nat → Int64} {m F : Nat → Nat}
theorem rr2_go {r : Nat} (hr : r < 1000000) {good goal : Nat → Bool} (hg : ∀ c, F 12 ≤ c → good c = false) (L : lenMv Ln F) (L2 : F 12 * F 13 ≤ Ln 68) :
    ∀ (n c f : Nat) (h : aH) (V : Nat → Nat → Int32), c + n = F 12 → n < f → CC h S V Z D Ln b A N m F → okMv V A m F → gdC V good → (∀ d, d < 416 → bit (V 67) 0 d = rcS (ldV A m F) (F 13) (F 14) good goal r d) → watI V F →
      (∀ d, d < F 12 → V 65 d = if d < c then tkS (ldV A m F) (F 13) (F 14) good goal (r + 1) d else tkS (ldV A m F) (F 13) (F 14) good goal r d) → (∀ d, d < F 12 → V 66 d = if d < c then lwS (ldV A m F) (F 13) (F 14) good goal (r + 1) d else lwS (ldV A m F) (F 13) (F 14) good goal r d) →
      ∃ h' V', s_X10_reachRound_2 f 60 (jI (r + 1)) (jI c) h = s_X10_reachRound_74 FU 60 (jI (r + 1)) 0 0 h' ∧ CC h' S V' Z D Ln b A N m F ∧ Oc D h h' ∧ Sm [65, 66, 68] V V' ∧ watI V' F ∧
        (∀ d, d < F 12 → V' 65 d = tkS (ldV A m F) (F 13) (F 14) good goal (r + 1) d) ∧ ∀ d, d < F 12 → V' 66 d = lwS (ldV A m F) (F 13) (F 14) good goal (r + 1) d
  | _, _, 0, _, _, _, hf, _, _, _, _, _, _, _ => by omega
  | 0, c, f + 1, h, V, hk, hf, C, M, hgd, hT, hW, h1, h2 => by
    obtain ⟨X, HM, K, hC, hw⟩ := id C
    have h400 := hC.2.2.2.2.1
    refine ⟨h, V, ?_, C, Oc.refl, Sm.refl, hW, fun d hd => by rw [h1 d hd, if_pos (by omega)], fun d hd => by rw [h2 d hd, if_pos (by omega)]⟩
    have g0 : gO h (.ref 60) 10 0 = some 3 := gO_of (ltE (by decide)) (X.1 60 rfl) rfl
    have f12 : gI h (.ref 3) 2 12 = some (jI (F 12)) := gI_of (ltE (by decide)) HM.2.1 rfl
    show s_X10_reachRound_2_b (s_X10_reachRound_2 f) 60 (jI (r + 1)) (jI c) h = _
    unfold s_X10_reachRound_2_b
    rw [g0, Option.bind_some, f12, Option.bind_some, if_pos ((jI_le (by omega) (by omega)).mpr (by omega))]
  | n + 1, c, f + 1, h, V, hk, hf, C, M, hgd, hT, hW, h1, h2 => by
    obtain ⟨X, HM, K, hC, hw⟩ := id C
    have h400 := hC.2.2.2.2.1
    have h9 := hC.2.2.2.2.2.1
    have g0 : gO h (.ref 60) 10 0 = some 3 := gO_of (ltE (by decide)) (X.1 60 rfl) rfl
    have g8 : gO h (.ref 60) 10 8 = some 65 := gO_of (ltE (by decide)) (X.1 60 rfl) rfl
    have g9 : gO h (.ref 60) 10 9 = some 66 := gO_of (ltE (by decide)) (X.1 60 rfl) rfl
    have f12 : gI h (.ref 3) 2 12 = some (jI (F 12)) := gI_of (ltE (by decide)) HM.2.1 rfl
    have t0 : V 65 c = tkS (ldV A m F) (F 13) (F 14) good goal r c := by rw [h1 c (by omega), if_neg (Nat.lt_irrefl c)]
    have w0 : V 66 c = lwS (ldV A m F) (F 13) (F 14) good goal r c := by rw [h2 c (by omega), if_neg (Nat.lt_irrefl c)]
    have l1 : ldI .int h (.ref 65) (jI c) = some (tkS (ldV A m F) (F 13) (F 14) good goal r c) := t0 ▸ X.ld (a := 65) rfl (show c < 400 by omega)
    have ig := isGood_at X hgd (c := c) (by omega)
    have kk : ∀ {β : Type} {k : Option β}, kO h 60 10 k = k := fun {β k} => kO_of (ltE (by decide)) (X.1 60 rfl)
    have rc1 : rcS (ldV A m F) (F 13) (F 14) good goal (r + 1) c = (rcS (ldV A m F) (F 13) (F 14) good goal r c || (good c && canB (ldV A m F) (F 13) (F 14) (rcS (ldV A m F) (F 13) (F 14) good goal r) c)) := rfl
    have tk1 : tkS (ldV A m F) (F 13) (F 14) good goal (r + 1) c = if !rcS (ldV A m F) (F 13) (F 14) good goal r c && rcS (ldV A m F) (F 13) (F 14) good goal (r + 1) c then jI (r + 1) else tkS (ldV A m F) (F 13) (F 14) good goal r c := rfl
    have lw1 : lwS (ldV A m F) (F 13) (F 14) good goal (r + 1) c = if !rcS (ldV A m F) (F 13) (F 14) good goal r c && rcS (ldV A m F) (F 13) (F 14) good goal (r + 1) c then fpF (ldV A m F) (F 14) (rcS (ldV A m F) (F 13) (F 14) good goal r) c 0 (F 13) else lwS (ldV A m F) (F 13) (F 14) good goal r c := rfl
    have start : ∀ {x : aO}, (if tkS (ldV A m F) (F 13) (F 14) good goal r c = -2 then (if b01 (good c) = 0 then s_X10_reachRound_2 f 60 (jI (r + 1)) (jI (c + 1)) h else (cI (s_X10_pushIntoDone 60 (jI c) h) fun x39 h39 => (stI h39 (.ref 66) (jI c) x39).bind fun h42 => (gO h42 (.ref 60) 10 8).bind fun x44 => (gO h42 (.ref 60) 10 9).bind fun x49 => (ldI .int h42 (.ref x49) (jI c)).bind fun x53 => if 0 ≤ x53 then (s_X10_reachRound_63 (s_X10_reachRound_2 f) 60 (jI (r + 1)) (jI c) (jI (r + 1)) (jI c) x44 h42) else (s_X10_reachRound_63 (s_X10_reachRound_2 f) 60 (jI (r + 1)) (jI c) (-2) (jI c) x44 h42))) else s_X10_reachRound_2 f 60 (jI (r + 1)) (jI (c + 1)) h) = x → s_X10_reachRound_2 (f + 1) 60 (jI (r + 1)) (jI c) h = x := by
      intro x hx
      show s_X10_reachRound_2_b (s_X10_reachRound_2 f) 60 (jI (r + 1)) (jI c) h = _
      unfold s_X10_reachRound_2_b
      simp only [g0, f12, g8, l1, Option.bind_some, jI_inc]
      rw [if_neg (fun q => by have := (jI_le (by omega) (by omega)).mp q; omega)]
      simp only [kk, ig, cI, g9, Option.bind_some]
      exact hx
    have stp : ∀ V2 : Nat → Nat → Int32, (∀ d, d < F 12 → V2 65 d = if d = c then tkS (ldV A m F) (F 13) (F 14) good goal (r + 1) c else V 65 d) → (∀ d, d < F 12 → V2 66 d = if d = c then lwS (ldV A m F) (F 13) (F 14) good goal (r + 1) c else V 66 d) →
        (∀ d, d < F 12 → V2 65 d = if d < c + 1 then tkS (ldV A m F) (F 13) (F 14) good goal (r + 1) d else tkS (ldV A m F) (F 13) (F 14) good goal r d) ∧ (∀ d, d < F 12 → V2 66 d = if d < c + 1 then lwS (ldV A m F) (F 13) (F 14) good goal (r + 1) d else lwS (ldV A m F) (F 13) (F 14) good goal r d) := by
      intro V2 a1 a2
      refine ⟨fun d hd => ?_, fun d hd => ?_⟩
      · rw [a1 d hd]
        by_cases z : d = c
        · rw [if_pos z, if_pos (by omega), z]
        · rw [if_neg z, h1 d hd]
          by_cases z2 : d < c
          · rw [if_pos z2, if_pos (by omega)]
          · rw [if_neg z2, if_neg (by omega)]
      · rw [a2 d hd]
        by_cases z : d = c
        · rw [if_pos z, if_pos (by omega), z]
        · rw [if_neg z, h2 d hd]
          by_cases z2 : d < c
          · rw [if_pos z2, if_pos (by omega)]
          · rw [if_neg z2, if_neg (by omega)]
    have same : rcS (ldV A m F) (F 13) (F 14) good goal (r + 1) c = rcS (ldV A m F) (F 13) (F 14) good goal r c → (∀ {y : aO}, s_X10_reachRound_2 f 60 (jI (r + 1)) (jI (c + 1)) h = y → s_X10_reachRound_2 (f + 1) 60 (jI (r + 1)) (jI c) h = y) →
        ∃ h' V', s_X10_reachRound_2 (f + 1) 60 (jI (r + 1)) (jI c) h = s_X10_reachRound_74 FU 60 (jI (r + 1)) 0 0 h' ∧ CC h' S V' Z D Ln b A N m F ∧ Oc D h h' ∧ Sm [65, 66, 68] V V' ∧ watI V' F ∧
          (∀ d, d < F 12 → V' 65 d = tkS (ldV A m F) (F 13) (F 14) good goal (r + 1) d) ∧ ∀ d, d < F 12 → V' 66 d = lwS (ldV A m F) (F 13) (F 14) good goal (r + 1) d := by
      intro e go
      have te : tkS (ldV A m F) (F 13) (F 14) good goal (r + 1) c = tkS (ldV A m F) (F 13) (F 14) good goal r c := by
        rw [tk1, e]
        cases rcS (ldV A m F) (F 13) (F 14) good goal r c <;> rfl
      have we : lwS (ldV A m F) (F 13) (F 14) good goal (r + 1) c = lwS (ldV A m F) (F 13) (F 14) good goal r c := by
        rw [lw1, e]
        cases rcS (ldV A m F) (F 13) (F 14) good goal r c <;> rfl
      obtain ⟨s1, s2⟩ := stp V (fun d hd => by
        by_cases z : d = c
        · rw [if_pos z, z, t0, te]
        · rw [if_neg z]) (fun d hd => by
        by_cases z : d = c
        · rw [if_pos z, z, w0, we]
        · rw [if_neg z])
      obtain ⟨h', V', ih, i1⟩ := rr2_go hr hg L L2 n (c + 1) f h V (by omega) (by omega) C M hgd hT hW s1 s2
      exact ⟨h', V', go ih, i1⟩
    cases kz : rcS (ldV A m F) (F 13) (F 14) good goal r c with
    | true =>
      have tn : ¬ tkS (ldV A m F) (F 13) (F 14) good goal r c = -2 := fun z => by
        rw [(tkS_iff r c (by omega)).mp z] at kz
        cases kz
      exact same (by rw [rcS_le kz, kz]) (fun {y} hy => start (by rw [if_neg tn]; exact hy))
    | false =>
      have tn : tkS (ldV A m F) (F 13) (F 14) good goal r c = -2 := (tkS_iff r c (by omega)).mpr kz
      cases ka : good c with
      | false => exact same (by rw [rc1, kz, ka]; rfl) (fun {y} hy => start (by rw [if_pos tn, ka, if_pos b01_f]; exact hy))
      | true =>
        obtain ⟨hA, VA, eA, CA, OA, MA, WA⟩ := intoDone_at (rcS_out hg r (Nat.lt_irrefl _)) L L2 (show c < F 12 by omega) C M hT hW
        obtain ⟨x, hx⟩ : ∃ x, x = fpF (ldV A m F) (F 14) (rcS (ldV A m F) (F 13) (F 14) good goal r) c 0 (F 13) := ⟨_, rfl⟩
        rw [← hx] at eA
        have XA := CA.1
        obtain ⟨hB, eB, XB, OB⟩ := XA.st (a := 66) (j := c) rfl (show c < 400 by omega) x
        have G8 : gO hB (.ref 60) 10 8 = some 65 := gO_of (ltE (by decide)) (XB.1 60 rfl) rfl
        have G9 : gO hB (.ref 60) 10 9 = some 66 := gO_of (ltE (by decide)) (XB.1 60 rfl) rfl
        have lB : ldI .int hB (.ref 66) (jI c) = some x := by
          have := XB.ld (a := 66) (j := c) rfl (show c < 400 by omega)
          rw [upd2_eq, upd_eq] at this
          exact this
        have can := fpF_canB (ld := ldV A m F) (n := F 14) (T := rcS (ldV A m F) (F 13) (F 14) good goal r) (c := c) (P := F 13) (by omega)
        rw [← hx] at can
        -- both ends at once
        have fin : ∀ y : Int32, tkS (ldV A m F) (F 13) (F 14) good goal (r + 1) c = y → lwS (ldV A m F) (F 13) (F 14) good goal (r + 1) c = x → (if 0 ≤ x then s_X10_reachRound_63 (s_X10_reachRound_2 f) 60 (jI (r + 1)) (jI c) (jI (r + 1)) (jI c) 65 hB else s_X10_reachRound_63 (s_X10_reachRound_2 f) 60 (jI (r + 1)) (jI c) (-2) (jI c) 65 hB) = s_X10_reachRound_63 (s_X10_reachRound_2 f) 60 (jI (r + 1)) (jI c) y (jI c) 65 hB →
            ∃ h' V', s_X10_reachRound_2 (f + 1) 60 (jI (r + 1)) (jI c) h = s_X10_reachRound_74 FU 60 (jI (r + 1)) 0 0 h' ∧ CC h' S V' Z D Ln b A N m F ∧ Oc D h h' ∧ Sm [65, 66, 68] V V' ∧ watI V' F ∧
              (∀ d, d < F 12 → V' 65 d = tkS (ldV A m F) (F 13) (F 14) good goal (r + 1) d) ∧ ∀ d, d < F 12 → V' 66 d = lwS (ldV A m F) (F 13) (F 14) good goal (r + 1) d := by
          intro y q1 q2 q3
          obtain ⟨hD, eD, XD, OD⟩ := XB.st (a := 65) (j := c) rfl (show c < 400 by omega) y
          obtain ⟨VD, hVD⟩ : ∃ VD, VD = upd2 (upd2 VA 66 (upd (VA 66) c x)) 65 (upd (upd2 VA 66 (upd (VA 66) c x) 65) c y) := ⟨_, rfl⟩
          rw [← hVD] at XD
          have CD := (CA.to XB OB rfl).to XD OD rfl
          have MD : Sm [65, 66, 68] V VD := by rw [hVD]; exact ((MA.mono (by decide)).upd (by decide)).upd (by decide)
          obtain ⟨s1, s2⟩ := stp VD (fun d hd => by
            rw [hVD, upd2_eq, upd2_ne (by decide), MA 65 (by decide)]
            by_cases z : d = c
            · rw [if_pos z, z, upd_eq, q1]
            · rw [if_neg z, upd_ne z]) (fun d hd => by
            rw [hVD, upd2_ne (by decide), upd2_eq, MA 66 (by decide)]
            by_cases z : d = c
            · rw [if_pos z, z, upd_eq, q2]
            · rw [if_neg z, upd_ne z])
          obtain ⟨h', V', ih, i1, i2, i3, i4⟩ := rr2_go hr hg L L2 n (c + 1) f hD VD (by omega) (by omega) CD (M.sm (MD 58 (by decide)) (MD 59 (by decide))) (fun d hd => by rw [MD 62 (by decide)]; exact hgd d hd) (fun d hd => by rw [MD 67 (by decide)]; exact hT d hd) (WA.sm (by rw [hVD, upd2_ne (by decide), upd2_ne (by decide)]) (by rw [hVD, upd2_ne (by decide), upd2_ne (by decide)]) (by rw [hVD, upd2_ne (by decide), upd2_ne (by decide)])) s1 s2
          refine ⟨h', V', start ?_, i1, ((OA.trans OB).trans OD).trans i2, MD.trans i3, i4⟩
          rw [if_pos tn, ka, if_neg (show ¬ b01 true = 0 by decide), eA]
          simp only [cI, eB, Option.bind_some, G8, G9, lB]
          rw [q3]
          unfold s_X10_reachRound_63
          rw [eD, Option.bind_some, jI_inc]
          exact ih
        cases kc : canB (ldV A m F) (F 13) (F 14) (rcS (ldV A m F) (F 13) (F 14) good goal r) c with
        | false =>
          have xz : x = -2 := by
            by_cases z : x = -2
            · exact z
            · rw [can.mp z] at kc; cases kc
          have r1 : rcS (ldV A m F) (F 13) (F 14) good goal (r + 1) c = false := by rw [rc1, kz, ka, kc]; rfl
          refine fin (-2) (by rw [tk1, r1, Bool.and_false]; exact tn) (by rw [lw1, r1, Bool.and_false, xz]; exact lwS_no r c kz) ?_
          rw [xz, if_neg (by decide)]
        | true =>
          have r1 : rcS (ldV A m F) (F 13) (F 14) good goal (r + 1) c = true := by rw [rc1, kz, ka, kc]; rfl
          refine fin (jI (r + 1)) (by rw [tk1, kz, r1]; rfl) (by rw [lw1, kz, r1, hx]; rfl) ?_
          rcases fpF_is (ld := ldV A m F) (n := F 14) (T := rcS (ldV A m F) (F 13) (F 14) good goal r) (c := c) (F 13) 0 with z | ⟨q, z1, z2⟩
          · rw [← hx] at z
            exact absurd z (can.mpr kc)
          · rw [← hx] at z2
            rw [z2, if_pos (i32_nlt.mp (jI_neg (by omega)))]
theorem rr74_go {r : Nat} (hr : r < 1000000) {good goal : Nat → Bool} :
    ∀ (n c f : Nat) (h : aH) (V : Nat → Nat → Int32) (q : Bool), c + n = F 12 → n < f → CC h S V Z D Ln b A N m F → (∀ d, d < F 12 → V 65 d = tkS (ldV A m F) (F 13) (F 14) good goal (r + 1) d) → watI V F →
      (∀ d, d < 416 → bit (V 67) 0 d = if d < c then rcS (ldV A m F) (F 13) (F 14) good goal (r + 1) d else rcS (ldV A m F) (F 13) (F 14) good goal r d) →
      ∃ h' V' q', s_X10_reachRound_74 f 60 (jI (r + 1)) (b01 q) (jI c) h = some (.inl (some (.int (b01 q'))), h') ∧ CC h' S V' Z D Ln b A N m F ∧ Oc D h h' ∧ Sm [67] V V' ∧ watI V' F ∧
        (∀ d, d < 416 → bit (V' 67) 0 d = if d < F 12 then rcS (ldV A m F) (F 13) (F 14) good goal (r + 1) d else rcS (ldV A m F) (F 13) (F 14) good goal r d) ∧
        (q' = true ↔ q = true ∨ ∃ d, c ≤ d ∧ d < F 12 ∧ rcS (ldV A m F) (F 13) (F 14) good goal (r + 1) d = true ∧ rcS (ldV A m F) (F 13) (F 14) good goal r d = false)
  | _, _, 0, _, _, _, _, hf, _, _, _, _ => by omega
  | 0, c, f + 1, h, V, q, hk, hf, C, h1, hW, h2 => by
    obtain ⟨X, HM, K, hC, hw⟩ := id C
    have h400 := hC.2.2.2.2.1
    have hc : c = F 12 := by omega
    subst hc
    refine ⟨h, V, q, ?_, C, Oc.refl, Sm.refl, hW, h2, ⟨Or.inl, fun z => z.elim id (fun ⟨d, d1, d2, _⟩ => by omega)⟩⟩
    have g0 : gO h (.ref 60) 10 0 = some 3 := gO_of (ltE (by decide)) (X.1 60 rfl) rfl
    have f12 : gI h (.ref 3) 2 12 = some (jI (F 12)) := gI_of (ltE (by decide)) HM.2.1 rfl
    show s_X10_reachRound_74_b (s_X10_reachRound_74 f) 60 (jI (r + 1)) (b01 q) (jI (F 12)) h = _
    unfold s_X10_reachRound_74_b
    rw [g0, Option.bind_some, f12, Option.bind_some, if_pos ((jI_le (by omega) (by omega)).mpr (by omega))]
    cases q <;> rfl
  | n + 1, c, f + 1, h, V, q, hk, hf, C, h1, hW, h2 => by
    obtain ⟨X, HM, K, hC, hw⟩ := id C
    have h400 := hC.2.2.2.2.1
    have g0 : gO h (.ref 60) 10 0 = some 3 := gO_of (ltE (by decide)) (X.1 60 rfl) rfl
    have g8 : gO h (.ref 60) 10 8 = some 65 := gO_of (ltE (by decide)) (X.1 60 rfl) rfl
    have g10 : gO h (.ref 60) 10 10 = some 67 := gO_of (ltE (by decide)) (X.1 60 rfl) rfl
    have f12 : gI h (.ref 3) 2 12 = some (jI (F 12)) := gI_of (ltE (by decide)) HM.2.1 rfl
    have l1 : ldI .int h (.ref 65) (jI c) = some (tkS (ldV A m F) (F 13) (F 14) good goal (r + 1) c) := (h1 c (by omega)) ▸ X.ld (a := 65) rfl (show c < 400 by omega)
    have w := bitw_at X (a := 67) (c := c) rfl rfl (by omega)
    have b0 : bit (V 67) 0 c = rcS (ldV A m F) (F 13) (F 14) good goal r c := by rw [h2 c (by omega), if_neg (Nat.lt_irrefl c)]
    have start : ∀ {x : aO}, (if tkS (ldV A m F) (F 13) (F 14) good goal (r + 1) c = jI (r + 1) then ((stI h (.ref 67) (jI (c / 32)) (V 67 (c / 32) ||| b1 (c % 32))).bind fun h111 => s_X10_reachRound_74 f 60 (jI (r + 1)) 1 (jI (c + 1)) h111) else s_X10_reachRound_74 f 60 (jI (r + 1)) (b01 q) (jI (c + 1)) h) = x → s_X10_reachRound_74 (f + 1) 60 (jI (r + 1)) (b01 q) (jI c) h = x := by
      intro x hx
      show s_X10_reachRound_74_b (s_X10_reachRound_74 f) 60 (jI (r + 1)) (b01 q) (jI c) h = _
      unfold s_X10_reachRound_74_b
      rw [g0, Option.bind_some, f12, Option.bind_some, if_neg (fun q => by have := (jI_le (by omega) (by omega)).mp q; omega), g8, Option.bind_some, l1, Option.bind_some, g10, Option.bind_some, w.1, Option.bind_some, sh5_code c (by omega), b1_code c (by omega), jI_inc]
      exact hx
    by_cases z : tkS (ldV A m F) (F 13) (F 14) good goal (r + 1) c = jI (r + 1)
    · obtain ⟨n1, n2⟩ := (tkS_new hr).mp z
      obtain ⟨hA, eA, XA, OA⟩ := X.st (a := 67) (j := c / 32) rfl (show c / 32 < 13 by omega) (V 67 (c / 32) ||| b1 (c % 32))
      have eo : upd (V 67) (c / 32) (V 67 (c / 32) ||| b1 (c % 32)) = orb (V 67) 0 c := by
        unfold orb
        rw [Nat.zero_add]
      rw [eo] at XA
      obtain ⟨h', V', q', ih, i1, i2, i3, i4, i5, i6⟩ := rr74_go hr n (c + 1) f hA _ true (by omega) (by omega) (C.to XA OA rfl) (fun d hd => by rw [upd2_ne (by decide)]; exact h1 d hd) (hW.grow (upd2_ne (by decide)) (upd2_ne (by decide)) (fun j i hi hj => by
        rw [upd2_eq]
        unfold orb
        by_cases y : j = 0 + c / 32
        · rw [y, upd_eq, Int32.toBitVec_or, BitVec.getLsbD_or]
          rw [y] at hj
          rw [hj]
          rfl
        · rw [upd_ne y]; exact hj)) (fun d hd => by
        rw [upd2_eq, bit_orb]
        by_cases y : d = c
        · rw [y, decide_eq_true (show c = c from rfl), Bool.or_true, if_pos (by omega), n2]
        · rw [decide_eq_false y, Bool.or_false, h2 d hd]
          by_cases y2 : d < c
          · rw [if_pos y2, if_pos (by omega)]
          · rw [if_neg y2, if_neg (by omega)])
      refine ⟨h', V', q', start (by rw [if_pos z, eA, Option.bind_some]; exact ih), i1, OA.trans i2, (Sm.refl.upd (by decide)).trans i3, i4, i5, i6.trans ⟨fun _ => Or.inr ⟨c, Nat.le_refl _, by omega, n2, n1⟩, fun _ => Or.inl rfl⟩⟩
    · have e : rcS (ldV A m F) (F 13) (F 14) good goal (r + 1) c = rcS (ldV A m F) (F 13) (F 14) good goal r c := by
        cases y : rcS (ldV A m F) (F 13) (F 14) good goal r c with
        | true => exact rcS_le y
        | false =>
          cases y2 : rcS (ldV A m F) (F 13) (F 14) good goal (r + 1) c with
          | false => rfl
          | true => exact absurd ((tkS_new hr).mpr ⟨y, y2⟩) z
      obtain ⟨h', V', q', ih, i1, i2, i3, i4, i5, i6⟩ := rr74_go hr n (c + 1) f h V q (by omega) (by omega) C h1 hW (fun d hd => by
        rw [h2 d hd]
        by_cases y : d = c
        · rw [y, if_neg (Nat.lt_irrefl c), if_pos (by omega), e]
        · by_cases y2 : d < c
          · rw [if_pos y2, if_pos (by omega)]
          · rw [if_neg y2, if_neg (by omega)])
      refine ⟨h', V', q', start (by rw [if_neg z]; exact ih), i1, i2, i3, i4, i5, i6.trans (or_congr Iff.rfl ⟨fun ⟨d, d1, d2⟩ => ⟨d, by omega, d2⟩, fun ⟨d, d1, d2, d3, d4⟩ => ⟨d, ?_, d2, d3, d4⟩⟩)⟩
      have : d ≠ c := by
        rintro rfl
        rw [e, d4] at d3
        cases d3
      omega
end
