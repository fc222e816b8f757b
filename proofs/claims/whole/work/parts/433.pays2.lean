/-! the reference's pays and finds -/
section
variable {S : Nat → Int32} {wd : Int64} {t : Nat} {fv nv : Value} {Z : Nat → Nat → Int64} {A : Nat → Nat → Int32} {m F : Nat → Nat} {B : Nat → Nat → Int32} {W : Nat → Int64} {G : Nat → Nat}
/-- the rows of what is paid stand below a horizon, and at it below a cell -/
def okBs (V : Nat → Nat → Int32) (C hz c : Nat) (bb : Nat → Nat → Int32 × Int32) : Prop := ∀ k d, d < C → (k < hz ∨ (k = hz ∧ d < c)) → V 159 (400 * k + d) = (bb k d).1 ∧ V 160 (400 * k + d) = (bb k d).2
theorem pays10_go {k2 : Nat → Int32 → aH → aO} {cs : Nat → Nat → Int32} {good : Nat → Bool} {hz : Nat} (hz2 : hz ≤ 20) :
    ∀ (n c f : Nat) (h : aH) (V : Nat → Nat → Int32), c + n = F 12 → n < f → RC h S wd t fv nv V Z A m F B W G → okCs h S A m cs → okLd V A m F → gdR V (F 12) good → okBs V (F 12) hz c (bst (ldV A m F) (F 13) (F 14) good cs) →
      ∃ h' V', s_X14_pays_10 k2 f 104 (jI hz) (jI c) h = k2 104 (jI (hz + 1)) h' ∧ RC h' S wd t fv nv V' Z A m F B W G ∧ Ou h h' ∧ Sm [148, 149, 159, 160] V V' ∧ okBs V' (F 12) hz (F 12) (bst (ldV A m F) (F 13) (F 14) good cs)
  | _, _, 0, _, _, _, hf, _, _, _, _, _ => by omega
  | 0, c, f + 1, h, V, hk, hf, C, K, L, hg, hb => by
    have hc : c = F 12 := by omega
    subst hc
    refine ⟨h, V, ?_, C, Ou.refl, Sm.refl, hb⟩
    obtain ⟨X, HT, hot, sim, KW, hC, s20, s21, s22, s23⟩ := id C
    have h400 := hC.2.2.2.2.1
    have g : gI h (.ref 104) 14 20 = some (jI (F 12)) := s20 ▸ gI_of (ltE (by decide)) X.1 rfl
    show s_X14_pays_10_b k2 (s_X14_pays_10 k2 f) 104 (jI hz) (jI (F 12)) h = _
    unfold s_X14_pays_10_b
    rw [g, Option.bind_some, if_pos ((jI_le (by omega) (by omega)).mpr (by omega)), jI_inc]
  | n + 1, c, f + 1, h, V, hk, hf, C, K, L, hg, hb => by
    obtain ⟨X, HT, hot, sim, KW, hC, s20, s21, s22, s23⟩ := id C
    have h400 := hC.2.2.2.2.1
    have h9 := hC.2.2.2.2.2.1
    have hP := hC.pos.2.1
    have g : gI h (.ref 104) 14 20 = some (jI (F 12)) := s20 ▸ gI_of (ltE (by decide)) X.1 rfl
    have g41 : gO h (.ref 104) 14 41 = some 159 := gO_of (ltE (by decide)) X.1 rfl
    have g27 : gO h (.ref 104) 14 27 = some 146 := gO_of (ltE (by decide)) X.1 rfl
    have l : ldI .boolean h (.ref 146) (jI c) = some (b01 (good c)) := (hg c (by omega)) ▸ X.ld (a := 146) rfl (show c < 400 by omega)
    obtain ⟨v0, hv0⟩ : ∃ v0 : Int32, v0 = if good c then 0 else 1000000 := ⟨_, rfl⟩
    obtain ⟨w0, hw0⟩ : ∃ w0 : Int32, w0 = if good c = true ∧ 0 < hz then 0 else -2 := ⟨_, rfl⟩
    have hidx : 400 * hz + c < 8400 := by omega
    obtain ⟨h1, e1, X1, O1⟩ := X.st (a := 159) (j := 400 * hz + c) rfl rfl hidx v0
    obtain ⟨h2, e2, X2, O2⟩ := X1.st (a := 160) (j := 400 * hz + c) rfl rfl hidx w0
    have C2 := (C.to X1 O1).to X2 O2
    have G42 : gO h1 (.ref 104) 14 42 = some 160 := gO_of (ltE (by decide)) X1.1 rfl
    have G27 : gO h1 (.ref 104) 14 27 = some 146 := gO_of (ltE (by decide)) X1.1 rfl
    have H27 : gO h2 (.ref 104) 14 27 = some 146 := gO_of (ltE (by decide)) X2.1 rfl
    have H41 : gO h2 (.ref 104) 14 41 = some 159 := gO_of (ltE (by decide)) X2.1 rfl
    have l1 : ldI .boolean h1 (.ref 146) (jI c) = some (b01 (good c)) := by
      have := X1.ld (a := 146) (j := c) rfl (show c < 400 by omega)
      rw [upd2_ne (by decide), hg c (by omega)] at this
      exact this
    have l2 : ldI .boolean h2 (.ref 146) (jI c) = some (b01 (good c)) := by
      have := X2.ld (a := 146) (j := c) rfl (show c < 400 by omega)
      rw [upd2_ne (by decide), upd2_ne (by decide), hg c (by omega)] at this
      exact this
    obtain ⟨V2, hV2⟩ : ∃ V2, V2 = upd2 (upd2 V 159 (upd (V 159) (400 * hz + c) v0)) 160 (upd (upd2 V 159 (upd (V 159) (400 * hz + c) v0) 160) (400 * hz + c) w0) := ⟨_, rfl⟩
    rw [← hV2] at C2
    have a159 : V2 159 = upd (V 159) (400 * hz + c) v0 := by rw [hV2, upd2_ne (by decide), upd2_eq]
    have a160 : V2 160 = upd (V 160) (400 * hz + c) w0 := by rw [hV2, upd2_eq, upd2_ne (by decide)]
    have M2 : Sm [148, 149, 159, 160] V V2 := by rw [hV2]; exact (Sm.refl.upd (by decide)).upd (by decide)
    have K2 := (K.ou O1).ou O2
    have L2 := L.sm (M2 151 (by decide))
    have hg2 : gdR V2 (F 12) good := fun d hd => by rw [M2 146 (by decide)]; exact hg d hd
    have O12 := O1.trans O2
    have nz1 : ¬ b01 true = 0 := by decide
    have ei : 400 * jI hz + jI c = jI (400 * hz + c) := by rw [show (400 : Int32) = jI 400 from rfl, jI_mul, jI_add]
    have e2' : ∀ w1, w1 = w0 → stI h1 (.ref 160) (jI (400 * hz + c)) w1 = some h2 := fun w1 hw => by rw [hw]; exact e2
    have start : ∀ {x : aO}, (if b01 (good c) = 0 then (s_X14_pays_10 k2 f 104 (jI hz) (jI (c + 1)) h2) else (if jI hz = 0 then (s_X14_pays_10 k2 f 104 (jI hz) (jI (c + 1)) h2) else (kO h2 104 14 (cI (s_X14_paidBy 104 (jI c) 0 (jI hz) h2) fun x98 h98 => (stI h98 (.ref 159) (jI (400 * hz + c)) x98).bind fun h101 => s_X14_pays_105 k2 (s_X14_pays_10 k2 f) FU 104 (jI hz) (jI c) (jI (400 * hz + c)) 1 h101)))) = x →
        s_X14_pays_10 k2 (f + 1) 104 (jI hz) (jI c) h = x := by
      intro x hx
      show s_X14_pays_10_b k2 (s_X14_pays_10 k2 f) 104 (jI hz) (jI c) h = _
      unfold s_X14_pays_10_b
      rw [g, Option.bind_some, if_neg (fun q => by have := (jI_le (by omega) (by omega)).mp q; omega), g41, Option.bind_some, g27, Option.bind_some, l, Option.bind_some, ei]
      have p72 : ∀ w1, w1 = w0 → s_X14_pays_72 k2 (s_X14_pays_10 k2 f) 104 (jI hz) (jI c) (jI (400 * hz + c)) w1 (jI (400 * hz + c)) 160 h1 = x := by
        intro w1 hw
        unfold s_X14_pays_72
        rw [e2' w1 hw, Option.bind_some, H27, Option.bind_some, l2, Option.bind_some, H41, Option.bind_some, jI_inc]
        exact hx
      have p47 : s_X14_pays_47 k2 (s_X14_pays_10 k2 f) 104 (jI hz) (jI c) (jI (400 * hz + c)) v0 (jI (400 * hz + c)) 159 h = x := by
        unfold s_X14_pays_47
        rw [e1, Option.bind_some, G42, Option.bind_some, G27, Option.bind_some, l1, Option.bind_some]
        unfold s_X14_pays_70
        cases q : good c with
        | false =>
          rw [if_pos b01_f]
          refine p72 (-2) ?_
          rw [hw0, q, if_neg (by simp)]
        | true =>
          rw [if_neg nz1]
          by_cases z : hz = 0
          · subst z
            rw [if_pos (by decide)]
            refine p72 (-2) ?_
            rw [hw0, if_neg (by simp)]
          · rw [if_neg (fun q => by have := (jI_le (k := 0) (by omega) (by omega)).mp q; omega)]
            refine p72 0 ?_
            rw [hw0, if_pos ⟨q, by omega⟩]
      cases q : good c with
      | false =>
        rw [q] at hv0
        rw [if_pos b01_f, show (1000000 : Int32) = v0 from hv0.symm]
        exact p47
      | true =>
        rw [q] at hv0
        rw [if_neg nz1]
        rw [show v0 = 0 from hv0] at p47
        exact p47
    have okb : ∀ V3 : Nat → Nat → Int32, (∀ i, i ≠ 400 * hz + c → V3 159 i = V 159 i ∧ V3 160 i = V 160 i) → V3 159 (400 * hz + c) = (bst (ldV A m F) (F 13) (F 14) good cs hz c).1 → V3 160 (400 * hz + c) = (bst (ldV A m F) (F 13) (F 14) good cs hz c).2 → okBs V3 (F 12) hz (c + 1) (bst (ldV A m F) (F 13) (F 14) good cs) := by
      intro V3 a1 a2 a3 k d hd hkd
      by_cases z : k = hz ∧ d = c
      · rw [z.1, z.2]
        exact ⟨a2, a3⟩
      · have hne : 400 * k + d ≠ 400 * hz + c := by omega
        rw [(a1 _ hne).1, (a1 _ hne).2]
        exact hb k d hd (by omega)
    have e22 : ∀ i, i ≠ 400 * hz + c → V2 159 i = V 159 i ∧ V2 160 i = V 160 i := fun i hi => by
      rw [a159, a160, upd_ne hi, upd_ne hi]
      exact ⟨rfl, rfl⟩
    -- nothing is chosen here
    have plain : (b01 (good c) = 0 ∨ hz = 0) → v0 = (bst (ldV A m F) (F 13) (F 14) good cs hz c).1 → w0 = (bst (ldV A m F) (F 13) (F 14) good cs hz c).2 →
        ∃ h' V', s_X14_pays_10 k2 (f + 1) 104 (jI hz) (jI c) h = k2 104 (jI (hz + 1)) h' ∧ RC h' S wd t fv nv V' Z A m F B W G ∧ Ou h h' ∧ Sm [148, 149, 159, 160] V V' ∧ okBs V' (F 12) hz (F 12) (bst (ldV A m F) (F 13) (F 14) good cs) := by
      intro z q1 q2
      obtain ⟨h', V', ih, i1, i2, i3, i4⟩ := pays10_go (k2 := k2) (cs := cs) (good := good) hz2 n (c + 1) f h2 V2 (by omega) (by omega) C2 K2 L2 hg2 (okb V2 e22 (by rw [a159, upd_eq]; exact q1) (by rw [a160, upd_eq]; exact q2))
      refine ⟨h', V', ?_, i1, O12.trans i2, M2.trans i3, i4⟩
      apply start
      rcases z with z | z
      · rw [if_pos z]
        exact ih
      · rw [if_pos (show jI hz = 0 by rw [z]; rfl), ite_self]
        exact ih
    cases q : good c with
    | false =>
      refine plain (Or.inl (by rw [q]; rfl)) ?_ ?_
      · rw [hv0, q]
        cases hz with
        | zero => show _ = (if good c then (0 : Int32) else 1000000); rw [q]
        | succ k => show _ = (if good c then _ else ((1000000 : Int32), (-2 : Int32))).1; rw [q]; rfl
      · rw [hw0, q, if_neg (by simp)]
        cases hz with
        | zero => rfl
        | succ k => show _ = (if good c then _ else ((1000000 : Int32), (-2 : Int32))).2; rw [q]; rfl
    | true =>
      cases hz with
      | zero =>
        refine plain (Or.inr rfl) ?_ ?_
        · rw [hv0, q]
          show _ = (if good c then (0 : Int32) else 1000000)
          rw [q]
        · rw [hw0, if_neg (by simp)]
          rfl
      | succ kz =>
        have hbk : ∀ d, d < F 12 → V2 159 (400 * (kz + 1 - 1) + d) = (bst (ldV A m F) (F 13) (F 14) good cs kz d).1 := fun d hd => by
          rw [Nat.add_sub_cancel, (e22 _ (by omega)).1]
          exact (hb kz d hd (Or.inl (by omega))).1
        obtain ⟨h3, V3, e3, C3, O3, M3⟩ := paidBy_at (p := 0) (hz := kz + 1) (show c < F 12 by omega) hP (by omega) hz2 C2 K2 L2 hbk
        obtain ⟨h4, e4, X4, O4⟩ := C3.1.st (a := 159) (j := 400 * (kz + 1) + c) rfl rfl hidx (pdS (ldV A m F) (F 14) cs (fun d => (bst (ldV A m F) (F 13) (F 14) good cs kz d).1) c 0)
        have C4 := C3.to X4 O4
        obtain ⟨h5, V5, e5, C5, O5, M5, b1, b2, b3⟩ := pays105_go (k2 := k2) (k10 := s_X14_pays_10 k2 f) (cs := cs) (bs := fun d => (bst (ldV A m F) (F 13) (F 14) good cs kz d).1) (show c < F 12 by omega) (show 1 ≤ kz + 1 by omega) hz2 (F 13 - 1) 1 FU h4 _ (pdS (ldV A m F) (F 14) cs (fun d => (bst (ldV A m F) (F 13) (F 14) good cs kz d).1) c 0) 0 (by omega) (by unfold FU; omega) C4 ((K2.ou O3).ou O4) ((L2.sm (M3 151 (by decide))).sm (upd2_ne (by decide))) (fun d hd => by
          rw [upd2_eq, upd_ne (by omega), M3 159 (by decide)]
          exact hbk d hd) (by rw [upd2_eq, upd_eq]) (by rw [upd2_ne (by decide), M3 160 (by decide), a160, upd_eq, hw0, if_pos ⟨q, by omega⟩])
        have M25 : Sm [148, 149, 159, 160] V V5 := (M2.trans ((M3.mono (by decide)).upd (by decide))).trans M5
        have bst1 : bst (ldV A m F) (F 13) (F 14) good cs (kz + 1) c = mnG (pdS (ldV A m F) (F 14) cs (fun d => (bst (ldV A m F) (F 13) (F 14) good cs kz d).1) c) 1 (F 13 - 1) (pdS (ldV A m F) (F 14) cs (fun d => (bst (ldV A m F) (F 13) (F 14) good cs kz d).1) c 0) 0 := by
          show (if good c then _ else _) = _
          rw [q, if_pos rfl]
        obtain ⟨h', V', ih, i1, i2, i3, i4⟩ := pays10_go (k2 := k2) (cs := cs) (good := good) hz2 n (c + 1) f h5 V5 (by omega) (by omega) C5 (((K2.ou O3).ou O4).ou O5) (L.sm (M25 151 (by decide))) (fun d hd => by rw [M25 146 (by decide)]; exact hg d hd) (okb V5 (fun i hi => by
          rw [(b3 i hi).1, (b3 i hi).2, upd2_eq, upd_ne hi, upd2_ne (by decide), M3 159 (by decide), M3 160 (by decide)]
          exact e22 i hi) (by rw [b1, bst1]) (by rw [b2, bst1]))
        refine ⟨h', V', ?_, i1, (((O12.trans O3).trans O4).trans O5).trans i2, M25.trans i3, i4⟩
        apply start
        have e3' : s_X14_paidBy 104 (jI c) 0 (jI (kz + 1)) h2 = _ := e3
        have e5' : s_X14_pays_105 k2 (s_X14_pays_10 k2 f) FU 104 (jI (kz + 1)) (jI c) (jI (400 * (kz + 1) + c)) 1 h4 = _ := e5
        rw [q, if_neg nz1, if_neg (fun z => by have := (jI_inj (k := 0) (by omega) (by omega)).mp z; omega), C2.kO, e3']
        simp only [cI, e4, Option.bind_some]
        rw [e5', ih]
theorem pays2_go {cs : Nat → Nat → Int32} {good : Nat → Bool} : ∀ (n hz f : Nat) (h : aH) (V : Nat → Nat → Int32), hz + n = 21 → n < f → RC h S wd t fv nv V Z A m F B W G → okCs h S A m cs → okLd V A m F → gdR V (F 12) good → okBs V (F 12) hz 0 (bst (ldV A m F) (F 13) (F 14) good cs) →
    ∃ h' V', s_X14_pays_2 f 104 (jI hz) h = some (.inl none, h') ∧ RC h' S wd t fv nv V' Z A m F B W G ∧ Ou h h' ∧ Sm [148, 149, 159, 160] V V' ∧ okBs V' (F 12) 21 0 (bst (ldV A m F) (F 13) (F 14) good cs)
  | _, _, 0, _, _, _, hf, _, _, _, _, _ => by omega
  | 0, hz, f + 1, h, V, hk, hf, C, K, L, hg, hb => by
    have hc : hz = 21 := by omega
    subst hc
    refine ⟨h, V, ?_, C, Ou.refl, Sm.refl, hb⟩
    show s_X14_pays_2_b (s_X14_pays_2 f) 104 (jI 21) h = _
    unfold s_X14_pays_2_b
    rw [if_pos (by decide)]
  | n + 1, hz, f + 1, h, V, hk, hf, C, K, L, hg, hb => by
    have h400 := C.2.2.2.2.2.1.2.2.2.2.1
    obtain ⟨h1, V1, e1, C1, O1, M1, b1⟩ := pays10_go (k2 := s_X14_pays_2 f) (cs := cs) (good := good) (show hz ≤ 20 by omega) (F 12) 0 FU h V (by omega) (by unfold FU; omega) C K L hg hb
    obtain ⟨h', V', ih, i1, i2, i3, i4⟩ := pays2_go (cs := cs) (good := good) n (hz + 1) f h1 V1 (by omega) (by omega) C1 (K.ou O1) (L.sm (M1 151 (by decide))) (fun d hd => by rw [M1 146 (by decide)]; exact hg d hd) (fun k d hd hkd => b1 k d hd (by omega))
    refine ⟨h', V', ?_, i1, O1.trans i2, M1.trans i3, i4⟩
    show s_X14_pays_2_b (s_X14_pays_2 f) 104 (jI hz) h = _
    unfold s_X14_pays_2_b
    rw [if_neg (fun q => by have := (jI_lt (j := 20) (by omega) (by omega)).mp q; omega)]
    have e1' : s_X14_pays_10 (s_X14_pays_2 f) FU 104 (jI hz) 0 h = _ := e1
    rw [e1', ih]
/-- what the reference has found: kept sets, layers, ticks, laws, what is paid -/
def okFd (V : Nat → Nat → Int32) (A : Nat → Nat → Int32) (m F : Nat → Nat) (good goal : Nat → Bool) (cs : Nat → Nat → Int32) : Prop :=
  okMb V (F 12) (F 13) (F 14) (ldV A m F) ∧ (∀ w, w ≤ 2 → ∀ d, d < 416 → bit (V 156) (13 * w) d = safeS (ldW A m F w) (F 13) (nWd A m F w) (F 12) good d) ∧ (∀ d, d < F 12 → V 155 d = laysS (ldV A m F) (F 13) (F 14) (F 12) good d) ∧
  (∀ d, d < F 12 → V 157 d = ticksS (ldV A m F) (F 13) (F 14) (F 12) good goal d) ∧ (∀ d, d < F 12 → V 158 d = lawsS (ldV A m F) (F 13) (F 14) (F 12) good goal d) ∧
  ∀ k d, d < F 12 → k ≤ 20 → V 159 (400 * k + d) = (bst (ldV A m F) (F 13) (F 14) good cs k d).1 ∧ V 160 (400 * k + d) = (bst (ldV A m F) (F 13) (F 14) good cs k d).2
theorem pZ_of {h : aH} {a ci k : Nat} {fs : List Value} {x : Int32} (ha : a < aE) (hc : h[a]? = some (.inr (ci, fs))) (hk : k < fs.length) (hx : x = 0 ∨ x = 1) : pZ h (.ref a) ci k x = some (h.set a (.inr (ci, fs.set k (.int x)))) := by
  unfold pZ
  rw [if_pos hx]
  exact pF_of ha hc hk
theorem RC.finds {h : aH} {V : Nat → Nat → Int32} (C : RC h S wd t fv nv V Z A m F B W G) {good goal : Nat → Bool} {cs : Nat → Nat → Int32} (hg : ∀ c, F 12 ≤ c → good c = false) (hgd : gdR V (F 12) good) (hgl : glR V (F 12) goal) (K : okCs h S A m cs) (L : okLd V A m F) (hfr : S 25 = 0 ∨ S 25 = 1) (hfd : S 25 = 1 → okFd V A m F good goal cs) :
    ∃ h' V', s_X14_finds 104 h = some (.inl none, h') ∧ RC h' (upd S 25 1) wd t fv nv V' Z A m F B W G ∧ Ou h h' ∧ Sm [148, 149, 152, 153, 154, 155, 156, 157, 158, 159, 160, 161] V V' ∧ okFd V' A m F good goal cs := by
  obtain ⟨X, HT, hot, sim, KW, hC, s20, s21, s22, s23⟩ := id C
  have g25 : gI h (.ref 104) 14 25 = some (S 25) := gI_of (ltE (by decide)) X.1 rfl
  rcases hfr with q | q
  · obtain ⟨h1, V1, e1, C1, O1, M1, mb1, a1, l1, f1⟩ := C.keeps (w := 2) (by decide) hg hgd
    obtain ⟨h2, V2, e2, C2, O2, M2, mb2, a2, l2, f2⟩ := C1.keeps (w := 1) (by decide) hg (fun d hd => by rw [M1 146 (by decide)]; exact hgd d hd)
    obtain ⟨h3, V3, e3, C3, O3, M3, mb3, a3, l3, f3⟩ := C2.keeps (w := 0) (by decide) hg (fun d hd => by rw [M2 146 (by decide), M1 146 (by decide)]; exact hgd d hd)
    rw [ldW_0, nWd_0 hC] at mb3 l3
    have hg3 : gdR V3 (F 12) good := fun d hd => by rw [M3 146 (by decide), M2 146 (by decide), M1 146 (by decide)]; exact hgd d hd
    obtain ⟨h4, V4, e4, C4, O4, M4, a4, b4⟩ := C3.reaches hg hg3 (fun d hd => by rw [M3 147 (by decide), M2 147 (by decide), M1 147 (by decide)]; exact hgl d hd) (ldV_is KW hC) mb3
    have O14 := ((O1.trans O2).trans O3).trans O4
    have M14 : Sm [148, 149, 152, 153, 154, 155, 156, 157, 158, 159, 160, 161] V V4 := (((M1.mono (by decide)).trans (M2.mono (by decide))).trans (M3.mono (by decide))).trans (M4.mono (by decide))
    obtain ⟨h5, V5, e5, C5, O5, M5, b5⟩ := pays2_go (cs := cs) (good := good) 21 0 FU h4 V4 rfl (by decide) C4 (K.ou O14) (L.sm (M14 151 (by decide))) (fun d hd => by rw [M14 146 (by decide)]; exact hgd d hd) (fun k d hd hkd => by omega)
    have r := C5.1.obj (S' := upd S 25 1) (wd' := wd) (t' := .ref t) (f' := fv) (n' := nv)
    have ep : pZ h5 (.ref 104) 14 25 1 = some (h5.set 104 (.inr (14, xFs (upd S 25 1) wd (.ref t) fv nv))) := pZ_of (ltE (by decide)) C5.1.1 (show 25 < 70 by decide) (Or.inr rfl)
    refine ⟨_, V5, ?_, ?_, (O14.trans O5).trans r.2, M14.trans (M5.mono (by decide)), ?_⟩
    · unfold s_X14_finds
      rw [g25, Option.bind_some, if_pos q]
      have e1' : s_X14_keeps 104 2 h = some (.inl none, h1) := e1
      have e2' : s_X14_keeps 104 1 h1 = some (.inl none, h2) := e2
      have e3' : s_X14_keeps 104 0 h2 = some (.inl none, h3) := e3
      have e5' : s_X14_pays 104 h4 = some (.inl none, h5) := e5
      have sc : ∀ f, s_X14_finds_10 (f + 1) = s_X14_finds_10_b (s_X14_finds_10 f) := fun f => rfl
      have fu : FU = 999996 + 1 + 1 + 1 + 1 := rfl
      rw [fu, sc]
      unfold s_X14_finds_10_b
      rw [if_neg (by decide), C.kO, e1']
      simp only [cN]
      rw [show (2 : Int32) + (-1) = 1 by decide, sc]
      unfold s_X14_finds_10_b
      rw [if_neg (by decide), C1.kO, e2']
      simp only [cN]
      rw [show (1 : Int32) + (-1) = 0 by decide, sc]
      unfold s_X14_finds_10_b
      rw [if_neg (by decide), C2.kO, e3']
      simp only [cN]
      rw [show (0 : Int32) + (-1) = -1 by decide, sc]
      unfold s_X14_finds_10_b
      rw [if_pos (by decide), C3.kO, e4]
      simp only [cN, C4.kO, e5', ep, Option.bind_some]
    · obtain ⟨-, c2, c3, c4, c5, c6, c7, c8, c9, c10⟩ := C5
      exact ⟨r.1, c2.ou r.2 c3, c3, c4, c5, c6, by rw [upd_ne (by decide)]; exact c7, by rw [upd_ne (by decide)]; exact c8, by rw [upd_ne (by decide)]; exact c9, by rw [upd_ne (by decide)]; exact c10⟩
    · refine ⟨(mb3.sm (M4 161 (by decide)) (M4 152 (by decide))).sm (M5 161 (by decide)) (M5 152 (by decide)), ?_, ?_, ?_, ?_, ?_⟩
      · intro w hw d hd
        have e156 : V5 156 = V3 156 := by rw [M5 156 (by decide), M4 156 (by decide)]
        rw [e156]
        match w, hw with
        | 0, _ => exact a3 d hd
        | 1, _ =>
          rw [← a2 d hd]
          unfold bit
          rw [f3 _ (Or.inr (by omega))]
        | 2, _ =>
          rw [← a1 d hd]
          unfold bit
          rw [f3 _ (Or.inr (by omega)), f2 _ (Or.inr (by omega))]
      · intro d hd
        rw [M5 155 (by decide), M4 155 (by decide)]
        exact l3 d hd
      · intro d hd
        rw [M5 157 (by decide)]
        exact a4 d hd
      · intro d hd
        rw [M5 158 (by decide)]
        exact b4 d hd
      · intro k d hd hk
        exact b5 k d hd (Or.inl (by omega))
  · refine ⟨h, V, ?_, ?_, Ou.refl, Sm.refl, hfd q⟩
    · unfold s_X14_finds
      rw [g25, Option.bind_some, if_neg (by rw [q]; decide)]
    · have e : upd S 25 1 = S := by
        funext k
        by_cases z : k = 25
        · rw [z, upd_eq, q]
        · rw [upd_ne z]
      rw [e]
      exact C
end
