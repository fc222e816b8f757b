/-! the class's probe -/
def dlB (fit : Nat → Bool) (ld : Nat → Int32) (k : Nat) : Bool := fit k && !anyR (fun j => fit j && decide (ld j = ld k)) 0 k
def tlG (al : Nat → Bool) (g : Nat → Nat) : Nat → Nat → Int32 → Int32 → Int32
  | _, 0, ch, _ => ch
  | p, n + 1, ch, mo => if al p then (if mo < jI (g p) then tlG al g (p + 1) n (jI p) (jI (g p)) else tlG al g (p + 1) n ch mo) else tlG al g (p + 1) n ch mo
section
variable {h : aH} {S V : Nat → Nat → Int32} {Z : Nat → Nat → Int64} {D Ln : Nat → Nat} {b : Nat} {A : Nat → Nat → Int32} {N : Nat → Int64} {m F : Nat → Nat}
theorem f15_le (C : okC A m F) : F 15 ≤ F 14 := by
  rw [C.2.2.2.1]
  exact Nat.le_mul_of_pos_left _ (prtN_pos _ _ _ _)
theorem dl46_go (C : CC h S V Z D Ln b A N m F) (M : okMv V A m F) (L : lenMv Ln F) {c p k : Nat} (hc : c < F 12) (hp : p < F 13) (hk : k < F 15) {x g nx : Int32} {k6 : Nat → Int32 → Int32 → Int32 → Int32 → Int32 → aH → aO} : ∀ (n j f : Nat) (q : Bool), j + n = k → n < f →
    s_X9_differentLeads_46 k6 f 92 (jI c) (jI p) x g (jI k) nx (b01 q) (jI j) h = s_X9_differentLeads_96 k6 92 (jI c) (jI p) x g (jI k) (b01 (q || anyR (fun j => bitI x j && decide (ldV A m F c p j = nx)) j n)) h
  | _, _, 0, _, _, hf => by omega
  | 0, j, f + 1, q, hj, hf => by
    have pos := C.2.2.2.1.pos
    show s_X9_differentLeads_46_b k6 (s_X9_differentLeads_46 k6 f) 92 (jI c) (jI p) x g (jI k) nx (b01 q) (jI j) h = s_X9_differentLeads_96 k6 92 (jI c) (jI p) x g (jI k) (b01 (q || false)) h
    unfold s_X9_differentLeads_46_b
    rw [if_pos ((jI_le (by omega) (by omega)).mpr (by omega)), Bool.or_false]
  | n + 1, j, f + 1, q, hj, hf => by
    have pos := C.2.2.2.1.pos
    have fl := f15_le C.2.2.2.1
    have g1 : gO h (.ref 92) 9 1 = some 56 := gO_of (ltE (by decide)) (C.1.1 92 rfl) rfl
    have ih := fun q => dl46_go C M L hc hp hk (x := x) (g := g) (nx := nx) (k6 := k6) n (j + 1) f q (by omega) (by omega)
    have i0 := ih false
    have i1 := ih true
    rw [b01_f] at i0
    rw [b01_t] at i1
    show s_X9_differentLeads_46_b k6 (s_X9_differentLeads_46 k6 f) 92 (jI c) (jI p) x g (jI k) nx (b01 q) (jI j) h = s_X9_differentLeads_96 k6 92 (jI c) (jI p) x g (jI k) (b01 (q || ((bitI x j && decide (ldV A m F c p j = nx)) || anyR (fun j => bitI x j && decide (ldV A m F c p j = nx)) (j + 1) n))) h
    unfold s_X9_differentLeads_46_b s_X9_differentLeads_87 s_X9_differentLeads_88
    rw [if_neg (fun z => by have := (jI_le (by omega) (by omega)).mp z; omega)]
    cases q with
    | true =>
      rw [if_neg (show ¬ b01 true = 0 by decide), Bool.true_or]
    | false =>
      rw [if_pos b01_f, Bool.false_or, jI_inc]
      cases z : bitI x j with
      | false =>
        rw [if_pos ((bitI_test (by omega)).mpr z), i0, Bool.false_or, Bool.false_and, Bool.false_or]
      | true =>
        rw [if_neg (fun u => by rw [bitI_test (by omega), z] at u; cases u), g1, Option.bind_some, kO_of (ltE (by decide)) (C.1.1 56 rfl), C.leadOf M L hc hp (show j < F 14 by omega)]
        simp only [cI]
        by_cases u : ldV A m F c p j = nx
        · rw [if_pos u, i1, decide_eq_true u, Bool.true_and, Bool.true_or]
        · rw [if_neg u, i0, decide_eq_false u, Bool.and_false, Bool.false_or]
theorem dl6_go (C : CC h S V Z D Ln b A N m F) (M : okMv V A m F) (L : lenMv Ln F) {c p : Nat} (hc : c < F 12) (hp : p < F 13) {x : Int32} : ∀ (n k f g : Nat), k + n = F 15 → n < f → g + n < 1000000 →
    s_X9_differentLeads_6 f 92 (jI c) (jI p) x (jI g) (jI k) h = some (.inl (some (.int (jI (g + cntR (dlB (bitI x) (ldV A m F c p)) k n)))), h)
  | _, _, 0, _, _, hf, _ => by omega
  | 0, k, f + 1, g, hk, hf, hg => by
    have pos := C.2.2.2.1.pos
    have g0 : gO h (.ref 92) 9 0 = some 3 := gO_of (ltE (by decide)) (C.1.1 92 rfl) rfl
    show s_X9_differentLeads_6_b (s_X9_differentLeads_6 f) 92 (jI c) (jI p) x (jI g) (jI k) h = _
    unfold s_X9_differentLeads_6_b
    rw [g0, Option.bind_some, C.f15, Option.bind_some, if_pos ((jI_le (by omega) (by omega)).mpr (by omega))]
    rfl
  | n + 1, k, f + 1, g, hk, hf, hg => by
    have pos := C.2.2.2.1.pos
    have fl := f15_le C.2.2.2.1
    have g0 : gO h (.ref 92) 9 0 = some 3 := gO_of (ltE (by decide)) (C.1.1 92 rfl) rfl
    have g1 : gO h (.ref 92) 9 1 = some 56 := gO_of (ltE (by decide)) (C.1.1 92 rfl) rfl
    have ih := fun g hg => dl6_go C M L hc hp (x := x) n (k + 1) f g (by omega) (by omega) hg
    show s_X9_differentLeads_6_b (s_X9_differentLeads_6 f) 92 (jI c) (jI p) x (jI g) (jI k) h = some (.inl (some (.int (jI (g + ((if dlB (bitI x) (ldV A m F c p) k then 1 else 0) + cntR (dlB (bitI x) (ldV A m F c p)) (k + 1) n))))), h)
    rw [← Nat.add_assoc]
    unfold s_X9_differentLeads_6_b
    rw [g0, Option.bind_some, C.f15, Option.bind_some, if_neg (fun z => by have := (jI_le (by omega) (by omega)).mp z; omega)]
    cases z : bitI x k with
    | false =>
      have e : dlB (bitI x) (ldV A m F c p) k = false := by unfold dlB; rw [z]; rfl
      rw [if_pos ((bitI_test (by omega)).mpr z), jI_inc, e]
      exact ih g (by omega)
    | true =>
      have e : dlB (bitI x) (ldV A m F c p) k = !anyR (fun j => bitI x j && decide (ldV A m F c p j = ldV A m F c p k)) 0 k := by unfold dlB; rw [z, Bool.true_and]
      rw [if_neg (fun u => by rw [bitI_test (by omega), z] at u; cases u), g1, Option.bind_some, kO_of (ltE (by decide)) (C.1.1 56 rfl), C.leadOf M L hc hp (show k < F 14 by omega)]
      simp only [cI]
      have d := dl46_go C M L hc hp (show k < F 15 by omega) (x := x) (g := jI g) (nx := ldV A m F c p k) (k6 := s_X9_differentLeads_6 f) k 0 FU false (by omega) (by unfold FU; omega)
      have d' : s_X9_differentLeads_46 (s_X9_differentLeads_6 f) FU 92 (jI c) (jI p) x (jI g) (jI k) (ldV A m F c p k) 0 0 h = _ := d
      rw [d', Bool.false_or, e]
      unfold s_X9_differentLeads_96 s_X9_differentLeads_108
      cases u : anyR (fun j => bitI x j && decide (ldV A m F c p j = ldV A m F c p k)) 0 k with
      | false =>
        rw [if_pos b01_f, jI_inc, jI_inc]
        exact ih (g + 1) (by omega)
      | true =>
        rw [if_neg (show ¬ b01 true = 0 by decide), Int32.add_zero, jI_inc]
        exact ih g (by omega)
theorem te14_go (C : CC h S V Z D Ln b A N m F) (M : okMv V A m F) (L : lenMv Ln F) {c : Nat} (hc : c < F 12) {al x : Int32} : ∀ (n p f : Nat) (ch mo : Int32), p + n = F 13 → n < f →
    s_X9_telling_14 f 92 (jI c) al x ch mo (jI p) h = some (.inl (some (.int (tlG (bitI al) (fun p => cntB (dlB (bitI x) (ldV A m F c p)) (F 15)) p n ch mo))), h)
  | _, _, 0, _, _, _, hf => by omega
  | 0, p, f + 1, ch, mo, hk, hf => by
    have h9 := C.2.2.2.1.2.2.2.2.2.1
    have g0 : gO h (.ref 92) 9 0 = some 3 := gO_of (ltE (by decide)) (C.1.1 92 rfl) rfl
    show s_X9_telling_14_b (s_X9_telling_14 f) 92 (jI c) al x ch mo (jI p) h = _
    unfold s_X9_telling_14_b
    rw [g0, Option.bind_some, C.f13, Option.bind_some, if_pos ((jI_le (by omega) (by omega)).mpr (by omega))]
    rfl
  | n + 1, p, f + 1, ch, mo, hk, hf => by
    have h9 := C.2.2.2.1.2.2.2.2.2.1
    have pos := C.2.2.2.1.pos
    have g0 : gO h (.ref 92) 9 0 = some 3 := gO_of (ltE (by decide)) (C.1.1 92 rfl) rfl
    have ih := fun ch mo => te14_go C M L hc (al := al) (x := x) n (p + 1) f ch mo (by omega) (by omega)
    have e0 : (0 : Nat) + cntR (dlB (bitI x) (ldV A m F c p)) 0 (F 15) = cntB (dlB (bitI x) (ldV A m F c p)) (F 15) := by
      have := cntR_B (dlB (bitI x) (ldV A m F c p)) (F 15) 0
      rw [Nat.zero_add] at this
      exact this
    have ed := dl6_go C M L hc (show p < F 13 by omega) (x := x) (F 15) 0 FU 0 (by omega) (by unfold FU; omega) (by omega)
    rw [e0] at ed
    have ed' : s_X9_differentLeads 92 (jI c) (jI p) x h = _ := ed
    show s_X9_telling_14_b (s_X9_telling_14 f) 92 (jI c) al x ch mo (jI p) h = some (.inl (some (.int (if bitI al p then (if mo < jI (cntB (dlB (bitI x) (ldV A m F c p)) (F 15)) then _ else _) else _))), h)
    unfold s_X9_telling_14_b
    rw [g0, Option.bind_some, C.f13, Option.bind_some, if_neg (fun z => by have := (jI_le (by omega) (by omega)).mp z; omega)]
    cases z : bitI al p with
    | false =>
      rw [if_pos ((bitI_test (by omega)).mpr z), jI_inc]
      exact ih ch mo
    | true =>
      rw [if_neg (fun u => by rw [bitI_test (by omega), z] at u; cases u), kO_of (ltE (by decide)) (C.1.1 92 rfl), ed', if_pos rfl]
      simp only [cI, jI_inc]
      by_cases u : mo < jI (cntB (dlB (bitI x) (ldV A m F c p)) (F 15))
      · rw [if_pos u, if_neg (i32_nle.mpr u)]
        exact ih _ _
      · rw [if_neg u, if_pos (i32_nlt.mp u)]
        exact ih _ _
end
section
variable {S V : Nat → Nat → Int32} {Z : Nat → Nat → Int64} {D Ln : Nat → Nat} {b : Nat} {A : Nat → Nat → Int32} {N : Nat → Int64} {m F : Nat → Nat} {good : Nat → Bool} {tp ta tv : Nat → Int32} {tk : Nat} {h : aH}
theorem CC.telling (C : CC h S V Z D Ln b A N m F) (M : okMv V A m F) (L : lenMv Ln F) (hg : gdC V good) (W : okWa S V Ln A m F good tp ta tv tk) {c : Nat} (hc : c < F 12) (al : Int32) :
    ∃ h' n y, s_X9_telling 92 (jI c) al h = some (.inl (some (.int (tlG (bitI al) (fun p => cntB (dlB (fun q => decide (q < F 15) && fiS A m F good tp ta tv 30 0 tk q) (ldV A m F c p)) (F 15)) 0 (F 13) (-1) (-1)))), h', n, y) ∧ afW h S V Z D Ln b A N m F good tp ta tv tk h' n y := by
  have h9 := C.2.2.2.1.2.2.2.2.2.1
  have pos := C.2.2.2.1.pos
  obtain ⟨h1, n1, y1, x, e1, ib, x1, V1, D1, L1, C1, O1, G1, M1, W1, j1, ct⟩ := C.fitting M L hg W
  have e2 := te14_go C1 (M.sm (M1 58 (by decide)) (M1 59 (by decide))) (by
    unfold lenMv
    rw [(j1 58 (by decide)).1, (j1 59 (by decide)).1]
    exact L) hc (al := al) (x := x) (F 13) 0 FU (-1) (-1) (by omega) (by unfold FU; omega)
  have e2' : s_X9_telling_14 FU 92 (jI c) al x (-1) (-1) 0 h1 = _ := e2
  have ge : (fun p => cntB (dlB (bitI x) (ldV A m F c p)) (F 15)) = fun p => cntB (dlB (fun q => decide (q < F 15) && fiS A m F good tp ta tv 30 0 tk q) (ldV A m F c p)) (F 15) := by
    funext p
    refine cntB_congr _ (fun k hk => ?_)
    unfold dlB
    rw [ib k (by omega)]
    congr 2
    refine anyR_congr _ _ (fun j _ hj => ?_)
    rw [ib j (by omega)]
  rw [ge] at e2'
  refine ⟨h1, 0 + n1, 0 + y1, ?_, x1, V1, D1, L1, C1, O1, G1, M1, W1, j1, by rw [Nat.zero_add, Nat.zero_add]; exact ct⟩
  unfold s_X9_telling
  rw [kO_of (ltE (by decide)) (C.1.1 92 rfl), e1]
  simp only [dI]
  rw [e2']
  simp only [wC]
  rw [ck_of (Nat.le_refl _) (Nat.le_refl _)]
end
