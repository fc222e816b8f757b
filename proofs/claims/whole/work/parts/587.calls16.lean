/-! calls: stays, gain -/
theorem or_zero {a b : Int32} : a ||| b = 0 ↔ a = 0 ∧ b = 0 := by
  constructor
  · intro h
    have hb : ∀ q, q < 32 → (bitI a q = false ∧ bitI b q = false) := by
      intro q hq
      have e : (a ||| b).toBitVec.getLsbD q = (0 : Int32).toBitVec.getLsbD q := by rw [h]
      rw [Int32.toBitVec_or, BitVec.getLsbD_or] at e
      have z : (0 : Int32).toBitVec.getLsbD q = false := BitVec.getLsbD_zero
      rw [z] at e
      unfold bitI
      cases q1 : a.toBitVec.getLsbD q <;> cases q2 : b.toBitVec.getLsbD q <;> rw [q1, q2] at e <;> simp_all
    have z : ∀ q, bitI 0 q = false := fun q => by unfold bitI; exact BitVec.getLsbD_zero
    exact ⟨bits_eq fun q hq => by rw [(hb q hq).1, z], bits_eq fun q hq => by rw [(hb q hq).2, z]⟩
  · rintro ⟨rfl, rfl⟩
    rfl
section
variable {γ : gSt} {τ : tSt}
theorem cN1.rw {cf : aH → aP} {x w : Int32} (hw : w ≠ 4) (e : ∀ h h1 S V Z D Ln, KN h S V Z D Ln 184 γ → pF h (.ref 0) 11 3 (.int w) = some h1 → cf h = some (.inl (some (.int x)), h1, 0, 0)) : cN1 cf x (qTw γ w) γ := by
  intro h S V Z D Ln K
  obtain ⟨h1, e1, K1, O1⟩ := K.tw hw
  exact ⟨h1, _, V, Z, e h h1 S V Z D Ln K e1, K1, Oa.of O1⟩
theorem rN1.rw {rf : aH → aO} {w : Int32} (e : ∀ h h1 h2, RN h γ → pF h (.ref 104) 14 0 (.int 0) = some h1 → RN h1 γ → s_X14_refused 104 w h1 = some (.inl (some (.int (-1))), h2) → rf h = some (.inl (some (.int (-1))), h2)) : rN1 rf (-1) (qTw γ w) γ := by
  intro h R
  obtain ⟨h1, e1, R1, O1⟩ := R.th 0
  obtain ⟨h2, e2, R2, O2⟩ := R1.refused w
  exact ⟨h2, e h h1 h2 R e1 R1 e2, R2, O1.trans O2⟩
theorem refuseW {w : Int32} {h h1 : aH} (e1 : pF h (.ref 0) 11 3 (.int w) = some h1) : s_X11_refused 0 w h = some (.inl (some (.int (-1))), h1) := refuse1 e1
theorem KN.scrZ {h h' : aH} {S V : Nat → Nat → Int32} {Z Z' : Nat → Nat → Int64} {D Ln : Nat → Nat} {b : Nat} (K : KN h S V Z D Ln b γ) (X : CW h' S V Z' D Ln b) (O : Oc D h h') (MZ : SmZ [86, 89, 90, 91] Z Z') : KN h' S V Z' D Ln b γ := by
  obtain ⟨kg, k02, A, N, F, H⟩ := K
  exact ⟨kg.scrZ X O MZ, k02, A, N, F, H.oc kg.1 O (Or.inl rfl)⟩
end
abbrev in9 (x : Int32) : Prop := -999 ≤ x ∧ x ≤ 999
theorem beyond_in {x : Int32} (q : in9 x) (h : aH) : s_X11_beyond x 999 h = some (.inl (some (.int 0)), h) := by
  unfold s_X11_beyond
  rw [if_neg (i32_nlt.mpr q.1), if_pos q.2]
  rfl
theorem beyond_out {x : Int32} (q : ¬ in9 x) (h : aH) : s_X11_beyond x 999 h = some (.inl (some (.int 1)), h) := by
  unfold s_X11_beyond
  by_cases z : x < -999
  · rw [if_pos z]
    rfl
  · rw [if_neg z, if_neg (fun z2 => q ⟨i32_nlt.mp z, z2⟩)]
    rfl
theorem in9_in {x : Int32} (q : in9 x) (h : aH) : s_X14_in x (-999) 999 h = some (.inl (some (.int 1)), h) := inR_span q.1 q.2 h
theorem in9_out {x : Int32} (q : ¬ in9 x) (h : aH) : s_X14_in x (-999) 999 h = some (.inl (some (.int 0)), h) := inR_spanN (by
  by_cases z : x < -999
  · exact Or.inl z
  · exact Or.inr (i32_nle.mp fun z2 => q ⟨i32_nlt.mp z, z2⟩)) h
theorem stayC_in {a b c d : Int32} (ha : in9 a) (hb : in9 b) (hc : in9 c) (hd : in9 d) (h : aH) : s_X11_stays 0 a b c d h = s_X11_stays_46 0 a b c d 0 h := by
  unfold s_X11_stays
  rw [cI_of (beyond_in ha h), if_pos rfl, cI_of (beyond_in hb h), if_pos rfl, cI_of (beyond_in hc h), if_pos rfl, cI_of (beyond_in hd h), if_pos rfl]
theorem stayR_in {a b c d : Int32} (ha : in9 a) (hb : in9 b) (hc : in9 c) (hd : in9 d) {h h1 : aH} (e1 : pF h (.ref 104) 14 0 (.int 0) = some h1) : s_X14_stays 104 a b c d h = if a = 0 ∧ b = 0 ∧ c = 0 ∧ d = 0 then s_X14_stays_75 104 h1 else s_X14_stays_81 104 a b c d h1 := by
  unfold s_X14_stays
  rw [e1, Option.bind_some, cI_of (in9_in ha h1), if_neg (by decide), cI_of (in9_in hb h1), if_neg (by decide), cI_of (in9_in hc h1), if_neg (by decide), cI_of (in9_in hd h1), if_neg (by decide)]
  by_cases z1 : a = 0 <;> by_cases z2 : b = 0 <;> by_cases z3 : c = 0 <;> by_cases z4 : d = 0 <;> simp [z1, z2, z3, z4]
theorem stayC_out {a b c d : Int32} (q : ¬ (in9 a ∧ in9 b ∧ in9 c ∧ in9 d)) (h : aH) : s_X11_stays 0 a b c d h = s_X11_stays_64 0 h := by
  have e : s_X11_stays_41 0 a b c d h = s_X11_stays_64 0 h := by
    unfold s_X11_stays_41 s_X11_stays_46
    rw [if_neg (by decide)]
  unfold s_X11_stays
  by_cases ha : in9 a
  · rw [cI_of (beyond_in ha h), if_pos rfl]
    by_cases hb : in9 b
    · rw [cI_of (beyond_in hb h), if_pos rfl]
      by_cases hc : in9 c
      · rw [cI_of (beyond_in hc h), if_pos rfl]
        by_cases hd : in9 d
        · exact absurd ⟨ha, hb, hc, hd⟩ q
        · rw [cI_of (beyond_out hd h), if_neg (by decide), e]
      · rw [cI_of (beyond_out hc h), if_neg (by decide), e]
    · rw [cI_of (beyond_out hb h), if_neg (by decide), e]
  · rw [cI_of (beyond_out ha h), if_neg (by decide), e]
theorem stayR_out {a b c d : Int32} (q : ¬ (in9 a ∧ in9 b ∧ in9 c ∧ in9 d)) {h h1 : aH} (e1 : pF h (.ref 104) 14 0 (.int 0) = some h1) : s_X14_stays 104 a b c d h = s_X14_stays_75 104 h1 := by
  unfold s_X14_stays
  rw [e1, Option.bind_some]
  by_cases ha : in9 a
  · rw [cI_of (in9_in ha h1), if_neg (by decide)]
    by_cases hb : in9 b
    · rw [cI_of (in9_in hb h1), if_neg (by decide)]
      by_cases hc : in9 c
      · rw [cI_of (in9_in hc h1), if_neg (by decide)]
        by_cases hd : in9 d
        · exact absurd ⟨ha, hb, hc, hd⟩ q
        · rw [cI_of (in9_out hd h1), if_pos rfl]
      · rw [cI_of (in9_out hc h1), if_pos rfl]
    · rw [cI_of (in9_out hb h1), if_pos rfl]
  · rw [cI_of (in9_out ha h1), if_pos rfl]
theorem stay46 {a b c d : Int32} (z : ¬ (a = 0 ∧ b = 0 ∧ c = 0 ∧ d = 0)) {h h1 h2 : aH} {x : Bool} (e1 : pF h (.ref 0) 11 3 (.int 0) = some h1) (g : gO h1 (.ref 0) 11 15 = some 81) (k : ∀ {β : Type} {y : Option β}, kO h1 81 1 y = y) (e2 : s_X1_rootsWithin 81 a b c d h1 = some (.inl (some (.int (b01 x))), h2)) : wC 0 0 (s_X11_stays_46 0 a b c d 0 h) = some (.inl (some (.int (b01 x))), h2, 0, 0) := by
  apply wC_of
  unfold s_X11_stays_46
  have nz : ¬ (((a ||| b) ||| c) ||| d) = 0 := fun t => z (by
    obtain ⟨t, t4⟩ := or_zero.mp t
    obtain ⟨t, t3⟩ := or_zero.mp t
    obtain ⟨t1, t2⟩ := or_zero.mp t
    exact ⟨t1, t2, t3, t4⟩)
  rw [if_pos rfl, if_neg nz, e1, Option.bind_some, g, Option.bind_some, k, cI_of e2]
  cases x with
  | false => exact if_pos (by decide)
  | true => exact if_neg (by decide)
theorem call_stays (a b c d : Int32) : cOK (fun h => wC 0 0 (s_X11_stays 0 a b c d h)) (s_X14_stays 104 a b c d) := by
  by_cases q : (in9 a ∧ in9 b ∧ in9 c ∧ in9 d) ∧ ¬ (a = 0 ∧ b = 0 ∧ c = 0 ∧ d = 0)
  · obtain ⟨⟨ha, hb, hc, hd⟩, z⟩ := q
    refine cOK.of (fun γ _ => ⟨b01 (scG (dgS b c d) (r4S a b c d)), qTw γ 0, ?_, ?_⟩) fun γ τ og ot lt => ⟨fun y => y = b01 (scG (dgS b c d) (r4S a b c d)), qTw γ 0, τ, one_x, ?_, rT1.th fun h h1 t2 S wd t f nv V Z B W G e1 R1 => ?_⟩
    · intro h S V Z D Ln K
      obtain ⟨h1, e1, K1, O1⟩ := K.tw (w := 0) (by decide)
      obtain ⟨h2, Z2, e2, X2, O2, MZ⟩ := rootsWithin_at K1.1.1 a b c d
      refine ⟨h2, _, V, Z2, ?_, K1.scrZ X2 O2 (MZ.mono (by decide)), Oa.of (O1.trans O2)⟩
      show wC 0 0 (s_X11_stays 0 a b c d h) = _
      rw [stayC_in ha hb hc hd]
      exact stay46 z e1 (gO_of (ltE (by decide)) (K1.1.1.1 0 rfl) rfl) (kO_of (ltE (by decide)) (K1.1.1.1 81 rfl)) e2
    · intro h R
      obtain ⟨h1, e1, R1, O1⟩ := R.th 0
      obtain ⟨S, wd, nv, V, Z, g, B, W, G, t⟩ := R1
      obtain ⟨h2, Z2, e2, X2, O2, MZ⟩ := stays81_at g.1 a b c d z
      refine ⟨h2, ?_, ⟨_, wd, nv, V, Z2, g.tw X2 O2 rfl (MZ 169 (by decide)) (MZ 170 (by decide)) (fun _ _ => rfl), B, W, G, t.ou O2 (Or.inl rfl)⟩, O1.trans O2⟩
      rw [stayR_in ha hb hc hd e1, if_neg z]
      exact e2
    · intro h S V Z D Ln N K
      obtain ⟨h1, e1, K1, O1⟩ := K.tw (w := 0) (by decide)
      obtain ⟨h2, Z2, e2, X2, O2, MZ⟩ := rootsWithin_at K1.1.1 a b c d
      refine ⟨_, h2, 0, 0, rfl, ?_, _, V, Z2, D, Ln, K1.scrZ X2 O2 (MZ.mono (by decide)), Oa.of (O1.trans O2), Gr.refl, Ct.z⟩
      show wC 0 0 (s_X11_stays 0 a b c d h) = _
      rw [stayC_in ha hb hc hd]
      exact stay46 z e1 (gO_of (ltE (by decide)) (K1.1.1.1 0 rfl) rfl) (kO_of (ltE (by decide)) (K1.1.1.1 81 rfl)) e2
    · obtain ⟨h2, Z2, e2, X2, O2, MZ⟩ := stays81_at R1.1.1 a b c d z
      have R2 := R1.tw (RC.toS R1.2.2.1 X2 O2 ⟨rfl, rfl, rfl, rfl⟩) O2 Sm.refl (MZ.mono (by decide)) smS.refl
      refine ⟨_, h2, rfl, ?_, R2.rt, Rf.ou O2⟩
      rw [stayR_in ha hb hc hd e1, if_neg z]
      exact e2
  · have ec : ∀ h h1, (∀ {β : Type} {y : Option β}, kO h 0 11 y = y) → pF h (.ref 0) 11 3 (.int 2) = some h1 → wC 0 0 (s_X11_stays 0 a b c d h) = some (.inl (some (.int (-1))), h1, 0, 0) := by
      intro h h1 k0 e1
      have e64 : s_X11_stays_64 0 h = some (.inl (some (.int (-1))), h1) := by
        unfold s_X11_stays_64
        rw [k0, cI_of (refuseW e1)]
      apply wC_of
      by_cases r : in9 a ∧ in9 b ∧ in9 c ∧ in9 d
      · obtain ⟨ha, hb, hc, hd⟩ := id r
        obtain ⟨rfl, rfl, rfl, rfl⟩ : a = 0 ∧ b = 0 ∧ c = 0 ∧ d = 0 := Decidable.by_contra fun z => q ⟨r, z⟩
        rw [stayC_in ha hb hc hd]
        unfold s_X11_stays_46
        rw [if_pos rfl, if_pos (by decide), e64]
      · rw [stayC_out r, e64]
    have er : ∀ h h1 h2, pF h (.ref 104) 14 0 (.int 0) = some h1 → (∀ {β : Type} {y : Option β}, kO h1 104 14 y = y) → s_X14_refused 104 2 h1 = some (.inl (some (.int (-1))), h2) → s_X14_stays 104 a b c d h = some (.inl (some (.int (-1))), h2) := by
      intro h h1 h2 e1 k0 e2
      have e75 : s_X14_stays_75 104 h1 = some (.inl (some (.int (-1))), h2) := by
        unfold s_X14_stays_75
        rw [k0, cI_of e2]
      by_cases r : in9 a ∧ in9 b ∧ in9 c ∧ in9 d
      · obtain ⟨ha, hb, hc, hd⟩ := id r
        rw [stayR_in ha hb hc hd e1, if_pos (Decidable.by_contra fun z => q ⟨r, z⟩), e75]
      · rw [stayR_out r e1, e75]
    exact cOK.of (fun γ _ => ⟨-1, qTw γ 2, cN1.rw (by decide) fun h h1 S V Z D Ln K e1 => ec h h1 K.k0 e1, rN1.rw fun h h1 h2 R e1 R1 e2 => er h h1 h2 e1 R1.k0 e2⟩) fun γ τ og ot lt => ⟨fun y => y = -1, qTw γ 2, τ, one_x, cT1.ref (by decide) fun h h1 S V Z D Ln N K e1 => ec h h1 K.k0 e1, rT1.ref (w := 2) fun h h1 h2 t2 S wd t f nv V Z B W G e1 R1 e2 => er h h1 h2 e1 R1.k0 e2⟩
