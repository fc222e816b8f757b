/-! calls: count, cell -/
theorem cOK.of2 {cf : aH → aP} {rf : aH → aO} (hN : ∀ γ, okγ γ → ∃ x γ1, cN1 cf x γ1 γ ∧ rN1 rf x γ1 γ) (hT : ∀ γ τ, okγ γ → okτ τ → liT τ → okSt (uA τ) (uM τ) (uF τ) → okW (uA τ) (uM τ) (uF τ) → okC (uA τ) (uM τ) (uF τ) → ∃ P γ1 τ1, (∀ a b, P a → P b → a = b) ∧ cT1 cf P γ1 τ1 γ τ ∧ rT1 rf P γ1 τ1 γ τ) : cOK cf rf := by
  intro h c z s
  rcases s with ⟨γ, M⟩ | ⟨γ, τ, t2, M⟩
  · have og : okγ γ := by
      obtain ⟨S, V, Z, D, Ln, K, -⟩ := M
      exact K.1.2.2.1
    obtain ⟨x, γ1, a, b⟩ := hN γ og
    exact M.go a b
  · have og : okγ γ ∧ okτ τ ∧ liT τ ∧ okSt (uA τ) (uM τ) (uF τ) ∧ okW (uA τ) (uM τ) (uF τ) ∧ okC (uA τ) (uM τ) (uF τ) := by
      obtain ⟨S, V, Z, D, Ln, N, K, -⟩ := M
      exact ⟨K.1.2.2.1, K.2.2.2.2.1, K.lim, K.2.2.2.1.okSt, K.2.2.1.2.2.1, K.2.2.1.2.2.2.1⟩
    obtain ⟨P, γ1, τ1, u, a, b⟩ := hT γ τ og.1 og.2.1 og.2.2.1 og.2.2.2.1 og.2.2.2.2.1 og.2.2.2.2.2
    exact M.go u a b
/-- the reference counts the good ones -/
theorem cg115_go {h : aH} {t2 : Nat} {γ : gSt} {τ : tSt} {S : Nat → Int32} {wd : Int64} {t f : Nat} {nv : Value} {V : Nat → Nat → Int32} {Z : Nat → Nat → Int64} {B : Nat → Nat → Int32} {W : Nat → Int64} {G : Nat → Nat} (R : RTx h t2 γ τ S wd t f nv V Z B W G) : ∀ (n c fu g : Nat), c + n = uF τ 12 → n < fu → g + n < 1000000 →
    s_X14_count_115 fu 104 (jI g) (jI c) h = some (.inl (some (.int (jI (g + cntR (uG τ) c n)))), h)
  | _, _, 0, _, _, hf, _ => absurd hf (Nat.not_lt_zero _)
  | 0, c, fu + 1, g, hn, _, _ => by
    have l := R.lim
    show s_X14_count_115_b (s_X14_count_115 fu) 104 (jI g) (jI c) h = _
    unfold s_X14_count_115_b
    rw [R.2.2.1.g20, Option.bind_some, if_pos ((jI_le (by omega) (by omega)).mpr (by omega))]
    rfl
  | n + 1, c, fu + 1, g, hn, hf, hg => by
    have l := R.lim
    have ih := cg115_go R n (c + 1) fu (g + (if uG τ c then 1 else 0)) (by omega) (by omega) (by split <;> omega)
    have g27 : gO h (.ref 104) 14 27 = some 146 := gO_of (ltE (by decide)) R.1.1.1 rfl
    have ld : ldI .boolean h (.ref 146) (jI c) = some (V 146 c) := R.1.1.ld (a := 146) rfl (show c < 400 by omega)
    rw [R.2.2.2.2.2.2.1 c (by omega)] at ld
    show s_X14_count_115_b (s_X14_count_115 fu) 104 (jI g) (jI c) h = _
    unfold s_X14_count_115_b
    rw [R.2.2.1.g20, Option.bind_some, if_neg (fun z => by have := (jI_le (by omega) (by omega)).mp z; omega), g27, Option.bind_some, ld, Option.bind_some]
    rw [show cntR (uG τ) c (n + 1) = (if uG τ c then 1 else 0) + cntR (uG τ) (c + 1) n from rfl, ← Nat.add_assoc]
    cases q : uG τ c with
    | true =>
      rw [q] at ih
      rw [if_neg (by decide)]
      unfold s_X14_count_138
      rw [jI_inc c, show jI g + 1 = jI (g + 1) from jI_inc g]
      exact ih
    | false =>
      rw [q] at ih
      rw [if_pos (by decide)]
      unfold s_X14_count_138
      rw [jI_inc c, show jI g + 0 = jI (g + 0) from jI_add g 0]
      exact ih
section
variable {h : aH} {t2 : Nat} {γ : gSt} {τ : tSt} {S : Nat → Int32} {wd : Int64} {t f : Nat} {nv : Value} {V : Nat → Nat → Int32} {Z : Nat → Nat → Int64} {B : Nat → Nat → Int32} {W : Nat → Int64} {G : Nat → Nat}
theorem RTx.isLinear (R : RTx h t2 γ τ S wd t f nv V Z B W G) (hSt : okSt (uA τ) (uM τ) (uF τ)) : ∃ h' S' V' Z', s_X14_isLinear 104 h = some (.inl (some (.int (b01 (linB (uA τ) (uM τ) (uF τ))))), h') ∧ RTx h' t2 γ τ S' wd t f nv V' Z' B W G ∧ Ou h h' ∧ ∀ a c, lin true (uA τ) (uM τ) (uF τ) = some (a, c) → okLr V' a c := by
  obtain ⟨h1, V1, Z1, e1, C1, O1, M1, MZ1, lr⟩ := R.2.2.1.isLinear hSt
  have e : linB (uA τ) (uM τ) (uF τ) = (lin true (uA τ) (uM τ) (uF τ)).isSome := lin_ans hSt R.lim.2.2.2.1.1 R.lim.2.2.2.1.2.2.2.2
  rw [← e] at e1
  exact ⟨h1, _, V1, Z1, e1, R.scr C1 O1 (M1.mono (by decide)) (fun k hk => MZ1 k (fun z => hk (by
    have z' : k = 162 ∨ k = 167 := by simpa using z
    rcases z' with rfl | rfl <;> decide))) (fun j j0 j1 j2 => upd_ne j2), O1, lr⟩
end
/-- what count answers -/
def cntS (γ : gSt) (τ : tSt) (x : Int32) : Int32 := if x = 11 then jI (qP γ) else if x = 5 then jI (uF τ 12) else if x = 6 then jI (uF τ 13) else if x = 7 then jI (uF τ 14) else if x = 8 then jI (uF τ 4) else if x = 9 then jI (cntB (uG τ) (uF τ 12)) else if x = 10 then b01 (linB (uA τ) (uM τ) (uF τ)) else if x = 12 then jI (uK τ) else if x = 13 then uN τ else if 0 ≤ x ∧ x ≤ 4 then jI (uM τ x.toNatClampNeg) else -1
theorem small_eq {x : Int32} (h1 : 0 ≤ x) (h2 : x ≤ 13) : ∃ k, k ≤ 13 ∧ x = jI k := by
  have a1 := Int32.le_iff_toInt_le.mp h1
  have a2 := Int32.le_iff_toInt_le.mp h2
  have e0 : (0 : Int32).toInt = 0 := by decide
  have e1 : (13 : Int32).toInt = 13 := by decide
  have e : x = jI x.toNatClampNeg := jI_of (i32_nlt.mpr h1)
  refine ⟨x.toNatClampNeg, ?_, e⟩
  unfold Int32.toNatClampNeg
  omega
theorem call_count (x : Int32) : cOK (fun h => wC 0 0 (s_X11_count 0 x h)) (s_X14_count 104 x) := by
  by_cases x11 : x = 11
  · subst x11
    refine cOK.of (fun γ _ => ⟨jI (qP γ), γ, cN1.same fun h S V Z D Ln K => ?_, rN1.same fun h h1 R e1 R1 => ?_⟩) fun γ τ og ot lt => ⟨fun a => a = jI (qP γ), γ, τ, one_x, cT1.same fun h S V Z D Ln N K => ?_, rT1.same fun h h1 t2 S wd t f nv V Z B W G e1 R1 => ?_⟩
    · have g1 : gI h (.ref 0) 11 1 = some (jI (qP γ)) := by rw [← K.1.2.2.2.1]; exact gI_of (ltE (by decide)) (K.1.1.1 0 rfl) rfl
      apply wC_of
      unfold s_X11_count
      rw [if_pos rfl, g1, Option.bind_some]
    · obtain ⟨S, wd, nv, V, Z, g, -⟩ := R1
      have g9 : gI h1 (.ref 104) 14 9 = some (jI (qP γ)) := by rw [← g.2.2.2.1]; exact g.1.gS rfl
      unfold s_X14_count
      rw [e1, Option.bind_some, if_pos rfl, g9, Option.bind_some]
    · have g1 : gI h (.ref 0) 11 1 = some (jI (qP γ)) := by rw [← K.1.2.2.2.1]; exact gI_of (ltE (by decide)) (K.1.1.1 0 rfl) rfl
      apply wC_of
      unfold s_X11_count
      rw [if_pos rfl, g1, Option.bind_some]
    · have g9 : gI h1 (.ref 104) 14 9 = some (jI (qP γ)) := by rw [← R1.1.2.2.2.1]; exact R1.1.1.gS rfl
      unfold s_X14_count
      rw [e1, Option.bind_some, if_pos rfl, g9, Option.bind_some]
  · refine cOK.of2 (fun γ _ => ⟨-1, γ, cN1.same fun h S V Z D Ln K => ?_, rN1.same fun h h1 R e1 R1 => ?_⟩) fun γ τ og ot lt hSt kW kC => ?_
    · apply wC_of
      unfold s_X11_count
      rw [if_neg x11, K.g2, Option.bind_some, if_pos rfl]
    · unfold s_X14_count
      rw [e1, Option.bind_some, if_neg x11, R1.tw, Option.bind_some]
    · by_cases hx : 0 ≤ x ∧ x ≤ 13
      · obtain ⟨hx1, hx2⟩ := hx
        have inn := fun h => inR_span hx1 hx2 h
        have refm : ∀ h h1 t2 S wd t f nv V Z B W G, pF h (.ref 104) 14 0 (.int 0) = some h1 → RTx h1 t2 γ τ S wd t f nv V Z B W G → s_X14_count 104 x h = (if x = 5 then ((gI h1 (.ref 104) 14 20).bind fun x89 => some (.inl (some (.int x89)), h1)) else (if x = 6 then ((gI h1 (.ref 104) 14 21).bind fun x94 => some (.inl (some (.int x94)), h1)) else (if x = 7 then ((gI h1 (.ref 104) 14 22).bind fun x99 => some (.inl (some (.int x99)), h1)) else (if x = 8 then ((gO h1 (.ref 104) 14 4).bind fun x104 => (gI h1 (.ref x104) 13 6).bind fun x107 => some (.inl (some (.int x107)), h1)) else (if x = 9 then (s_X14_count_115 FU 104 0 0 h1) else (if x = 10 then (kO h1 104 14 (cI (s_X14_isLinear 104 h1) fun x149 h149 => if x149 = 0 then (some (.inl (some (.int 0)), h149)) else (some (.inl (some (.int 1)), h149)))) else (if x = 11 then (s_X14_count_171 104 x h1) else (if x = 12 then ((gI h1 (.ref 104) 14 59).bind fun x162 => some (.inl (some (.int x162)), h1)) else (if x = 13 then ((gI h1 (.ref 104) 14 32).bind fun x167 => some (.inl (some (.int x167)), h1)) else (s_X14_count_171 104 x h1)))))))))) := by
          intro h h1 t2 S wd t f nv V Z B W G e1 R1
          unfold s_X14_count
          rw [e1, Option.bind_some, if_neg x11, R1.g4, Option.bind_some]
          dsimp only
          rw [cI_of (inn h1), if_neg (by decide)]
        obtain ⟨k, hk, rfl⟩ := small_eq hx1 hx2
        by_cases k10 : k = 10
        · subst k10
          refine ⟨fun a => a = b01 (linB (uA τ) (uM τ) (uF τ)), γ, τ, one_x, ?_, rT1.th fun h h1 t2 S wd t f nv V Z B W G e1 R1 => ?_⟩
          · intro h S V Z D Ln N K
            obtain ⟨h2, S2, V2, Z2, e2, K2, -, -, O2⟩ := K.holds
            have g15 : gO h (.ref 0) 11 15 = some 81 := gO_of (ltE (by decide)) (K.1.1.1 0 rfl) rfl
            refine ⟨_, h2, 0, 0, rfl, ?_, S2, V2, Z2, D, Ln, K2, Oa.of O2, Gr.refl, Ct.z⟩
            apply wC_of
            unfold s_X11_count
            rw [if_neg x11, K.g2, Option.bind_some, if_neg (by decide), if_pos hx1, if_pos (by decide), if_neg (by decide), if_neg (by decide), if_neg (by decide), if_neg (by decide), if_neg (by decide), if_pos (by decide), g15, Option.bind_some, kO_of (ltE (by decide)) (K.1.1.1 81 rfl), cI_of e2]
            cases linB (uA τ) (uM τ) (uF τ) with
            | true => rw [if_neg (by decide)]; rfl
            | false => rw [if_pos (by decide)]; rfl
          · obtain ⟨h2, S2, V2, Z2, e2, R2, O2, -⟩ := R1.isLinear hSt
            refine ⟨_, h2, rfl, ?_, R2.rt, Rf.ou O2⟩
            rw [refm h h1 t2 S wd t f nv V Z B W G e1 R1, if_neg (by decide), if_neg (by decide), if_neg (by decide), if_neg (by decide), if_neg (by decide), if_pos (by decide), R1.k0, cI_of e2]
            cases linB (uA τ) (uM τ) (uF τ) with
            | true => rw [if_neg (by decide)]; rfl
            | false => rw [if_pos (by decide)]; rfl
        · refine ⟨fun a => a = cntS γ τ (jI k), γ, τ, one_x, cT1.same fun h S V Z D Ln N K => ?_, rT1.same fun h h1 t2 S wd t f nv V Z B W G e1 R1 => ?_⟩
          · have g12 : gO h (.ref 0) 11 12 = some 60 := gO_of (ltE (by decide)) (K.1.1.1 0 rfl) rfl
            have g16 : gO h (.ref 0) 11 16 = some 92 := gO_of (ltE (by decide)) (K.1.1.1 0 rfl) rfl
            have g17 : gO h (.ref 0) 11 17 = some 99 := gO_of (ltE (by decide)) (K.1.1.1 0 rfl) rfl
            have s9 : gI h (.ref 60) 10 3 = some (jI (cntB (uG τ) (uF τ 12))) := by rw [← K.2.2.2.2.2.1.1.2.2.1]; exact gI_of (ltE (by decide)) (K.1.1.1 60 rfl) rfl
            have s12 : gI h (.ref 92) 9 4 = some (jI (uK τ)) := by rw [← K.wa.2.1]; exact gI_of (ltE (by decide)) (K.1.1.1 92 rfl) rfl
            have s13 : gI h (.ref 99) 5 8 = some (uN τ) := by rw [← K.2.2.2.2.2.2.2.2.2.2.2]; exact gI_of (ltE (by decide)) (K.1.1.1 99 rfl) rfl
            have s8 : gI h (.ref 3) 2 4 = some (jI (uF τ 4)) := gI_of (ltE (by decide)) K.2.2.1.2.1.2.1 rfl
            apply wC_of
            unfold s_X11_count
            rw [if_neg x11, K.g2, Option.bind_some, if_neg (by decide), if_pos hx1]
            have ks : k = 0 ∨ k = 1 ∨ k = 2 ∨ k = 3 ∨ k = 4 ∨ k = 5 ∨ k = 6 ∨ k = 7 ∨ k = 8 ∨ k = 9 ∨ k = 11 ∨ k = 12 ∨ k = 13 := by omega
            rcases ks with rfl | rfl | rfl | rfl | rfl | rfl | rfl | rfl | rfl | rfl | rfl | rfl | rfl
            · rw [if_neg (by decide), K.g7, Option.bind_some, K.mn, Option.bind_some, K.ldm (by decide), Option.bind_some]; rfl
            · rw [if_neg (by decide), K.g7, Option.bind_some, K.mn, Option.bind_some, K.ldm (by decide), Option.bind_some]; rfl
            · rw [if_neg (by decide), K.g7, Option.bind_some, K.mn, Option.bind_some, K.ldm (by decide), Option.bind_some]; rfl
            · rw [if_neg (by decide), K.g7, Option.bind_some, K.mn, Option.bind_some, K.ldm (by decide), Option.bind_some]; rfl
            · rw [if_neg (by decide), K.g7, Option.bind_some, K.mn, Option.bind_some, K.ldm (by decide), Option.bind_some]; rfl
            · rw [if_pos (by decide), if_pos (by decide), K.g7, Option.bind_some, K.2.2.1.f12, Option.bind_some]; rfl
            · rw [if_pos (by decide), if_neg (by decide), if_pos (by decide), K.g7, Option.bind_some, K.2.2.1.f13, Option.bind_some]; rfl
            · rw [if_pos (by decide), if_neg (by decide), if_neg (by decide), if_pos (by decide), K.g7, Option.bind_some, K.2.2.1.f14, Option.bind_some]; rfl
            · rw [if_pos (by decide), if_neg (by decide), if_neg (by decide), if_neg (by decide), if_pos (by decide), K.g7, Option.bind_some, s8, Option.bind_some]; rfl
            · rw [if_pos (by decide), if_neg (by decide), if_neg (by decide), if_neg (by decide), if_neg (by decide), if_pos (by decide), g12, Option.bind_some, s9, Option.bind_some]; rfl
            · exact absurd rfl x11
            · rw [if_pos (by decide), if_neg (by decide), if_neg (by decide), if_neg (by decide), if_neg (by decide), if_neg (by decide), if_neg (by decide), if_neg (by decide), if_pos (by decide), g16, Option.bind_some, s12, Option.bind_some]; rfl
            · rw [if_pos (by decide), if_neg (by decide), if_neg (by decide), if_neg (by decide), if_neg (by decide), if_neg (by decide), if_neg (by decide), if_neg (by decide), if_neg (by decide), if_pos (by decide), g17, Option.bind_some, s13, Option.bind_some]; rfl
          · have cb := cg115_go R1 (uF τ 12) 0 FU 0 (Nat.zero_add _) (by have := lt.1; unfold FU; omega) (by have := lt.1; omega)
            rw [cntR_0] at cb
            have cb' : s_X14_count_115 FU 104 0 0 h1 = _ := cb
            have HT := R1.2.2.1.2.1
            have g4 : gO h1 (.ref 104) 14 4 = some t := gO_of (ltE (by decide)) R1.1.1.1 rfl
            have s8 : gI h1 (.ref t) 13 6 = some (jI (uF τ 4)) := by rw [← R1.2.2.1.2.2.2.1.2.2.1]; exact gI_of (by have := HT.1; omega) HT.2.1 rfl
            have s13 : gI h1 (.ref 104) 14 32 = some (uN τ) := by rw [← R1.2.2.2.2.2.2.2.2.2.2.2.2.2.2.2.1]; exact R1.1.1.gS rfl
            have mny : ∀ k, k < 5 → s_X14_count_171 104 (jI k) h1 = some (.inl (some (.int (jI (uM τ k)))), h1) := fun k hk => by
              obtain ⟨l1, l2, l3⟩ := R1.ldm hk
              unfold s_X14_count_171
              rw [l1, Option.bind_some, l2, Option.bind_some, l3, Option.bind_some]
            rw [refm h h1 t2 S wd t f nv V Z B W G e1 R1]
            have ks : k = 0 ∨ k = 1 ∨ k = 2 ∨ k = 3 ∨ k = 4 ∨ k = 5 ∨ k = 6 ∨ k = 7 ∨ k = 8 ∨ k = 9 ∨ k = 11 ∨ k = 12 ∨ k = 13 := by omega
            rcases ks with rfl | rfl | rfl | rfl | rfl | rfl | rfl | rfl | rfl | rfl | rfl | rfl | rfl
            · rw [if_neg (by decide), if_neg (by decide), if_neg (by decide), if_neg (by decide), if_neg (by decide), if_neg (by decide), if_neg (by decide), if_neg (by decide), if_neg (by decide), mny 0 (by decide)]; rfl
            · rw [if_neg (by decide), if_neg (by decide), if_neg (by decide), if_neg (by decide), if_neg (by decide), if_neg (by decide), if_neg (by decide), if_neg (by decide), if_neg (by decide), mny 1 (by decide)]; rfl
            · rw [if_neg (by decide), if_neg (by decide), if_neg (by decide), if_neg (by decide), if_neg (by decide), if_neg (by decide), if_neg (by decide), if_neg (by decide), if_neg (by decide), mny 2 (by decide)]; rfl
            · rw [if_neg (by decide), if_neg (by decide), if_neg (by decide), if_neg (by decide), if_neg (by decide), if_neg (by decide), if_neg (by decide), if_neg (by decide), if_neg (by decide), mny 3 (by decide)]; rfl
            · rw [if_neg (by decide), if_neg (by decide), if_neg (by decide), if_neg (by decide), if_neg (by decide), if_neg (by decide), if_neg (by decide), if_neg (by decide), if_neg (by decide), mny 4 (by decide)]; rfl
            · rw [if_pos (by decide), R1.2.2.1.g20, Option.bind_some]; rfl
            · rw [if_neg (by decide), if_pos (by decide), R1.2.2.1.g21, Option.bind_some]; rfl
            · rw [if_neg (by decide), if_neg (by decide), if_pos (by decide), R1.2.2.1.g22, Option.bind_some]; rfl
            · rw [if_neg (by decide), if_neg (by decide), if_neg (by decide), if_pos (by decide), g4, Option.bind_some, s8, Option.bind_some]; rfl
            · rw [if_neg (by decide), if_neg (by decide), if_neg (by decide), if_neg (by decide), if_pos (by decide), cb']; rfl
            · exact absurd rfl x11
            · rw [if_neg (by decide), if_neg (by decide), if_neg (by decide), if_neg (by decide), if_neg (by decide), if_neg (by decide), if_neg (by decide), if_pos (by decide), R1.g59, Option.bind_some]; rfl
            · rw [if_neg (by decide), if_neg (by decide), if_neg (by decide), if_neg (by decide), if_neg (by decide), if_neg (by decide), if_neg (by decide), if_neg (by decide), if_pos (by decide), s13, Option.bind_some]; rfl
      · have hx' : x < 0 ∨ 13 < x := by
          by_cases z : x < 0
          · exact Or.inl z
          · exact Or.inr (i32_nle.mp fun z2 => hx ⟨i32_nlt.mp z, z2⟩)
        refine ⟨fun a => a = -1, γ, τ, one_x, cT1.same fun h S V Z D Ln N K => ?_, rT1.same fun h h1 t2 S wd t f nv V Z B W G e1 R1 => ?_⟩
        · apply wC_of
          unfold s_X11_count
          rw [if_neg x11, K.g2, Option.bind_some, if_neg (by decide)]
          by_cases z : 0 ≤ x
          · have z13 := hx'.resolve_left (i32_nlt.mpr z)
            have ne : ∀ y : Int32, y ≤ 13 → ¬ x = y := fun y hy e => by
              rw [e] at z13
              exact i32_nlt.mpr hy z13
            have z4 : (4 : Int32) < x := by
              have a := Int32.lt_iff_toInt_lt.mp z13
              have e1 : (13 : Int32).toInt = 13 := by decide
              have e2 : (4 : Int32).toInt = 4 := by decide
              exact Int32.lt_iff_toInt_lt.mpr (by omega)
            rw [if_pos z, if_pos z4, if_neg (ne 5 (by decide)), if_neg (ne 6 (by decide)), if_neg (ne 7 (by decide)), if_neg (ne 8 (by decide)), if_neg (ne 9 (by decide)), if_neg (ne 10 (by decide)), if_neg x11, if_neg (ne 12 (by decide)), if_neg (ne 13 (by decide))]
          · rw [if_neg z]
        · unfold s_X14_count
          rw [e1, Option.bind_some, if_neg x11, R1.g4, Option.bind_some]
          dsimp only
          rw [cI_of (inR_spanN hx' h1), if_pos rfl]
