/-! both sides on one heap -/
theorem thP2.lt {t f t2 : Nat} (H : thP2 t f t2) : 183 < t2 := H.1
def SM (h : aH) (c z t2 : Nat) (γ1 : gSt) (τ1 : tSt) (γ : gSt) (τ : tSt) : Prop := ∃ S V Z D Ln N, KT h S V Z D Ln 197 N γ1 τ1 ∧ sepD D t2 ∧ t2 + 13 ≤ h.length ∧ RT h t2 γ τ ∧ c ≤ 200 + sumL Ln ∧ z ≤ 600000 + 2 * sumL Ln
def SN (h : aH) (c z : Nat) (γ1 γ : gSt) : Prop := ∃ S V Z D Ln, KN h S V Z D Ln 184 γ1 ∧ RN h γ ∧ c ≤ 187 + sumL Ln ∧ z ≤ 599000 + 2 * sumL Ln
def SS (h : aH) (c z : Nat) : Prop := (∃ γ, SN h c z γ γ) ∨ ∃ γ τ t2, SM h c z t2 γ τ γ τ
/-- one call: both answer alike -/
def cOK (cf : aH → aP) (rf : aH → aO) : Prop := ∀ h c z, SS h c z → ∃ x h1 n y h2, cf h = some (.inl (some (.int x)), h1, n, y) ∧ rf h1 = some (.inl (some (.int x)), h2) ∧ kO h1 104 14 (some ()) = some () ∧ SS h2 (c + n) (z + y)
/-- what a call leaves on the class's side -/
def KO (h : aH) (D Ln : Nat → Nat) (N : Nat → Int64) (h1 : aH) (n y : Nat) (γ1 : gSt) (τ1 : tSt) : Prop := ∃ S' V' Z' D' Ln', KT h1 S' V' Z' D' Ln' 197 N γ1 τ1 ∧ Oa D h h1 ∧ Gr h D D' ∧ Ct Ln Ln' n y
def cN1 (cf : aH → aP) (x : Int32) (γ1 γ : gSt) : Prop := ∀ h S V Z D Ln, KN h S V Z D Ln 184 γ → ∃ h1 S' V' Z', cf h = some (.inl (some (.int x)), h1, 0, 0) ∧ KN h1 S' V' Z' D Ln 184 γ1 ∧ Oa D h h1
def rN1 (rf : aH → aO) (x : Int32) (γ1 γ : gSt) : Prop := ∀ h, RN h γ → ∃ h', rf h = some (.inl (some (.int x)), h') ∧ RN h' γ1 ∧ Ou h h'
def cT1 (cf : aH → aP) (P : Int32 → Prop) (γ1 : gSt) (τ1 : tSt) (γ : gSt) (τ : tSt) : Prop := ∀ h S V Z D Ln N, KT h S V Z D Ln 197 N γ τ → ∃ x h1 n y, P x ∧ cf h = some (.inl (some (.int x)), h1, n, y) ∧ KO h D Ln N h1 n y γ1 τ1
def rT1 (rf : aH → aO) (P : Int32 → Prop) (γ1 : gSt) (τ1 : tSt) (γ : gSt) (τ : tSt) : Prop := ∀ h t2, RT h t2 γ τ → ∃ x h', P x ∧ rf h = some (.inl (some (.int x)), h') ∧ RT h' t2 γ1 τ1 ∧ Rf t2 h h'
theorem KN.ou {h h' : aH} {S V : Nat → Nat → Int32} {Z : Nat → Nat → Int64} {D Ln : Nat → Nat} {b : Nat} {γ : gSt} (K : KN h S V Z D Ln b γ) (O : Ou h h') : KN h' S V Z D Ln b γ := by
  obtain ⟨kg, k2, A, N, F, H⟩ := K
  refine ⟨kg.rf (Rf.ou (t2 := aE) O) (fun i hi => Or.inl (kg.1.dlt hi)) (by unfold aE; omega), k2, A, N, F, H.of (fun k _ k2 => O.2 k (rfC_out (Or.inl (by omega))))⟩
theorem SN.go {cf : aH → aP} {rf : aH → aO} {x : Int32} {γ1 γ : gSt} (hc : cN1 cf x γ1 γ) (hr : rN1 rf x γ1 γ) {h : aH} {c z : Nat} (M : SN h c z γ γ) : ∃ x h1 n y h2, cf h = some (.inl (some (.int x)), h1, n, y) ∧ rf h1 = some (.inl (some (.int x)), h2) ∧ kO h1 104 14 (some ()) = some () ∧ SS h2 (c + n) (z + y) := by
  obtain ⟨S, V, Z, D, Ln, K, R, c1, z1⟩ := M
  obtain ⟨h1, S1, V1, Z1, e1, K1, O1⟩ := hc h S V Z D Ln K
  have R1 := R.oa O1 K.1.1.2.2.2.2
  have k1 : kO h1 104 14 (some ()) = some () := by
    obtain ⟨S, wd, nv, V, Z, g, -⟩ := R1
    exact g.1.kO
  obtain ⟨h2, e2, R2, O2⟩ := hr h1 R1
  exact ⟨x, h1, 0, 0, h2, e1, e2, k1, Or.inl ⟨γ1, S1, V1, Z1, D, Ln, K1.ou O2, R2, c1, z1⟩⟩
theorem SM.go {cf : aH → aP} {rf : aH → aO} {P : Int32 → Prop} {γ1 γ : gSt} {τ1 τ : tSt} (hu : ∀ a b, P a → P b → a = b) (hc : cT1 cf P γ1 τ1 γ τ) (hr : rT1 rf P γ1 τ1 γ τ) {h : aH} {c z t2 : Nat} (M : SM h c z t2 γ τ γ τ) : ∃ x h1 n y h2, cf h = some (.inl (some (.int x)), h1, n, y) ∧ rf h1 = some (.inl (some (.int x)), h2) ∧ kO h1 104 14 (some ()) = some () ∧ SS h2 (c + n) (z + y) := by
  obtain ⟨S, V, Z, D, Ln, N, K, sp, tl, R, c1, z1⟩ := M
  obtain ⟨x, h1, n, y, px, e1, S1, V1, Z1, D1, L1, K1, O1, G1, ct1, ct2⟩ := hc h S V Z D Ln N K
  have R1 := R.oa O1 K.1.1.2.2.2.2 sp
  have k1 : kO h1 104 14 (some ()) = some () := by
    obtain ⟨S, wd, t, f, nv, V, Z, B, W, G, R⟩ := R1
    exact R.1.1.kO
  obtain ⟨x', h2, px', e2, R2, F2⟩ := hr h1 t2 R1
  rw [hu x' x px' px] at e2
  have lt : 183 < t2 := by
    obtain ⟨_, _, _, _, _, _, _, _, _, _, _, tp, -⟩ := R2
    exact tp.1
  have l1 : h.length ≤ h1.length := O1.1
  have l2 : h2.length = h1.length := F2.1
  have sp1 := sp.gr G1 tl
  exact ⟨x, h1, n, y, h2, e1, e2, k1, Or.inr ⟨γ1, τ1, t2, S1, V1, Z1, D1, L1, N, K1.rf F2 sp1 (by omega), sp1, by omega, R2, by omega, by omega⟩⟩
/-- the numbers of a thing are small -/
abbrev liT (τ : tSt) : Prop := uF τ 12 ≤ 400 ∧ uF τ 13 ≤ 9 ∧ uF τ 14 ≤ 27 ∧ okm (uM τ) ∧ (0 < uF τ 12 ∧ 0 < uF τ 13 ∧ 0 < uF τ 15 ∧ 0 < uF τ 14 ∧ uF τ 15 ≤ 27) ∧ 0 < uM τ 0
theorem cOK.of {cf : aH → aP} {rf : aH → aO} (hN : ∀ γ, okγ γ → ∃ x γ1, cN1 cf x γ1 γ ∧ rN1 rf x γ1 γ) (hT : ∀ γ τ, okγ γ → okτ τ → liT τ → ∃ P γ1 τ1, (∀ a b, P a → P b → a = b) ∧ cT1 cf P γ1 τ1 γ τ ∧ rT1 rf P γ1 τ1 γ τ) : cOK cf rf := by
  intro h c z s
  rcases s with ⟨γ, M⟩ | ⟨γ, τ, t2, M⟩
  · have og : okγ γ := by
      obtain ⟨S, V, Z, D, Ln, K, -⟩ := M
      exact K.1.2.2.1
    obtain ⟨x, γ1, a, b⟩ := hN γ og
    exact M.go a b
  · have og : okγ γ ∧ okτ τ ∧ liT τ := by
      obtain ⟨S, V, Z, D, Ln, N, K, -⟩ := M
      exact ⟨K.1.2.2.1, K.2.2.2.2.1, K.lim⟩
    obtain ⟨P, γ1, τ1, u, a, b⟩ := hT γ τ og.1 og.2.1 og.2.2
    exact M.go u a b
/-- one number -/
theorem one_x {x : Int32} : ∀ a b : Int32, a = x → b = x → a = b := fun _ _ h1 h2 => h1.trans h2.symm
theorem ckw {c s : Nat} {r : aR} {h : aH} {o : aO} (e : o = some (r, h)) : ck c s (wC c s o) = some (r, h, c, s) := by rw [e]; exact ck_of (Nat.le_refl _) (Nat.le_refl _)
/-! both refuse where no thing stands -/
section
variable {γ : gSt}
theorem RN.th {h : aH} (R : RN h γ) (x : Int32) : ∃ h', pF h (.ref 104) 14 0 (.int x) = some h' ∧ RN h' γ ∧ Ou h h' := by
  obtain ⟨S, wd, nv, V, Z, g, B, W, G, t⟩ := R
  obtain ⟨h1, e1, X1, O1⟩ := g.1.pS (k := 0) rfl x
  exact ⟨h1, e1, ⟨_, wd, nv, V, Z, g.t X1 O1 rfl rfl rfl (fun j hj => upd_ne (by omega)), B, W, G, t.ou O1 (Or.inl rfl)⟩, O1⟩
theorem RN.k0 {β : Type} {y : Option β} {h : aH} (R : RN h γ) : kO h 104 14 y = y := by
  obtain ⟨S, wd, nv, V, Z, g, -⟩ := R
  exact g.1.kO
theorem RN.refused {h : aH} (R : RN h γ) (w : Int32) : ∃ h', s_X14_refused 104 w h = some (.inl (some (.int (-1))), h') ∧ RN h' (qTw γ w) ∧ Ou h h' := by
  obtain ⟨S, wd, nv, V, Z, g, B, W, G, t⟩ := R
  obtain ⟨h1, e1, X1, O1⟩ := g.1.refused w
  exact ⟨h1, e1, ⟨_, wd, nv, V, Z, g.tw X1 O1 rfl rfl rfl (fun _ _ => rfl), B, W, G, t.ou O1 (Or.inl rfl)⟩, O1⟩
theorem RN.lost {h : aH} (R : RN h γ) (w : Int32) : ∃ h', s_X14_lost 104 w h = some (.inl (some (.int (-2147483648))), h') ∧ RN h' (qTw γ w) ∧ Ou h h' := by
  obtain ⟨S, wd, nv, V, Z, g, B, W, G, t⟩ := R
  obtain ⟨h1, e1, X1, O1⟩ := g.1.lost w
  exact ⟨h1, e1, ⟨_, wd, nv, V, Z, g.tw X1 O1 rfl rfl rfl (fun _ _ => rfl), B, W, G, t.ou O1 (Or.inl rfl)⟩, O1⟩
theorem RN.denied {h : aH} (R : RN h γ) (w : Int32) : ∃ h', s_X14_denied 104 w h = some (.inl (some (.int 0)), h') ∧ RN h' (qTw γ w) ∧ Ou h h' := by
  obtain ⟨S, wd, nv, V, Z, g, B, W, G, t⟩ := R
  obtain ⟨h1, e1, X1, O1⟩ := g.1.denied w
  exact ⟨h1, e1, ⟨_, wd, nv, V, Z, g.tw X1 O1 rfl rfl rfl (fun _ _ => rfl), B, W, G, t.ou O1 (Or.inl rfl)⟩, O1⟩
theorem isCell_N {h : aH} (R : RN h γ) (x : Int32) : s_X14_isCell 104 x h = some (.inl (some (.int 0)), h) := by
  unfold s_X14_isCell
  rw [R.tw, Option.bind_some]
  rfl
theorem isPush_N {h : aH} (R : RN h γ) (x : Int32) : s_X14_isPush 104 x h = some (.inl (some (.int 0)), h) := by
  unfold s_X14_isPush
  rw [R.tw, Option.bind_some]
  rfl
theorem isSight_N {h : aH} (R : RN h γ) (x : Int32) : s_X14_isSight 104 x h = some (.inl (some (.int 0)), h) := by
  unfold s_X14_isSight
  rw [R.tw, Option.bind_some]
  rfl
/-- the class refuses, the reference too -/
theorem cN1.ref {cf : aH → aP} {x : Int32} (e : ∀ h h1 S V Z D Ln, KN h S V Z D Ln 184 γ → pF h (.ref 0) 11 3 (.int 1) = some h1 → cf h = some (.inl (some (.int x)), h1, 0, 0)) : cN1 cf x (qTw γ 1) γ := by
  intro h S V Z D Ln K
  obtain ⟨h1, e1, K1, O1⟩ := K.tw (w := 1) (by decide)
  exact ⟨h1, _, V, Z, e h h1 S V Z D Ln K e1, K1, Oa.of O1⟩
theorem cN1.same {cf : aH → aP} {x : Int32} (e : ∀ h S V Z D Ln, KN h S V Z D Ln 184 γ → cf h = some (.inl (some (.int x)), h, 0, 0)) : cN1 cf x γ γ := by
  intro h S V Z D Ln K
  exact ⟨h, S, V, Z, e h S V Z D Ln K, K, Oa.of Oc.refl⟩
theorem rN1.ref {rf : aH → aO} (e : ∀ h h1 h2, RN h γ → pF h (.ref 104) 14 0 (.int 0) = some h1 → RN h1 γ → s_X14_refused 104 1 h1 = some (.inl (some (.int (-1))), h2) → rf h = some (.inl (some (.int (-1))), h2)) : rN1 rf (-1) (qTw γ 1) γ := by
  intro h R
  obtain ⟨h1, e1, R1, O1⟩ := R.th 0
  obtain ⟨h2, e2, R2, O2⟩ := R1.refused 1
  exact ⟨h2, e h h1 h2 R e1 R1 e2, R2, O1.trans O2⟩
theorem rN1.lost {rf : aH → aO} (e : ∀ h h1 h2, RN h γ → pF h (.ref 104) 14 0 (.int 0) = some h1 → RN h1 γ → s_X14_lost 104 1 h1 = some (.inl (some (.int (-2147483648))), h2) → rf h = some (.inl (some (.int (-2147483648))), h2)) : rN1 rf (-2147483648) (qTw γ 1) γ := by
  intro h R
  obtain ⟨h1, e1, R1, O1⟩ := R.th 0
  obtain ⟨h2, e2, R2, O2⟩ := R1.lost 1
  exact ⟨h2, e h h1 h2 R e1 R1 e2, R2, O1.trans O2⟩
theorem rN1.denied {rf : aH → aO} (e : ∀ h h1 h2, RN h γ → pF h (.ref 104) 14 0 (.int 0) = some h1 → RN h1 γ → s_X14_denied 104 1 h1 = some (.inl (some (.int 0)), h2) → rf h = some (.inl (some (.int 0)), h2)) : rN1 rf 0 (qTw γ 1) γ := by
  intro h R
  obtain ⟨h1, e1, R1, O1⟩ := R.th 0
  obtain ⟨h2, e2, R2, O2⟩ := R1.denied 1
  exact ⟨h2, e h h1 h2 R e1 R1 e2, R2, O1.trans O2⟩
theorem rN1.same {rf : aH → aO} {x : Int32} (e : ∀ h h1, RN h γ → pF h (.ref 104) 14 0 (.int 0) = some h1 → RN h1 γ → rf h = some (.inl (some (.int x)), h1)) : rN1 rf x γ γ := by
  intro h R
  obtain ⟨h1, e1, R1, O1⟩ := R.th 0
  exact ⟨h1, e h h1 R e1 R1, R1, O1⟩
end
/-! the same where one stands -/
section
variable {γ : gSt} {τ : tSt}
theorem cT1.ref {cf : aH → aP} {x w : Int32} (hw : w ≠ 4) (e : ∀ h h1 S V Z D Ln N, KT h S V Z D Ln 197 N γ τ → pF h (.ref 0) 11 3 (.int w) = some h1 → cf h = some (.inl (some (.int x)), h1, 0, 0)) : cT1 cf (fun a => a = x) (qTw γ w) τ γ τ := by
  intro h S V Z D Ln N K
  obtain ⟨h1, e1, K1, O1⟩ := K.tw hw
  exact ⟨x, h1, 0, 0, rfl, e h h1 S V Z D Ln N K e1, _, V, Z, D, Ln, K1, Oa.of O1, Gr.refl, Ct.z⟩
theorem cT1.same {cf : aH → aP} {x : Int32} (e : ∀ h S V Z D Ln N, KT h S V Z D Ln 197 N γ τ → cf h = some (.inl (some (.int x)), h, 0, 0)) : cT1 cf (fun a => a = x) γ τ γ τ := by
  intro h S V Z D Ln N K
  exact ⟨x, h, 0, 0, rfl, e h S V Z D Ln N K, S, V, Z, D, Ln, K, Oa.of Oc.refl, Gr.refl, Ct.z⟩
theorem RTx.rt {h : aH} {t2 : Nat} {S : Nat → Int32} {wd : Int64} {t f : Nat} {nv : Value} {V : Nat → Nat → Int32} {Z : Nat → Nat → Int64} {B : Nat → Nat → Int32} {W : Nat → Int64} {G : Nat → Nat} (R : RTx h t2 γ τ S wd t f nv V Z B W G) : RT h t2 γ τ := ⟨S, wd, t, f, nv, V, Z, B, W, G, R⟩
/-- with thrown set: what the reference does, from there -/
theorem rT1.th {rf : aH → aO} {P : Int32 → Prop} {γ1 : gSt} {τ1 : tSt} (e : ∀ h h1 t2 S wd t f nv V Z B W G, pF h (.ref 104) 14 0 (.int 0) = some h1 → RTx h1 t2 γ τ S wd t f nv V Z B W G → ∃ x h', P x ∧ rf h = some (.inl (some (.int x)), h') ∧ RT h' t2 γ1 τ1 ∧ Rf t2 h1 h') : rT1 rf P γ1 τ1 γ τ := by
  intro h t2 R
  obtain ⟨S, wd, t, f, nv, V, Z, B, W, G, R⟩ := R
  obtain ⟨h1, e1, R1, O1⟩ := R.th 0
  obtain ⟨x, h2, p, e2, R2, F2⟩ := e h h1 t2 _ wd t f nv V Z B W G e1 R1
  exact ⟨x, h2, p, e2, R2, (Rf.ou O1).trans F2⟩
theorem rT1.same {rf : aH → aO} {x : Int32} (e : ∀ h h1 t2 S wd t f nv V Z B W G, pF h (.ref 104) 14 0 (.int 0) = some h1 → RTx h1 t2 γ τ S wd t f nv V Z B W G → rf h = some (.inl (some (.int x)), h1)) : rT1 rf (fun a => a = x) γ τ γ τ :=
  rT1.th fun h h1 t2 S wd t f nv V Z B W G e1 R1 => ⟨x, h1, rfl, e h h1 t2 S wd t f nv V Z B W G e1 R1, R1.rt, Rf.ou Ou.refl⟩
theorem rT1.ref {rf : aH → aO} {w : Int32} (e : ∀ h h1 h2 t2 S wd t f nv V Z B W G, pF h (.ref 104) 14 0 (.int 0) = some h1 → RTx h1 t2 γ τ S wd t f nv V Z B W G → s_X14_refused 104 w h1 = some (.inl (some (.int (-1))), h2) → rf h = some (.inl (some (.int (-1))), h2)) : rT1 rf (fun a => a = -1) (qTw γ w) τ γ τ :=
  rT1.th fun h h1 t2 S wd t f nv V Z B W G e1 R1 => by
    obtain ⟨h2, S2, e2, R2, O2⟩ := R1.refused w
    exact ⟨-1, h2, rfl, e h h1 h2 t2 S wd t f nv V Z B W G e1 R1 e2, R2.rt, Rf.ou O2⟩
theorem rT1.lost {rf : aH → aO} {w : Int32} (e : ∀ h h1 h2 t2 S wd t f nv V Z B W G, pF h (.ref 104) 14 0 (.int 0) = some h1 → RTx h1 t2 γ τ S wd t f nv V Z B W G → s_X14_lost 104 w h1 = some (.inl (some (.int (-2147483648))), h2) → rf h = some (.inl (some (.int (-2147483648))), h2)) : rT1 rf (fun a => a = -2147483648) (qTw γ w) τ γ τ :=
  rT1.th fun h h1 t2 S wd t f nv V Z B W G e1 R1 => by
    obtain ⟨h2, S2, e2, R2, O2⟩ := R1.lost w
    exact ⟨-2147483648, h2, rfl, e h h1 h2 t2 S wd t f nv V Z B W G e1 R1 e2, R2.rt, Rf.ou O2⟩
theorem rT1.denied {rf : aH → aO} {w : Int32} (e : ∀ h h1 h2 t2 S wd t f nv V Z B W G, pF h (.ref 104) 14 0 (.int 0) = some h1 → RTx h1 t2 γ τ S wd t f nv V Z B W G → s_X14_denied 104 w h1 = some (.inl (some (.int 0)), h2) → rf h = some (.inl (some (.int 0)), h2)) : rT1 rf (fun a => a = 0) (qTw γ w) τ γ τ :=
  rT1.th fun h h1 t2 S wd t f nv V Z B W G e1 R1 => by
    obtain ⟨h2, S2, e2, R2, O2⟩ := R1.denied w
    exact ⟨0, h2, rfl, e h h1 h2 t2 S wd t f nv V Z B W G e1 R1 e2, R2.rt, Rf.ou O2⟩
end
