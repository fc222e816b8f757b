/-! calls: rank, form -/
theorem linB_some {A : Nat → Nat → Int32} {m F : Nat → Nat} (hS : okSt A m F) (kW : okW A m F) (h3 : m 0 ≤ 3) (h2 : m 4 ≤ 2) (q : linB A m F = true) : ∃ a c, lin false A m F = some (a, c) ∧ lin true A m F = some (a, c) ∧ nrM a c = true ∧ okZ a c m := by
  unfold linB at q
  cases e : lin false A m F with
  | none => rw [e] at q; cases q
  | some x =>
    rw [e] at q
    have q' : nrM x.1 x.2 = true := q
    exact ⟨x.1, x.2, rfl, (lin_tf hS h3 h2 x).mpr ⟨e, q'⟩, q', lin_z kW hS e⟩
theorem tmd_congr {g g' : Nat → Int32} (h : ∀ r k, r < 3 → k < 3 → g (r * 3 + k) = g' (r * 3 + k)) : trV g = trV g' ∧ miV g = miV g' ∧ deV g = deV g' := by
  have e0 : g 0 = g' 0 := h 0 0 (by decide) (by decide)
  have e1 : g 1 = g' 1 := h 0 1 (by decide) (by decide)
  have e2 : g 2 = g' 2 := h 0 2 (by decide) (by decide)
  have e3 : g 3 = g' 3 := h 1 0 (by decide) (by decide)
  have e4 : g 4 = g' 4 := h 1 1 (by decide) (by decide)
  have e5 : g 5 = g' 5 := h 1 2 (by decide) (by decide)
  have e6 : g 6 = g' 6 := h 2 0 (by decide) (by decide)
  have e7 : g 7 = g' 7 := h 2 1 (by decide) (by decide)
  have e8 : g 8 = g' 8 := h 2 2 (by decide) (by decide)
  refine ⟨?_, ?_, ?_⟩
  · unfold trV
    rw [e0, e4, e8]
  · unfold miV
    rw [e0, e1, e2, e3, e4, e5, e6, e7, e8]
  · unfold deV dt3
    simp only [e0, e1, e2, e3, e4, e5, e6, e7, e8]
/-- the rows of the one thing, in one line -/
def rwG (a : Nat → Nat → Int32) (i : Nat) : Int32 := a (i / 3) (i % 3)
theorem rwG_at (a : Nat → Nat → Int32) {r k : Nat} (hk : k < 3) : rwG a (r * 3 + k) = a r k := by
  unfold rwG
  rw [show (r * 3 + k) / 3 = r by omega, show (r * 3 + k) % 3 = k by omega]
def frmS (a : Nat → Nat → Int32) (n p : Nat) : Int32 := (fmW n (trV (rwG a)).toInt64 (miV (rwG a)).toInt64 (deV (rwG a)) p).toInt32
section
variable {γ : gSt} {τ : tSt}
theorem KT.g15 {h : aH} {S V : Nat → Nat → Int32} {Z : Nat → Nat → Int64} {D Ln : Nat → Nat} {b : Nat} {N : Nat → Int64} (K : KT h S V Z D Ln b N γ τ) : gO h (.ref 0) 11 15 = some 81 := gO_of (ltE (by decide)) (K.1.1.1 0 rfl) rfl
theorem call_rank (see : Bool) : cOK (fun h => wC 0 0 (s_X11_rank 0 (b01 see) h)) (s_X14_rank 104 (b01 see)) := by
  refine cOK.of2 (fun γ _ => ⟨-1, qTw γ 1, cN1.ref fun h h1 S V Z D Ln K e1 => ?_, rN1.ref fun h h1 h2 R e1 R1 e2 => ?_⟩) fun γ τ og ot lt oS oW oC => ?_
  · apply wC_of
    unfold s_X11_rank
    rw [K.g2, Option.bind_some, if_pos rfl, K.k0, cI_of (refuse1 e1)]
  · unfold s_X14_rank
    rw [e1, Option.bind_some, R1.tw, Option.bind_some]
    dsimp only
    rw [R1.k0, cI_of e2]
  · cases lb : linB (uA τ) (uM τ) (uF τ) with
    | false =>
      refine ⟨fun a => a = -1, qTw γ 5, τ, one_x, ?_, rT1.th fun h h1 t2 S wd t f nv V Z B W G e1 R1 => ?_⟩
      · intro h S V Z D Ln N K
        obtain ⟨h1, S1, V1, Z1, e1, K1, f1, lk, O1⟩ := K.holds
        obtain ⟨h2, e2, K2, O2⟩ := K1.tw (w := 5) (by decide)
        rw [lb] at e1
        refine ⟨-1, h2, 0, 0, rfl, ?_, _, V1, Z1, D, Ln, K2, Oa.of (O1.trans O2), Gr.refl, Ct.z⟩
        apply wC_of
        unfold s_X11_rank
        rw [K.g2, Option.bind_some, if_neg (by decide), K.g15, Option.bind_some, kO_of (ltE (by decide)) (K.1.1.1 81 rfl), cI_of e1, if_pos (by decide), K1.k0, cI_of (refuseW e2)]
      · obtain ⟨h2, S2, V2, Z2, e2, R2, O2, lr⟩ := R1.isLinear oS
        obtain ⟨h3, S3, e3, R3, O3⟩ := R2.refused 5
        rw [lb] at e2
        refine ⟨-1, h3, rfl, ?_, R3.rt, (Rf.ou O2).trans (Rf.ou O3)⟩
        unfold s_X14_rank
        rw [e1, Option.bind_some, R1.g4, Option.bind_some]
        dsimp only
        rw [R1.k0, cI_of e2, if_pos (by decide), R2.k0, cI_of e3]
    | true =>
      obtain ⟨a, c, l1, l2, nr, oz⟩ := linB_some oS oW lt.2.2.2.1.1 lt.2.2.2.1.2.2.2.2 lb
      refine ⟨fun r => ∃ Q, isCv see a c (lnS see (uM τ)) (lnS see (uM τ) * uM τ 0) Q ∧ isRk Q (lnS see (uM τ) * uM τ 0) r, qTw γ 0, τ, fun x y ⟨Q, q1, q2⟩ ⟨Q', q3, q4⟩ => rank_one q1 q3 q2 q4, ?_, rT1.th fun h h1 t2 S wd t f nv V Z B W G e1 R1 => ?_⟩
      · intro h S V Z D Ln N K
        obtain ⟨h1, S1, V1, Z1, e1, K1, f1, lk, O1⟩ := K.holds
        rw [lb] at e1
        obtain ⟨h2, e2, K2, O2⟩ := K1.tw (w := 0) (by decide)
        obtain ⟨-, oln, -⟩ := lk f1
        obtain ⟨h3, Z3, r, e3, C3, O3, MZ, cv, rk⟩ := K2.2.2.1.rankOf see (oln a c l1) oz
        have K3 := K2.scrZ C3.1 O3 (MZ.mono (by decide))
        refine ⟨r, h3, 0, 0, ⟨_, cv, rk⟩, ?_, _, V1, Z3, D, Ln, K3, Oa.of ((O1.trans O2).trans O3), Gr.refl, Ct.z⟩
        apply wC_of
        unfold s_X11_rank
        rw [K.g2, Option.bind_some, if_neg (by decide), K.g15, Option.bind_some, kO_of (ltE (by decide)) (K.1.1.1 81 rfl), cI_of e1, if_neg (by decide), e2, Option.bind_some, K2.g15, Option.bind_some, kO_of (ltE (by decide)) (K2.1.1.1 81 rfl), cI_of e3]
      · obtain ⟨h2, S2, V2, Z2, e2, R2, O2, lr⟩ := R1.isLinear oS
        rw [lb] at e2
        obtain ⟨h3, Z3, e3, C3, O3, MZ, cv⟩ := R2.2.2.1.columns see (lr a c l2)
        have R3 := R2.scr C3 O3 Sm.refl (MZ.mono (by decide)) smS.refl
        have m0 := lt.2.2.2.1.1
        have m4 := lt.2.2.2.1.2.2.2.2
        have m1 := lt.2.2.2.1.2.1
        have b6 : lnS see (uM τ) * uM τ 0 ≤ 6 := by
          have : lnS see (uM τ) ≤ 2 := by unfold lnS; split <;> omega
          exact Nat.mul_le_mul this m0
        obtain ⟨r, e4, rk⟩ := R3.2.2.1.rankOf b6
        obtain ⟨h5, S5, e5, R5, O5⟩ := R3.done r
        refine ⟨r, h5, ⟨_, cv, rk⟩, ?_, R5.rt, ((Rf.ou O2).trans (Rf.ou O3)).trans (Rf.ou O5)⟩
        unfold s_X14_rank
        rw [e1, Option.bind_some, R1.g4, Option.bind_some]
        dsimp only
        rw [R1.k0, cI_of e2, if_neg (by decide), R2.k0, cI_of e3, R3.k0, cI_of e4, R3.k0, cI_of e5]
end
