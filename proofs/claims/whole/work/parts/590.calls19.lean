/-! calls: form -/
section
variable {γ : gSt} {τ : tSt}
theorem call_form (x : Int32) : cOK (fun h => wC 0 0 (s_X11_form 0 x h)) (s_X14_form 104 x) := by
  refine cOK.of2 (fun γ _ => ⟨-2147483648, qTw γ 1, cN1.ref fun h h1 S V Z D Ln K e1 => ?_, rN1.lost fun h h1 h2 R e1 R1 e2 => ?_⟩) fun γ τ og ot lt oS oW oC => ?_
  · apply wC_of
    unfold s_X11_form
    rw [K.g2, Option.bind_some, if_pos rfl, e1, Option.bind_some]
  · unfold s_X14_form
    rw [e1, Option.bind_some, R1.tw, Option.bind_some]
    dsimp only
    rw [R1.k0, cI_of e2]
  · have m0 := lt.2.2.2.1.1
    have mp := lt.2.2.2.2.2
    rcases in_or x (show uM τ 0 + 1 < 2147483648 by omega) with ⟨p, hp, rfl⟩ | q
    · cases lb : linB (uA τ) (uM τ) (uF τ) with
      | false =>
        refine ⟨fun a => a = -2147483648, qTw γ 5, τ, one_x, ?_, rT1.th fun h h1 t2 S wd t f nv V Z B W G e1 R1 => ?_⟩
        · intro h S V Z D Ln N K
          obtain ⟨h1, S1, V1, Z1, e1, K1, f1, lk, O1⟩ := K.holds
          obtain ⟨h2, e2, K2, O2⟩ := K1.tw (w := 5) (by decide)
          rw [lb] at e1
          have l4 : ldI .int h (.ref 4) 0 = some (jI (uM τ 0)) := K.ldm (k := 0) (by decide)
          refine ⟨_, h2, 0, 0, rfl, ?_, _, V1, Z1, D, Ln, K2, Oa.of (O1.trans O2), Gr.refl, Ct.z⟩
          apply wC_of
          unfold s_X11_form
          rw [K.g2, Option.bind_some, if_neg (by decide), if_neg (jI_neg (by omega)), K.g7, Option.bind_some, K.mn, Option.bind_some, l4, Option.bind_some, if_pos ((jI_le (by omega) (by omega)).mpr (by omega)), K.g15, Option.bind_some, kO_of (ltE (by decide)) (K.1.1.1 81 rfl), cI_of e1, if_pos (by decide), e2, Option.bind_some]
        · obtain ⟨h2, S2, V2, Z2, e2, R2, O2, lr⟩ := R1.isLinear oS
          obtain ⟨h3, S3, e3, R3, O3⟩ := R2.lost 5
          obtain ⟨g1, g2, g3⟩ := R1.2.2.1.ldm (k := 0) (by decide)
          have g3' : ldI .int h1 (.ref (t + 1)) 0 = some (jI (uM τ 0)) := g3
          rw [lb] at e2
          refine ⟨_, h3, rfl, ?_, R3.rt, (Rf.ou O2).trans (Rf.ou O3)⟩
          unfold s_X14_form
          rw [e1, Option.bind_some, R1.g4, Option.bind_some]
          dsimp only
          rw [g1, Option.bind_some, g2, Option.bind_some, g3', Option.bind_some, cI_of (inR_span (i32_nlt.mp (jI_neg (by omega))) ((jI_le (by omega) (by omega)).mpr (by omega)) h1), if_neg (by decide), R1.k0, cI_of e2, if_pos (by decide), R2.k0, cI_of e3]
      | true =>
        obtain ⟨a, c, l1, l2, nr, oz⟩ := linB_some oS oW lt.2.2.2.1.1 lt.2.2.2.1.2.2.2.2 lb
        refine ⟨fun r => r = frmS a (uM τ 0) p, qTw γ 0, τ, one_x, ?_, rT1.th fun h h1 t2 S wd t f nv V Z B W G e1 R1 => ?_⟩
        · intro h S V Z D Ln N K
          obtain ⟨h1, S1, V1, Z1, e1, K1, f1, lk, O1⟩ := K.holds
          rw [lb] at e1
          obtain ⟨h2, e2, K2, O2⟩ := K1.tw (w := 0) (by decide)
          obtain ⟨-, oln, fz⟩ := lk f1
          obtain ⟨ol, -⟩ := oln a c l1
          have l4 : ldI .int h (.ref 4) 0 = some (jI (uM τ 0)) := K.ldm (k := 0) (by decide)
          have g6 : gO h2 (.ref 81) 1 6 = some 85 := gO_of (ltE (by decide)) (K2.1.1.1 81 rfl) rfl
          have l5 := K2.1.1.ldJ (a := 85) rfl (show p < 4 by omega)
          rw [fz p (by omega)] at l5
          obtain ⟨t1, t2, t3⟩ := tmd_congr (g := V1 82) (g' := rwG a) fun r k hr hk => (((ol r hr).1 k hk).trans (rwG_at a hk).symm)
          rw [t1, t2, t3] at l5
          refine ⟨_, h2, 0, 0, rfl, ?_, _, V1, Z1, D, Ln, K2, Oa.of (O1.trans O2), Gr.refl, Ct.z⟩
          apply wC_of
          unfold s_X11_form
          rw [K.g2, Option.bind_some, if_neg (by decide), if_neg (jI_neg (by omega)), K.g7, Option.bind_some, K.mn, Option.bind_some, l4, Option.bind_some, if_pos ((jI_le (by omega) (by omega)).mpr (by omega)), K.g15, Option.bind_some, kO_of (ltE (by decide)) (K.1.1.1 81 rfl), cI_of e1, if_neg (by decide), e2, Option.bind_some, K2.g15, Option.bind_some, g6, Option.bind_some, l5, Option.bind_some]
          rfl
        · obtain ⟨h2, S2, V2, Z2, e2, R2, O2, lr⟩ := R1.isLinear oS
          rw [lb] at e2
          obtain ⟨g1, g2, g3⟩ := R1.2.2.1.ldm (k := 0) (by decide)
          have g3' : ldI .int h1 (.ref (t + 1)) 0 = some (jI (uM τ 0)) := g3
          have e3 := R2.2.2.1.formOf (p := p) (by omega)
          obtain ⟨lra, -⟩ := lr a c l2
          have ag : ∀ r k, r < 3 → k < 3 → V2 163 (r * 3 + k) = rwG a (r * 3 + k) := fun r k hr hk => by
            rw [rwG_at a hk, Nat.mul_comm]
            exact (lra r hr).1 k hk
          obtain ⟨t1, t2, t3⟩ := tmd_congr ag
          rw [← form_one (by omega) m0 (by omega) (fun r k hr hk z => by rw [ag r k hr hk, rwG_at a hk]; exact oz.1 r k hr hk z), t1, t2, t3] at e3
          obtain ⟨h5, S5, e5, R5, O5⟩ := R2.done (frmS a (uM τ 0) p)
          refine ⟨_, h5, rfl, ?_, R5.rt, (Rf.ou O2).trans (Rf.ou O5)⟩
          unfold s_X14_form
          rw [e1, Option.bind_some, R1.g4, Option.bind_some]
          dsimp only
          rw [g1, Option.bind_some, g2, Option.bind_some, g3', Option.bind_some, cI_of (inR_span (i32_nlt.mp (jI_neg (by omega))) ((jI_le (by omega) (by omega)).mpr (by omega)) h1), if_neg (by decide), R1.k0, cI_of e2, if_neg (by decide), R2.k0, cI_of e3, R2.k0]
          exact cI_of e5
    · have q2 : x < 0 ∨ jI (uM τ 0) < x := by
        rcases q with z | z
        · exact Or.inl z
        · refine Or.inr (Int32.lt_iff_toInt_lt.mpr ?_)
          have := Int32.le_iff_toInt_le.mp z
          rw [jI_int (by omega)] at this
          rw [jI_int (by omega)]
          omega
      refine ⟨fun a => a = -2147483648, qTw γ 2, τ, one_x, cT1.ref (by decide) fun h h1 S V Z D Ln N K e1 => ?_, rT1.lost (w := 2) fun h h1 h2 t2 S wd t f nv V Z B W G e1 R1 e2 => ?_⟩
      · have l4 : ldI .int h (.ref 4) 0 = some (jI (uM τ 0)) := K.ldm (k := 0) (by decide)
        have e32 : s_X11_form_32 0 h = some (.inl (some (.int (-2147483648))), h1) := by
          unfold s_X11_form_32
          rw [e1, Option.bind_some]
        apply wC_of
        unfold s_X11_form
        rw [K.g2, Option.bind_some, if_neg (by decide)]
        by_cases z : x < 0
        · rw [if_pos z, e32]
        · rw [if_neg z, K.g7, Option.bind_some, K.mn, Option.bind_some, l4, Option.bind_some, if_neg (i32_nle.mpr (q2.resolve_left z)), e32]
      · obtain ⟨g1, g2, g3⟩ := R1.2.2.1.ldm (k := 0) (by decide)
        have g3' : ldI .int h1 (.ref (t + 1)) 0 = some (jI (uM τ 0)) := g3
        unfold s_X14_form
        rw [e1, Option.bind_some, R1.g4, Option.bind_some]
        dsimp only
        rw [g1, Option.bind_some, g2, Option.bind_some, g3', Option.bind_some, cI_of (inR_spanN q2 h1), if_pos rfl, R1.k0, cI_of e2]
end
