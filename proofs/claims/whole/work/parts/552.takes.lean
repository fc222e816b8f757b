section
variable {h : aH} {A B : Nat → Nat → Int32} {N M : Nat → Int64} {F E : Nat → Nat}
theorem takeF_at (H : isM h 3 A N F) (G : isM h 23 B M E) (u : upTo A B 13) : ∃ h' A', s_X0_take 15 35 h = some (.inl none, h') ∧ isM h' 3 A' N (upd2 (upd2 F 20 (E 20)) 24 (E 24)) ∧ isM h' 23 B M E ∧ upTo A' B 20 ∧ FrT h h' := by
  have a1 : gI h (.ref 35) 0 0 = some (jI (E 20)) := gI_of (ltE (by decide)) G.2.2.2.2.2.2.1 rfl
  obtain ⟨h1, e1, H1, f1⟩ := H.fn0 (E 20)
  have G1 : isM h1 23 B M E := G.of (fun i i1 i2 => f1.2 i (by omega))
  have a2 : gI h1 (.ref 35) 0 4 = some (jI (E 24)) := gI_of (ltE (by decide)) G1.2.2.2.2.2.2.1 rfl
  obtain ⟨h2, e2, H2, f2⟩ := H1.fn4 (E 24)
  have G2 : isM h2 23 B M E := G1.of (fun i i1 i2 => f2.2 i (by omega))
  have s13 : gO h2 (.ref 35) 0 1 = some 36 := G2.fo rfl
  have t13 : gO h2 (.ref 15) 0 1 = some 16 := H2.fo rfl
  obtain ⟨h13, A13, e13, H13, G13, u13, f13⟩ := copy_at (k := 13) H2 G2 u ⟨by decide, by decide, by decide, by decide⟩
  have w13 : cpI h2 (.ref 36) 0 (.ref 16) 0 60 = some h13 := e13
  have s14 : gO h13 (.ref 35) 0 2 = some 37 := G13.fo rfl
  have t14 : gO h13 (.ref 15) 0 2 = some 17 := H13.fo rfl
  obtain ⟨h14, A14, e14, H14, G14, u14, f14⟩ := copy_at (k := 14) H13 G13 u13 ⟨by decide, by decide, by decide, by decide⟩
  have w14 : cpI h13 (.ref 37) 0 (.ref 17) 0 60 = some h14 := e14
  have s15 : gO h14 (.ref 35) 0 3 = some 38 := G14.fo rfl
  have t15 : gO h14 (.ref 15) 0 3 = some 18 := H14.fo rfl
  obtain ⟨h15, A15, e15, H15, G15, u15, f15⟩ := copy_at (k := 15) H14 G14 u14 ⟨by decide, by decide, by decide, by decide⟩
  have w15 : cpI h14 (.ref 38) 0 (.ref 18) 0 60 = some h15 := e15
  have s16 : gO h15 (.ref 35) 0 5 = some 39 := G15.fo rfl
  have t16 : gO h15 (.ref 15) 0 5 = some 19 := H15.fo rfl
  obtain ⟨h16, A16, e16, H16, G16, u16, f16⟩ := copy_at (k := 16) H15 G15 u15 ⟨by decide, by decide, by decide, by decide⟩
  have w16 : cpI h15 (.ref 39) 0 (.ref 19) 0 30 = some h16 := e16
  have s17 : gO h16 (.ref 35) 0 6 = some 40 := G16.fo rfl
  have t17 : gO h16 (.ref 15) 0 6 = some 20 := H16.fo rfl
  obtain ⟨h17, A17, e17, H17, G17, u17, f17⟩ := copy_at (k := 17) H16 G16 u16 ⟨by decide, by decide, by decide, by decide⟩
  have w17 : cpI h16 (.ref 40) 0 (.ref 20) 0 30 = some h17 := e17
  have s18 : gO h17 (.ref 35) 0 7 = some 41 := G17.fo rfl
  have t18 : gO h17 (.ref 15) 0 7 = some 21 := H17.fo rfl
  obtain ⟨h18, A18, e18, H18, G18, u18, f18⟩ := copy_at (k := 18) H17 G17 u17 ⟨by decide, by decide, by decide, by decide⟩
  have w18 : cpI h17 (.ref 41) 0 (.ref 21) 0 30 = some h18 := e18
  have s19 : gO h18 (.ref 35) 0 8 = some 42 := G18.fo rfl
  have t19 : gO h18 (.ref 15) 0 8 = some 22 := H18.fo rfl
  obtain ⟨h19, A19, e19, H19, G19, u19, f19⟩ := copy_at (k := 19) H18 G18 u18 ⟨by decide, by decide, by decide, by decide⟩
  have w19 : cpI h18 (.ref 42) 0 (.ref 22) 0 30 = some h19 := e19
  refine ⟨h19, A19, ?_, H19, G19, u19, (((((((f1.trans f2).trans f13).trans f14).trans f15).trans f16).trans f17).trans f18).trans f19⟩
  unfold s_X0_take
  rw [a1, Option.bind_some, e1, Option.bind_some, a2, Option.bind_some, e2, Option.bind_some]
  rw [s13, Option.bind_some, t13, Option.bind_some, w13, Option.bind_some]
  rw [s14, Option.bind_some, t14, Option.bind_some, w14, Option.bind_some]
  rw [s15, Option.bind_some, t15, Option.bind_some, w15, Option.bind_some]
  rw [s16, Option.bind_some, t16, Option.bind_some, w16, Option.bind_some]
  rw [s17, Option.bind_some, t17, Option.bind_some, w17, Option.bind_some]
  rw [s18, Option.bind_some, t18, Option.bind_some, w18, Option.bind_some]
  rw [s19, Option.bind_some, t19, Option.bind_some, w19, Option.bind_some]
theorem takeM_at {σ : pTh} (H : isM h 3 A N F) (G : isM h 23 B M E) (D : cD B M E σ) : ∃ h' A' N' F', s_X2_take 3 23 h = some (.inl none, h') ∧ isM h' 3 A' N' (meas A' (thM σ) F') ∧ isM h' 23 B M E ∧ cD A' N' (meas A' (thM σ) F') σ ∧ FrT h h' := by
  have u0 : upTo A B 1 := fun k j a b _ => absurd b.1 (by omega)
  have H0 := H
  have G0 := G
  have s1 : gO h (.ref 23) 2 0 = some 24 := G0.mo rfl
  have t1 : gO h (.ref 3) 2 0 = some 4 := H0.mo rfl
  obtain ⟨h1, A1, e1, H1, G1, u1, f1⟩ := copy_at (k := 1) H0 G0 u0 ⟨by decide, by decide, by decide, by decide⟩
  have l1 : lnA h (.ref 4) = some (jI 5) := lnA_to (ltE (by decide)) (H0.cell (k := 1) ⟨by decide, by decide, by decide, by decide⟩)
  have w1 : cpI h (.ref 24) 0 (.ref 4) 0 (jI 5) = some h1 := e1
  have s2 : gO h1 (.ref 23) 2 1 = some 25 := G1.mo rfl
  have t2 : gO h1 (.ref 3) 2 1 = some 5 := H1.mo rfl
  have l2 : lnA h1 (.ref 5) = some (jI 11) := lnA_to (ltE (by decide)) H1.2.2.2.1
  obtain ⟨h2, N2, w2, H2, G2, n2, f2⟩ := copyN_at H1 G1
  have u2 := u1.skip (K := 2) (fun z => z.2.1 rfl)
  have s3 : gO h2 (.ref 23) 2 2 = some 26 := G2.mo rfl
  have t3 : gO h2 (.ref 3) 2 2 = some 6 := H2.mo rfl
  obtain ⟨h3, A3, e3, H3, G3, u3, f3⟩ := copy_at (k := 3) H2 G2 u2 ⟨by decide, by decide, by decide, by decide⟩
  have w3 : cpI h2 (.ref 26) 0 (.ref 6) 0 9 = some h3 := e3
  have s4 : gO h3 (.ref 23) 2 3 = some 27 := G3.mo rfl
  have t4 : gO h3 (.ref 3) 2 3 = some 7 := H3.mo rfl
  obtain ⟨h4, A4, e4, H4, G4, u4, f4⟩ := copy_at (k := 4) H3 G3 u3 ⟨by decide, by decide, by decide, by decide⟩
  have w4 : cpI h3 (.ref 27) 0 (.ref 7) 0 9 = some h4 := e4
  have a5 : gI h4 (.ref 23) 2 4 = some (jI (E 4)) := gI_of (ltE (by decide)) G4.2.1 rfl
  obtain ⟨h0, e0, H0', y0, z0⟩ := H4.num (k := 4) (Or.inl rfl) (E 4)
  have f0 : FrT h4 h0 := ⟨y0, fun i hi => z0 i (by omega)⟩
  have G0' : isM h0 23 B M E := G4.of (fun i i1 i2 => f0.2 i (by omega))
  have s5 : gO h0 (.ref 23) 2 5 = some 28 := G0'.mo rfl
  have t5 : gO h0 (.ref 3) 2 5 = some 8 := H0'.mo rfl
  obtain ⟨h5, A5, e5, H5, G5, u5, f5⟩ := copy_at (k := 5) H0' G0' u4 ⟨by decide, by decide, by decide, by decide⟩
  have w5 : cpI h0 (.ref 28) 0 (.ref 8) 0 8 = some h5 := e5
  have s6 : gO h5 (.ref 23) 2 6 = some 29 := G5.mo rfl
  have t6 : gO h5 (.ref 3) 2 6 = some 9 := H5.mo rfl
  obtain ⟨h6, A6, e6, H6, G6, u6, f6⟩ := copy_at (k := 6) H5 G5 u5 ⟨by decide, by decide, by decide, by decide⟩
  have w6 : cpI h5 (.ref 29) 0 (.ref 9) 0 8 = some h6 := e6
  have s7 : gO h6 (.ref 23) 2 7 = some 30 := G6.mo rfl
  have t7 : gO h6 (.ref 3) 2 7 = some 10 := H6.mo rfl
  obtain ⟨h7, A7, e7, H7, G7, u7, f7⟩ := copy_at (k := 7) H6 G6 u6 ⟨by decide, by decide, by decide, by decide⟩
  have w7 : cpI h6 (.ref 30) 0 (.ref 10) 0 8 = some h7 := e7
  have s8 : gO h7 (.ref 23) 2 8 = some 31 := G7.mo rfl
  have t8 : gO h7 (.ref 3) 2 8 = some 11 := H7.mo rfl
  obtain ⟨h8, A8, e8, H8, G8, u8, f8⟩ := copy_at (k := 8) H7 G7 u7 ⟨by decide, by decide, by decide, by decide⟩
  have w8 : cpI h7 (.ref 31) 0 (.ref 11) 0 8 = some h8 := e8
  have s9 : gO h8 (.ref 23) 2 9 = some 32 := G8.mo rfl
  have t9 : gO h8 (.ref 3) 2 9 = some 12 := H8.mo rfl
  obtain ⟨h9, A9, e9, H9, G9, u9, f9⟩ := copy_at (k := 9) H8 G8 u8 ⟨by decide, by decide, by decide, by decide⟩
  have w9 : cpI h8 (.ref 32) 0 (.ref 12) 0 8 = some h9 := e9
  have s10 : gO h9 (.ref 23) 2 10 = some 33 := G9.mo rfl
  have t10 : gO h9 (.ref 3) 2 10 = some 13 := H9.mo rfl
  obtain ⟨h10, A10, e10, H10, G10, u10, f10⟩ := copy_at (k := 10) H9 G9 u9 ⟨by decide, by decide, by decide, by decide⟩
  have l10 : lnA h9 (.ref 13) = some (jI 2) := lnA_to (ltE (by decide)) (H9.cell (k := 10) ⟨by decide, by decide, by decide, by decide⟩)
  have w10 : cpI h9 (.ref 33) 0 (.ref 13) 0 (jI 2) = some h10 := e10
  have s11 : gO h10 (.ref 23) 2 11 = some 34 := G10.mo rfl
  have t11 : gO h10 (.ref 3) 2 11 = some 14 := H10.mo rfl
  obtain ⟨h11, A11, e11, H11, G11, u11, f11⟩ := copy_at (k := 11) H10 G10 u10 ⟨by decide, by decide, by decide, by decide⟩
  have l11 : lnA h10 (.ref 14) = some (jI 2) := lnA_to (ltE (by decide)) (H10.cell (k := 11) ⟨by decide, by decide, by decide, by decide⟩)
  have w11 : cpI h10 (.ref 34) 0 (.ref 14) 0 (jI 2) = some h11 := e11
  have u12 := u11.skip (K := 12) (fun z => z.2.2.1 rfl)
  have s16 : gO h11 (.ref 3) 2 16 = some 15 := H11.mo rfl
  have t16 : gO h11 (.ref 23) 2 16 = some 35 := G11.mo rfl
  have k15 : ∀ {β : Type} {y : Option β}, kO h11 15 0 y = y := kO_of (ltE (by decide)) H11.2.2.2.2.2.2.1
  obtain ⟨h12, A12, e12, H12, G12, u13, f12⟩ := takeF_at H11 G11 u12
  have hm : ∀ k, k < 5 → A12 1 k = jI (thM σ k) := fun k hk => (u13 1 k (by decide) ⟨by decide, by decide, by decide, by decide⟩ hk).trans (D.1 k hk).1
  have m := measure_at H12 D.okm hm
  refine ⟨_, A12, N2, upd2 (upd2 (upd2 F 4 (E 4)) 20 (E 20)) 24 (E 24), ?_, H12.obj rfl rfl, (G12.set (by omega)), D.same u13 n2 rfl rfl rfl, ?_⟩
  · unfold s_X2_take
    rw [s1, Option.bind_some, t1, Option.bind_some, Option.bind_some, l1, Option.bind_some, w1, Option.bind_some]
    rw [s2, Option.bind_some, t2, Option.bind_some, Option.bind_some, l2, Option.bind_some, w2, Option.bind_some]
    rw [s3, Option.bind_some, t3, Option.bind_some, w3, Option.bind_some]
    rw [s4, Option.bind_some, t4, Option.bind_some, w4, Option.bind_some]
    rw [a5, Option.bind_some, e0, Option.bind_some]
    rw [s5, Option.bind_some, t5, Option.bind_some, w5, Option.bind_some]
    rw [s6, Option.bind_some, t6, Option.bind_some, w6, Option.bind_some]
    rw [s7, Option.bind_some, t7, Option.bind_some, w7, Option.bind_some]
    rw [s8, Option.bind_some, t8, Option.bind_some, w8, Option.bind_some]
    rw [s9, Option.bind_some, t9, Option.bind_some, w9, Option.bind_some]
    rw [s10, Option.bind_some, t10, Option.bind_some, Option.bind_some, l10, Option.bind_some, w10, Option.bind_some]
    rw [s11, Option.bind_some, t11, Option.bind_some, Option.bind_some, l11, Option.bind_some, w11, Option.bind_some]
    rw [s16, Option.bind_some, t16, Option.bind_some, k15, cN_of e12, H12.kO, cN_of m]
  · exact ((((((((((((f1.trans f2).trans f3).trans f4).trans f0).trans f5).trans f6).trans f7).trans f8).trans f9).trans f10).trans f11).trans f12).trans ⟨List.length_set, fun i hi => set_ne (by omega)⟩
end
