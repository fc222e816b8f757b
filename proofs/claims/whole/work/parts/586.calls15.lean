/-! the law's own worst: what is thrown is caught -/
theorem SS.le {h : aH} {c z c2 z2 : Nat} (s : SS h c z) (hc : c2 ≤ c) (hz : z2 ≤ z) : SS h c2 z2 := by
  rcases s with ⟨γ, S, V, Z, D, Ln, K, R, c1, z1⟩ | ⟨γ, τ, t2, S, V, Z, D, Ln, N, K, sp, tl, R, c1, z1⟩
  · exact Or.inl ⟨γ, S, V, Z, D, Ln, K, R, Nat.le_trans hc c1, Nat.le_trans hz z1⟩
  · exact Or.inr ⟨γ, τ, t2, S, V, Z, D, Ln, N, K, sp, tl, R, Nat.le_trans hc c1, Nat.le_trans hz z1⟩
def wOK (a1 a2 a3 : Int32) : Prop := ∀ h c z, SS h c z → ∃ (k : Int32) (h1 : aH) (n y : Nat) (x : Int32) (h2 : aH), s_L_worst 0 a1 a2 a3 183 h = some (.inl (some (.int k)), h1, n, y) ∧ kO h1 104 14 (some ()) = some () ∧ s_X14_worst 104 a1 a2 a3 h1 = some (.inl (some (.int x)), h2) ∧ s_X14_thrown 104 h2 = some (.inl (some (.int k)), h2) ∧ (k = 0 → ldJ h2 (.ref 183) 0 = some x.toInt64) ∧ ∃ c1 z1, SS h2 c1 z1 ∧ c + n ≤ c1 + 1 ∧ z + y ≤ z1 + 6
theorem thrown_of {h : aH} {x : Int32} (g : gI h (.ref 104) 14 0 = some x) : s_X14_thrown 104 h = some (.inl (some (.int x)), h) := by
  unfold s_X14_thrown
  rw [g, Option.bind_some]
theorem worst30 {h h1 : aH} {a b c : Int32} (e1 : pF h (.ref 104) 14 0 (.int 1) = some h1) (g : gI h1 (.ref 104) 14 0 = some 1) : s_X14_worst_30 104 a b c 104 h = some (.inl (some (.int 0)), h1) := by
  unfold s_X14_worst_30 s_X14_worst_35
  rw [e1, Option.bind_some, g, Option.bind_some, if_neg (by decide)]
theorem Lworst_t {a b c : Int32} {h : aH} (k0 : ∀ {β : Type} {y : Option β}, kO h 0 11 y = y) (e : s_X11_worst 0 a b c h = some (.inr (nC, aE), h, 1, 6)) : s_L_worst 0 a b c 183 h = some (.inl (some (.int 1)), h, 1, 6) := by
  unfold s_L_worst
  rw [k0, e]
  exact if_pos rfl
section
variable {γ : gSt} {τ : tSt}
theorem RTx.g0 {h h1 : aH} {t2 : Nat} {S : Nat → Int32} {wd : Int64} {t f : Nat} {nv : Value} {V : Nat → Nat → Int32} {Z : Nat → Nat → Int64} {B : Nat → Nat → Int32} {W : Nat → Int64} {G : Nat → Nat} (R : RTx h t2 γ τ S wd t f nv V Z B W G) (ok : okτ τ) (e : s_X14_finds 104 h = some (.inl none, h1)) : gI h1 (.ref 104) 14 0 = some (S 0) := by
  obtain ⟨g, tp, C, -, d, l, gd, gl, cs, f1, f2, -⟩ := id R
  obtain ⟨h3, V3, e3, C3, -⟩ := C.finds ok.1 gd gl cs l f1 f2
  rw [e] at e3
  cases e3
  exact C3.1.gS (k := 0) rfl
/-- what is thrown, where a Thing stands -/
theorem SM.thrown {a b c : Int32} {h : aH} {n z t2 : Nat} (M : SM h n z t2 γ τ γ τ) (hc : ∀ S V Z D Ln N, KT h S V Z D Ln 197 N γ τ → s_X11_worst 0 a b c h = some (.inr (nC, aE), h, 1, 6)) (hr : ∀ S wd t f nv V Z B W G, RTx h t2 γ τ S wd t f nv V Z B W G → s_X14_worst 104 a b c h = s_X14_worst_30 104 a b c 104 h) : ∃ (k : Int32) (h1 : aH) (n' y : Nat) (x : Int32) (h2 : aH), s_L_worst 0 a b c 183 h = some (.inl (some (.int k)), h1, n', y) ∧ kO h1 104 14 (some ()) = some () ∧ s_X14_worst 104 a b c h1 = some (.inl (some (.int x)), h2) ∧ s_X14_thrown 104 h2 = some (.inl (some (.int k)), h2) ∧ (k = 0 → ldJ h2 (.ref 183) 0 = some x.toInt64) ∧ ∃ c1 z1, SS h2 c1 z1 ∧ n + n' ≤ c1 + 1 ∧ z + y ≤ z1 + 6 := by
  obtain ⟨S, V, Z, D, Ln, N, K, sp, tl, R, c1, z1⟩ := M
  obtain ⟨S', wd, t, f, nv, V', Z', B, W, G, R⟩ := R
  obtain ⟨h1, e1, R1, O1⟩ := R.th 1
  have g : gI h1 (.ref 104) 14 0 = some 1 := R1.1.1.gS (k := 0) rfl
  have lt : 183 < t2 := R.2.1.lt
  refine ⟨1, h, 1, 6, 0, h1, Lworst_t K.k0 (hc _ _ _ _ _ _ K), R.1.1.kO, (hr _ _ _ _ _ _ _ _ _ _ R).trans (worst30 e1 g), thrown_of g, fun q => absurd q (by decide), n, z, Or.inr ⟨γ, τ, t2, S, V, Z, D, Ln, N, K.rf (Rf.ou O1) sp (by omega), sp, by have := O1.1; omega, R1.rt, c1, z1⟩, by omega, by omega⟩
end
theorem call_worst (x p w : Int32) : wOK x p w := by
  intro h c z s
  rcases s with ⟨γ, M⟩ | ⟨γ, τ, t2, M⟩
  · obtain ⟨S, V, Z, D, Ln, K, R, c1, z1⟩ := M
    obtain ⟨h1, e1, R1, O1⟩ := R.th 1
    have g : gI h1 (.ref 104) 14 0 = some 1 := by
      obtain ⟨S, wd, nv, V, Z, g, -⟩ := R
      obtain ⟨h2, e2, X2, O2⟩ := g.1.pS (k := 0) rfl 1
      rw [e1] at e2
      cases e2
      exact X2.gS (k := 0) rfl
    have ec : s_X11_worst 0 x p w h = some (.inr (nC, aE), h, 1, 6) := by
      unfold s_X11_worst s_X11_worst_28
      rw [K.k0, cI_of (hasCell_N K x), if_pos rfl]
      rfl
    have er : s_X14_worst 104 x p w h = some (.inl (some (.int 0)), h1) := by
      unfold s_X14_worst
      rw [R.k0, cI_of (isCell_N R x), if_pos rfl, worst30 e1 g]
    exact ⟨1, h, 1, 6, 0, h1, Lworst_t K.k0 ec, R.k0, er, thrown_of g, fun q => absurd q (by decide), c, z, Or.inl ⟨γ, S, V, Z, D, Ln, K.ou O1, R1, c1, z1⟩, by omega, by omega⟩
  · have og : okτ τ ∧ liT τ := by
      obtain ⟨S, V, Z, D, Ln, N, K, -⟩ := M
      exact ⟨K.2.2.2.2.1, K.lim⟩
    obtain ⟨ot, lt⟩ := og
    rcases in_or x (show uF τ 12 < 2147483648 by omega) with ⟨d, hd, rfl⟩ | q
    · by_cases q1 : (1 : Int32) ≤ p ∧ p ≤ 20
      · obtain ⟨q1, q2⟩ := q1
        obtain ⟨k, hk, rfl⟩ : ∃ k, k < 21 ∧ p = jI k := by
          rcases in_or p (show 21 < 2147483648 by decide) with ⟨k, hk, rfl⟩ | z
          · exact ⟨k, hk, rfl⟩
          · exfalso
            have a1 := Int32.le_iff_toInt_le.mp q1
            have a2 := Int32.le_iff_toInt_le.mp q2
            rcases z with z | z
            · have := Int32.lt_iff_toInt_lt.mp z
              have e0 : (1 : Int32).toInt = 1 := by decide
              have e1 : (0 : Int32).toInt = 0 := by decide
              omega
            · have := Int32.le_iff_toInt_le.mp z
              have e0 : (jI 21).toInt = 21 := by decide
              have e1 : (20 : Int32).toInt = 20 := by decide
              omega
        have n0 : ¬ jI k < 1 := i32_nlt.mpr q1
        have n2 : ¬ (20 : Int32) < jI k := i32_nlt.mpr q2
        have k1 : 1 ≤ k := by
          have := Int32.le_iff_toInt_le.mp q1
          rcases Nat.eq_zero_or_pos k with e | e
          · subst e
            exact absurd this (by decide)
          · exact e
        rcases in_or w (show k < 2147483648 by omega) with ⟨i, hi, rfl⟩ | qw
        · obtain ⟨S, V, Z, D, Ln, N, K, sp, tl, R, c1, z1⟩ := M
          obtain ⟨h2, S2, V2, D2, L2, n, y, hz', e2, K2, py, lt2, mv, ln, O2, G2, ct1, ct2⟩ := K.readyPayments (to := k) (by omega)
          have gd2 : gdC V2 (uG τ) := K2.2.2.2.2.2.1.1.1
          have hd10 := hd10_go K2.2.2.1 mv ln gd2 ot.2.1 py lt2 hi (i + 1) 0 FU (jI d) (-2) (by omega) (by unfold FU; omega) (Or.inr ⟨d, rfl, hd⟩)
          have hd10' : s_X4_hardest 78 (jI d) (jI k) (jI i) h2 = _ := hd10
          generalize hv : hdS (ldV (uA τ) (uM τ) (uF τ)) (uF τ 14) (uG τ) (bst (ldV (uA τ) (uM τ) (uF τ)) (uF τ 13) (uF τ 14) (uG τ) (uC τ)) k (i + 1) 0 (jI d) (-2) = v at hd10'
          have ec : s_X11_worst 0 (jI d) (jI k) (jI i) h = some (.inl (some (.int v)), h2, 0 + n, 0 + y) := by
            unfold s_X11_worst
            rw [K.k0, cI_of (hasCell_in K hd), if_neg (by decide), if_neg n0, if_neg n2, if_neg (jI_neg (by omega)), if_pos ((jI_lt (by omega) (by omega)).mpr hi), K.k0, dR_of e2, kO_of (ltE (by decide)) (K2.1.1.1 78 rfl), cI_of hd10', ckw rfl, ck_of (Nat.zero_le _) (Nat.zero_le _)]
          have RT2 := R.oa (Oa.of O2) K.1.1.2.2.2.2 sp
          have sp2 := sp.gr G2 tl
          have lt0 : 183 < t2 := by
            obtain ⟨_, _, _, _, _, _, _, _, _, _, _, tp, -⟩ := R
            exact tp.1
          obtain ⟨S', wd, t, f, nv, V', Z', B, W, G, R2⟩ := RT2
          obtain ⟨h3, e3, X3, O3⟩ := R2.1.1.stJ (a := 183) rfl (j := 0) (by decide) v.toInt64
          have R3 := R2.scr (RC.to R2.2.2.1 X3 O3) O3 Sm.refl (SmZ.refl.upd (a := 183) (by decide)) smS.refl
          have K3 := K2.rf (Rf.ou O3) sp2 (by omega)
          obtain ⟨h4, e4, R4, O4⟩ := R3.th 0
          obtain ⟨h5, S5, V5, e5, R5, fd, O5⟩ := R4.finds ot
          have g4 : gI h4 (.ref 104) 14 0 = some 0 := R4.1.1.gS (k := 0) rfl
          have g5 : gI h5 (.ref 104) 14 0 = some 0 := R4.g0 ot e5
          have gR : gdR V5 (uF τ 12) (uG τ) := R5.2.2.2.2.2.2.1
          have w61 := w61_go R5.2.2.1 R5.2.2.2.2.2.1 gR fd.2.2.2.2.2 (fun k c k1 gc => bst_law lt.2.2.2.2.1.2.1 gc k1) (to := k) (by omega) hi (i + 1) 0 FU (jI d) (-2) (by omega) (by unfold FU; omega) (Or.inr ⟨d, rfl, hd⟩)
          rw [hv] at w61
          have er : s_X14_worst 104 (jI d) (jI k) (jI i) h3 = some (.inl (some (.int v)), h5) := by
            have ii : jI k - 1 = jI (k - 1) := jI_sub (by omega)
            unfold s_X14_worst
            rw [R3.k0, cI_of (isCell_in R3 hd), if_neg (by decide), cI_of (inR_span q1 q2 h3), if_neg (by decide), cI_of (inR_in hi (by omega) h3), if_neg (by decide)]
            unfold s_X14_worst_35
            rw [e4, Option.bind_some, g4, Option.bind_some, if_pos (by decide), R4.k0, cN_of e5]
            exact w61
          have z0 : ldJ h5 (.ref 183) 0 = some v.toInt64 := by
            have e := R5.1.1.ldJ (a := 183) rfl (j := 0) (by decide)
            rw [upd2_eq, updL_eq] at e
            exact e
          have l1 : h.length ≤ h2.length := O2.1
          have l3 := O3.1
          have l4 := O4.1
          have l5 := O5.1
          have K5 := (K3.rf (Rf.ou O4) sp2 (by omega)).rf (Rf.ou O5) sp2 (by omega)
          refine ⟨0, h3, 0 + n, 0 + y, v, h5, ?_, X3.kO, er, thrown_of g5, fun _ => z0, c + (0 + n), z + (0 + y), Or.inr ⟨γ, τ, t2, S2, V2, Z, D2, L2, N, K5, sp2, by omega, R5.rt, by omega, by omega⟩, by omega, by omega⟩
          unfold s_L_worst
          rw [K.k0, ec]
          show (stJ h2 (.ref 183) (jI 0) v.toInt64).bind _ = _
          rw [e3, Option.bind_some]
        · refine M.thrown (fun S V Z D Ln N K => ?_) fun S wd t f nv V Z B W G R => ?_
          · unfold s_X11_worst s_X11_worst_28
            rw [K.k0, cI_of (hasCell_in K hd), if_neg (by decide), if_neg n0, if_neg n2]
            by_cases z : w < 0
            · rw [if_pos z]
              rfl
            · rw [if_neg z, if_neg (i32_nlt.mpr (qw.resolve_left z))]
              rfl
          · unfold s_X14_worst
            rw [R.k0, cI_of (isCell_in R hd), if_neg (by decide), cI_of (inR_span q1 q2 h), if_neg (by decide), cI_of (inR_out qw (by omega) h), if_pos rfl]
      · have hz2 : p < 1 ∨ 20 < p := by
          by_cases z : p < 1
          · exact Or.inl z
          · exact Or.inr (i32_nle.mp fun z2 => q1 ⟨i32_nlt.mp z, z2⟩)
        refine M.thrown (fun S V Z D Ln N K => ?_) fun S wd t f nv V Z B W G R => ?_
        · unfold s_X11_worst s_X11_worst_28
          rw [K.k0, cI_of (hasCell_in K hd), if_neg (by decide)]
          by_cases z : p < 1
          · rw [if_pos z]
            rfl
          · rw [if_neg z, if_pos (hz2.resolve_left z)]
            rfl
        · unfold s_X14_worst
          rw [R.k0, cI_of (isCell_in R hd), if_neg (by decide), cI_of (inR_spanN hz2 h), if_pos rfl]
    · refine M.thrown (fun S V Z D Ln N K => ?_) fun S wd t f nv V Z B W G R => ?_
      · unfold s_X11_worst s_X11_worst_28
        rw [K.k0, cI_of (hasCell_out K q), if_pos rfl]
        rfl
      · unfold s_X14_worst
        rw [R.k0, cI_of (isCell_out R q), if_pos rfl]
