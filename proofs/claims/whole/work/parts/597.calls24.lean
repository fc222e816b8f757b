/-! calls: thing -/
def tOK (n : Int32) : Prop := ∀ h c z, SS h c z → ∃ x h1 n1 y1 h2 n2 y2, s_X11_thing 0 n h = some (.inl (some (.int x)), h1, n1, y1) ∧ s_X14_thing 104 n h1 = some (.inl (some (.int x)), h2, n2, y2) ∧ kO h1 104 14 (some ()) = some () ∧ SS h2 (c + n1 + n2) (z + y1 + y2)
theorem thing_noC {h h1 : aH} {n p : Int32} (k0 : ∀ {β : Type} {y : Option β}, kO h 0 11 y = y) (g1 : gI h (.ref 0) 11 1 = some p) (e1 : pF h (.ref 0) 11 3 (.int 2) = some h1) (hn : n < 0 ∨ ¬ n ≤ p) : s_X11_thing 0 n h = some (.inl (some (.int (-1))), h1, 0, 0) := by
  have t : s_X11_thing_12 0 h 0 0 = some (.inl (some (.int (-1))), h1, 0, 0) := by
    unfold s_X11_thing_12
    rw [k0, cI_of (refuseW e1)]
    rfl
  unfold s_X11_thing
  by_cases q : n < 0
  · rw [if_pos q, t]
  · rw [if_neg q, g1, Option.bind_some, if_neg (hn.resolve_left q), t]
theorem thing_noR {h h1 h2 : aH} {n p : Int32} (k0 : ∀ {β : Type} {y : Option β}, kO h1 104 14 y = y) (e1 : pF h (.ref 104) 14 0 (.int 0) = some h1) (g9 : gI h1 (.ref 104) 14 9 = some p) (e2 : s_X14_refused 104 2 h1 = some (.inl (some (.int (-1))), h2)) (hn : n < 0 ∨ ¬ n ≤ p) : s_X14_thing 104 n h = some (.inl (some (.int (-1))), h2, 0, 0) := by
  have t : s_X14_thing_17 104 h1 0 0 = some (.inl (some (.int (-1))), h2, 0, 0) := by
    unfold s_X14_thing_17
    rw [k0, cI_of e2]
    rfl
  unfold s_X14_thing
  rw [e1, Option.bind_some]
  by_cases q : n < 0
  · rw [if_pos q, t]
  · rw [if_neg q, g9, Option.bind_some, if_neg (hn.resolve_left q), t]
theorem num_or (n : Int32) {p : Nat} (hp : p ≤ 400) : (n < 0 ∨ ¬ n ≤ jI p) ∨ ∃ k, k ≤ p ∧ n = jI k := by
  rcases in_or n (show p + 1 < 2147483648 by omega) with ⟨k, hk, e⟩ | z | z
  · exact Or.inr ⟨k, by omega, e⟩
  · exact Or.inl (Or.inl z)
  · refine Or.inl (Or.inr fun y => ?_)
    have a := Int32.le_iff_toInt_le.mp z
    have b := Int32.le_iff_toInt_le.mp y
    rw [jI_int (by omega)] at a
    rw [jI_int (by omega)] at b
    omega
theorem KN.fq {h h' : aH} {S V : Nat → Nat → Int32} {Z : Nat → Nat → Int64} {D Ln : Nat → Nat} {b : Nat} {γ : gSt} (K : KN h S V Z D Ln b γ) (O2 : Fq 105 h h') : KN h' S V Z D Ln b γ := by
  obtain ⟨kg, k2, A, N, F, H⟩ := K
  have O : Rf aE h h' := ⟨O2.1, fun k hk => O2.2 k (rfC_out (by omega)) (by omega) (by omega)⟩
  exact ⟨kg.rf O (fun i hi => Or.inl (kg.1.dlt hi)) (by unfold aE; omega), k2, A, N, F, H.of (fun k _ k2 => O.2 k (Or.inl (by omega)))⟩
theorem isT.nw {h h' : aH} {o : Nat} {B : Nat → Nat → Int32} {W : Nat → Int64} {G : Nat → Nat} (H : isT h o B W G) (O : Nw h h') (hl : 184 ≤ h.length) (ho : o = 120 ∨ o = 133) : isT h' o B W G := by
  have z : ∀ k, k ≤ 12 → h'[o + k]? = h[o + k]? := fun k hk => O.2 _ (by omega) (okt_cell (by unfold okt; omega) hk) (by omega) (by omega)
  obtain ⟨a, h0, h1, h2⟩ := H
  exact ⟨a, by rw [show o = o + 0 from rfl, z 0 (by decide)]; exact h0, by rw [z 6 (by decide)]; exact h1, fun j j1 j2 j3 => by rw [z j j2]; exact h2 j j1 j2 j3⟩
theorem call_thing (n : Int32) : tOK n := by
  intro h c z s
  rcases s with ⟨γ, S, V, Z, D, Ln, K, R, c1, z1⟩ | ⟨γ, τ, t2, S, V, Z, D, Ln, N, K, sp, tl, R, c1, z1⟩
  · obtain ⟨oT, o4, o3, -⟩ := K.1.2.2.1
    rcases num_or n o4 with q | ⟨k, hk, rfl⟩
    · have g1 : gI h (.ref 0) 11 1 = some (jI (qP γ)) := by rw [← K.1.2.2.2.1]; exact gI_of (ltE (by decide)) (K.1.1.1 0 rfl) rfl
      obtain ⟨h1, e1, K1, O1⟩ := K.tw (w := 2) (by decide)
      have R1 := R.oa (Oa.of O1) K.1.1.2.2.2.2
      obtain ⟨h2, e2, R2, O2⟩ := R1.th 0
      obtain ⟨h3, e3, R3, O3⟩ := R2.refused 2
      have g9 : gI h2 (.ref 104) 14 9 = some (jI (qP γ)) := by
        obtain ⟨S, wd, nv, V, Z, g, -⟩ := R2
        rw [← g.2.2.2.1]
        exact g.1.gS rfl
      exact ⟨-1, h1, 0, 0, h3, 0, 0, thing_noC K.k0 g1 e1 q, thing_noR R2.k0 e2 g9 e3 q, R1.k0, Or.inl ⟨_, _, V, Z, D, Ln, (K1.ou O2).ou O3, R3, c1, z1⟩⟩
    · obtain ⟨kg, ⟨k02, k95⟩, A0, N0, F0, H0⟩ := id K
      obtain ⟨S', wd, nv, V', Z', g, B, W, G, T, h176⟩ := id R
      cases px : thP (qT γ) k 401 th0 0 with
      | inl e =>
        obtain ⟨h1, e1, X1, P1, O1, M1⟩ := thingC_bad oT o4 hk kg.1 kg.2.1 kg.tp kg.2.2.2.1 px
        have K1 := K.bad X1 P1 M1
        obtain ⟨S', wd, nv, V', Z', g, B, W, G, T, h176⟩ := R.oa O1 K.1.1.2.2.2.2
        obtain ⟨h2, S2, wd2, e2, X2, aS, O2, T2, P2⟩ := thingR_bad g.1 T (Or.inl rfl) (Or.inl rfl) g.2.1 g.2.2.1 oT g.2.2.2.1 hk o4 px
        obtain ⟨B2, W2, G2, T2⟩ := T2
        have g2 := g.bad X2 aS O2 (Or.inl rfl) P2
        exact ⟨-1, h1, 0, 0, h2, 0, 0, e1, e2, g.1.kO, Or.inl ⟨_, _, V, Z, D, Ln, K1.fq O2, ⟨S2, wd2, .ref 105, V', Z', g2, B2, W2, G2, T2, h176⟩, c1, z1⟩⟩
      | inr σ =>
        obtain ⟨h1, S1, V1, D1, L1, A, N, F, n1, y1, e1, K1, cd, oW, oC, O1, G1, ct1, ct2⟩ := kg.read H0 (tv := fun _ => 0) k95 hk px
        obtain ⟨S', wd, nv, V', Z', g, B, W, G, T, h176⟩ := R.oa O1 K.1.1.2.2.2.2
        have ln := K1.1.1.2.2.2.2.len
        have l184 := K1.1.1.2.2.2.2.2.2.2.2.1
        obtain ⟨h2, S2, wd2, V2, B2, W2, G2, e2, C2, d2, T2, ⟨N1, N2⟩, P2, tS, tV⟩ := thingR_new g.1 T (Or.inl rfl) (Or.inl rfl) g.2.1 g.2.2.1 oT g.2.2.2.1 hk o4 px cd oW oC (Nat.lt_of_le_of_lt (Nat.add_le_add_right ln 14) (by decide)) l184 (by omega)
        have nw : Nw h1 h2 := ⟨N1, fun k a b c d => N2 k a b c (by omega)⟩
        have K2 := K1.nw nw
        have tp : thP2 105 h1.length h1.length := ⟨by omega, by have := Nat.lt_of_le_of_lt (Nat.add_le_add_right ln 14) (show _ < aE by decide); omega, Or.inl ⟨rfl, rfl⟩⟩
        have iT : ∀ o B W G, o = 120 ∨ o = 133 → isT h1 o B W G → isT h2 o B W G := by
          intro o B W G ho H
          exact H.nw nw l184 ho
        have g2 := g.nw C2.1 tS tV iT P2
        have R2 := RTx.nw g2 tp C2 d2 ⟨_, _, _, T2⟩ tS tV h176
        have sp : sepD D1 h1.length := fun i hi => Or.inl (by
          have e := K1.1.1.2.2.2.1 i hi
          exact (List.getElem?_eq_some_iff.mp e).1)
        exact ⟨_, h1, n1, y1, h2, 13, 906, e1, e2, g.1.kO, Or.inr ⟨_, _, h1.length, S1, V1, Z, D1, L1, N, K2, sp, by omega, R2.rt, by omega, by omega⟩⟩
  · obtain ⟨oT, o4, o3, -⟩ := K.1.2.2.1
    rcases num_or n o4 with q | ⟨k, hk, rfl⟩
    · have g1 : gI h (.ref 0) 11 1 = some (jI (qP γ)) := by rw [← K.1.2.2.2.1]; exact gI_of (ltE (by decide)) (K.1.1.1 0 rfl) rfl
      obtain ⟨h1, e1, K1, O1⟩ := K.tw (w := 2) (by decide)
      obtain ⟨S', wd, t, f, nv, V', Z', B, W, G, R⟩ := R.oa (Oa.of O1) K.1.1.2.2.2.2 sp
      obtain ⟨h2, e2, R2, O2⟩ := R.th 0
      obtain ⟨h3, S3, e3, R3, O3⟩ := R2.refused 2
      have lt := R.2.1.lt
      have g9 : gI h2 (.ref 104) 14 9 = some (jI (qP γ)) := by
        rw [← R2.1.2.2.2.1]
        exact R2.1.1.gS rfl
      have l1 := O1.1
      have l2 := O2.1
      have l3 := O3.1
      exact ⟨-1, h1, 0, 0, h3, 0, 0, thing_noC K.k0 g1 e1 q, thing_noR R2.k0 e2 g9 e3 q, R.1.1.kO, Or.inr ⟨_, _, t2, _, V, Z, D, Ln, N, (K1.rf (Rf.ou O2) sp (by omega)).rf (Rf.ou O3) sp (by omega), sp, by omega, R3.rt, c1, z1⟩⟩
    · have H0 := K.2.2.1.2.1
      have kg := K.1
      cases px : thP (qT γ) k 401 th0 0 with
      | inl e =>
        obtain ⟨h1, e1, X1, P1, O1, M1⟩ := thingC_bad oT o4 hk kg.1 kg.2.1 kg.tp kg.2.2.2.1 px
        have K1 := K.bad X1 P1 M1
        obtain ⟨S', wd, t, f, nv, V', Z', B, W, G, R⟩ := R.oa O1 K.1.1.2.2.2.2 sp
        obtain ⟨Bf, Wf, Gf, Tf⟩ := R.2.2.2.1
        obtain ⟨f1, f2, f3, f4, f5⟩ := R.2.1.ff
        obtain ⟨h2, S2, wd2, e2, X2, aS, O2, T2, P2⟩ := thingR_bad R.1.1 Tf f2 f1 R.1.2.1 R.1.2.2.1 oT R.1.2.2.2.1 hk o4 px
        have R2 := R.bad X2 aS O2 T2 P2
        have lt := R.2.1.lt
        have l1 := O1.1
        have l2 := O2.1
        exact ⟨-1, h1, 0, 0, h2, 0, 0, e1, e2, R.1.1.kO, Or.inr ⟨_, _, t2, _, V, Z, D, Ln, N, K1.rf (Rf.fq O2 lt f5) sp (by omega), sp, by omega, R2.rt, c1, z1⟩⟩
      | inr σ =>
        have tl95 := K.2.2.2.2.2.2.2.2.1.2.2.2.2.1
        obtain ⟨h1, S1, V1, D1, L1, A, N1, F, n1, y1, e1, K1, cd, oW, oC, O1, G1, ct1, ct2⟩ := kg.read H0 (tv := uV τ) (fun j hj => (tl95 j hj).2) hk px
        obtain ⟨S', wd, t, f, nv, V', Z', B, W, G, R⟩ := R.oa O1 K.1.1.2.2.2.2 sp
        obtain ⟨Bf, Wf, Gf, Tf⟩ := R.2.2.2.1
        obtain ⟨f1, f2, f3, f4, f5⟩ := R.2.1.ff
        obtain ⟨h2, S2, wd2, V2, B2, W2, G2, e2, C2, d2, O2, P2, tS, tV⟩ := thingR_old R.1.1 Tf f2 f1 R.1.2.1 R.1.2.2.1 oT R.1.2.2.2.1 hk o4 px cd oW oC
        have lt := R.2.1.lt
        have sp1 := sp.gr G1 tl
        have hf : f = 105 ∨ 183 < f := by obtain ⟨a, b, c⟩ := R.2.1; omega
        have g2 := R.1.nw C2.1 tS tV (fun o B W G ho H => H.fq2 O2 hf ho) P2
        have R2 := RTx.nw g2 R.2.1.swap C2 d2 ⟨B, W, G, R.2.2.1.2.1.fq O2 f3 (by omega)⟩ tS tV (fun j hj => (R.2.2.2.2.2.2.2.2.2.2.2.2.2.1 j hj).2)
        have l1 := O1.1
        have l2 := O2.1
        exact ⟨_, h1, n1, y1, h2, 0, 0, e1, e2, R.1.1.kO, Or.inr ⟨_, _, t2, S1, V1, Z, D1, L1, N1, (show KT h1 S1 V1 Z D1 L1 197 N1 _ _ from K1).rf (Rf.fq O2 lt f5) sp1 (by omega), sp1, by omega, R2.rt, by omega, by omega⟩⟩
