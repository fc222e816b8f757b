/-! calls: good -/
section
variable {γ : gSt} {τ : tSt}
theorem KN.wish0 {h h1 : aH} {S V : Nat → Nat → Int32} {Z : Nat → Nat → Int64} {D Ln : Nat → Nat} {b : Nat} (K : KN h S V Z D Ln b γ) (e1 : pF h (.ref 0) 11 3 (.int 1) = some h1) (n : Int32) : s_X11_wishReadable 0 n h = some (.inl (some (.int 0)), h1) := by
  unfold s_X11_wishReadable
  rw [K.g2, Option.bind_some, if_pos rfl, e1, Option.bind_some]
  rfl
theorem KT.g1 {h : aH} {S V : Nat → Nat → Int32} {Z : Nat → Nat → Int64} {D Ln : Nat → Nat} {b : Nat} {N : Nat → Int64} (K : KT h S V Z D Ln b N γ τ) : gI h (.ref 0) 11 1 = some (jI (qP γ)) := by rw [← K.1.2.2.2.1]; exact gI_of (ltE (by decide)) (K.1.1.1 0 rfl) rfl
theorem KT.wish2 {h h1 : aH} {S V : Nat → Nat → Int32} {Z : Nat → Nat → Int64} {D Ln : Nat → Nat} {b : Nat} {N : Nat → Int64} (K : KT h S V Z D Ln b N γ τ) (e1 : pF h (.ref 0) 11 3 (.int 2) = some h1) {n : Int32} (hn : n < 0 ∨ ¬ n ≤ jI (qP γ)) : s_X11_wishReadable 0 n h = some (.inl (some (.int 0)), h1) := by
  have t : s_X11_wishReadable_26 0 h = some (.inl (some (.int 0)), h1) := by
    unfold s_X11_wishReadable_26
    rw [e1, Option.bind_some]
    rfl
  unfold s_X11_wishReadable
  rw [K.g2, Option.bind_some, if_neg (by decide)]
  by_cases q : n < 0
  · rw [if_pos q, t]
  · rw [if_neg q, K.g1, Option.bind_some, if_neg (hn.resolve_left q), t]
theorem KT.wish1 {h : aH} {S V : Nat → Nat → Int32} {Z : Nat → Nat → Int64} {D Ln : Nat → Nat} {b : Nat} {N : Nat → Int64} (K : KT h S V Z D Ln b N γ τ) (o4 : qP γ ≤ 400) {n : Nat} (hn : n ≤ qP γ) : s_X11_wishReadable 0 (jI n) h = some (.inl (some (.int 1)), h) := by
  unfold s_X11_wishReadable
  rw [K.g2, Option.bind_some, if_neg (by decide), if_neg (jI_neg (by omega)), K.g1, Option.bind_some, if_pos ((jI_le (by omega) (by omega)).mpr hn)]
  rfl
theorem KT.w4 {h : aH} {S V : Nat → Nat → Int32} {Z : Nat → Nat → Int64} {D Ln : Nat → Nat} {b : Nat} {N : Nat → Int64} (K : KT h S V Z D Ln b N γ τ) : gO h (.ref 0) 11 10 = some 51 ∧ gO h (.ref 0) 11 0 = some 1 ∧ gO h (.ref 0) 11 7 = some 3 ∧ gO h (.ref 0) 11 9 = some 43 ∧ gO h (.ref 0) 11 12 = some 60 :=
  ⟨gO_of (ltE (by decide)) (K.1.1.1 0 rfl) rfl, gO_of (ltE (by decide)) (K.1.1.1 0 rfl) rfl, gO_of (ltE (by decide)) (K.1.1.1 0 rfl) rfl, gO_of (ltE (by decide)) (K.1.1.1 0 rfl) rfl, gO_of (ltE (by decide)) (K.1.1.1 0 rfl) rfl⟩
theorem PSh.k51 {h : aH} (P : PSh h) {β : Type} {y : Option β} : kO h 51 6 y = y := by
  obtain ⟨⟨fa, pl, a, w, per, mo, fo, R⟩, -⟩ := P
  exact kO_of (ltE (by decide)) R
theorem CW.k0 {h : aH} {S V : Nat → Nat → Int32} {Z : Nat → Nat → Int64} {D Ln : Nat → Nat} {b : Nat} (X : CW h S V Z D Ln b) {β : Type} {y : Option β} : kO h 0 11 y = y := kO_of (ltE (by decide)) (X.1 0 rfl)
theorem kO_un2 {h : aH} {a ci : Nat} {β : Type} {y : Option β} (e : kO h a ci (some ()) = some ()) : kO h a ci y = y := by
  unfold kO at *
  split at e
  · rfl
  · cases e
theorem RN.rd {h1 h2 : aH} (R1 : RN h1 γ) (e2 : s_X14_refused 104 1 h1 = some (.inl (some (.int (-1))), h2)) (n m : Int32) : s_X14_reads 104 n m h1 = some (.inl (some (.int (-1))), h2) := by
  unfold s_X14_reads
  rw [R1.tw, Option.bind_some]
  dsimp only
  rw [R1.k0, cI_of e2]
theorem RTx.rd {h1 h2 : aH} {t2 : Nat} {S : Nat → Int32} {wd : Int64} {t f : Nat} {nv : Value} {V : Nat → Nat → Int32} {Z : Nat → Nat → Int64} {B : Nat → Nat → Int32} {W : Nat → Int64} {G : Nat → Nat} (R1 : RTx h1 t2 γ τ S wd t f nv V Z B W G) (e2 : s_X14_refused 104 2 h1 = some (.inl (some (.int (-1))), h2)) {n : Int32} (hn : n < 0 ∨ ¬ n ≤ jI (qP γ)) (m : Int32) : s_X14_reads 104 n m h1 = some (.inl (some (.int (-1))), h2) := by
  have t : s_X14_reads_25 104 h1 = some (.inl (some (.int (-1))), h2) := by
    unfold s_X14_reads_25
    rw [R1.k0, cI_of e2]
  have g9 : gI h1 (.ref 104) 14 9 = some (jI (qP γ)) := by
    rw [← R1.1.2.2.2.1]
    exact R1.1.1.gS rfl
  unfold s_X14_reads
  rw [R1.g4, Option.bind_some]
  dsimp only
  by_cases q : n < 0
  · rw [if_pos q, t]
  · rw [if_neg q, g9, Option.bind_some, if_neg (hn.resolve_left q), t]
end
theorem call_good (n : Int32) : cOK (fun h => wC 0 0 (s_X11_good 0 n h)) (s_X14_good 104 n) := by
  refine cOK.of (fun γ _ => ⟨-1, qTw γ 1, cN1.ref fun h h1 S V Z D Ln K e1 => ?_, rN1.ref fun h h1 h2 R e1 R1 e2 => ?_⟩) fun γ τ og ot lt => ?_
  · apply wC_of
    unfold s_X11_good
    rw [K.k0, cI_of (K.wish0 e1 n), if_pos rfl]
  · unfold s_X14_good
    rw [e1, Option.bind_some, R1.k0, cI_of (R1.rd e2 n 1), if_pos rfl]
  · obtain ⟨oT, o4, o3, -⟩ := og
    rcases num_or n o4 with q | ⟨k, hk, rfl⟩
    · refine ⟨fun a => a = -1, qTw γ 2, τ, one_x, cT1.ref (by decide) fun h h1 S V Z D Ln N K e1 => ?_, rT1.ref (w := 2) fun h h1 h2 t2 S wd t f nv V Z B W G e1 R1 e2 => ?_⟩
      · apply wC_of
        unfold s_X11_good
        rw [K.k0, cI_of (K.wish2 e1 q), if_pos rfl]
      · unfold s_X14_good
        rw [e1, Option.bind_some, R1.k0, cI_of (R1.rd e2 q 1), if_pos rfl]
    · cases wx : wshT (qT γ) k (thN (uS τ)) (uM τ) with
      | inl x =>
        refine ⟨fun a => a = -1, qBd γ (jI (tokS (qT γ) k x.2).2.1) (jI x.1), τ, one_x, fun h S V Z D Ln N K => ?_, rT1.th fun h h1 t2 S wd t f nv V Z B W G e1 R1 => ?_⟩
        · obtain ⟨h2, h3, S3, e2, e3, K3, O3, X2⟩ := (K.test hk).1 x wx
          obtain ⟨w1, w2, w3, w4, w5⟩ := K.w4
          refine ⟨-1, h3, 0, 0, rfl, ?_, S3, V, Z, D, Ln, K3, O3, Gr.refl, Ct.z⟩
          apply wC_of
          unfold s_X11_good
          rw [K.k0, cI_of (K.wish1 o4 hk), if_neg (by decide), w1, Option.bind_some, w2, Option.bind_some, w3, Option.bind_some, w4, Option.bind_some, K.1.2.1.k51, cI_of e2, X2.k0, cI_of e3, if_pos rfl]
        · obtain ⟨h2, e2, R2, F2⟩ := (R1.test oT o4 hk).1 x wx
          refine ⟨-1, h2, rfl, ?_, R2, F2⟩
          unfold s_X14_good
          rw [e1, Option.bind_some, R1.k0, cI_of e2, if_pos rfl]
      | inr l =>
        obtain ⟨w0, wz, wB⟩ := wshT_ok wx
        refine ⟨fun a => a = jI (cntB (gdT (uA τ) (uM τ) (uF τ) l) (uF τ 12)), qOk γ, uSetG τ (gdT (uA τ) (uM τ) (uF τ) l), one_x, fun h S V Z D Ln N K => ?_, rT1.th fun h h1 t2 S wd t f nv V Z B W G e1 R1 => ?_⟩
        · obtain ⟨h2, h3, S3, e2, e3, K3, O3, X2, wT⟩ := (K.test hk).2 l wx
          obtain ⟨h4, h5, h6, h7, S7, V7, e4, e5, e6, e7, X4, K7, O7, g13, g14, g16, k1, k2, k3, s60⟩ := K3.setGood wz wT
          obtain ⟨w1, w2, w3, w4, w5⟩ := K.w4
          obtain ⟨v1, v2, v3, v4, v5⟩ := K3.w4
          have u5 : gO h7 (.ref 0) 11 12 = some 60 := gO_of (ltE (by decide)) (K7.1.1.1 0 rfl) rfl
          have u6 : gI h7 (.ref 60) 10 3 = some (S7 60 3) := gI_of (ltE (by decide)) (K7.1.1.1 60 rfl) rfl
          rw [s60] at u6
          refine ⟨_, h7, 0, 0, rfl, ?_, S7, _, Z, D, Ln, K7, O3.trans (Oa.of O7), Gr.refl, Ct.z⟩
          apply wC_of
          unfold s_X11_good
          rw [K.k0, cI_of (K.wish1 o4 hk), if_neg (by decide), w1, Option.bind_some, w2, Option.bind_some, w3, Option.bind_some, w4, Option.bind_some, K.1.2.1.k51, cI_of e2, X2.k0, cI_of e3, if_neg (by decide), v5, Option.bind_some, v4, Option.bind_some, kO_of (ltE (by decide)) (K3.1.1.1 60 rfl), cN_of e4, g13, Option.bind_some, kO_un2 k1, cN_of e5, g14, Option.bind_some, kO_un2 k2, cN_of e6, g16, Option.bind_some, kO_un2 k3, cN_of e7, u5, Option.bind_some, u6, Option.bind_some]
        · obtain ⟨h2, S2, wd2, e2, R2, f0, F2, rT⟩ := (R1.test oT o4 hk).2 l wx
          obtain ⟨h3, V3, e3, C3, O3, M3, g3⟩ := R2.2.2.1.marks w0 wz wB (a := 146) (Or.inl rfl) rT
          have R3 := R2.setG f0 C3 O3 M3 g3
          have g27 : gO h2 (.ref 104) 14 27 = some 146 := gO_of (ltE (by decide)) R2.1.1.1 rfl
          refine ⟨_, h3, rfl, ?_, R3.rt, F2.trans (Rf.ou O3)⟩
          unfold s_X14_good
          rw [e1, Option.bind_some, R1.k0, cI_of e2, if_neg (by decide), g27, Option.bind_some, R2.k0, cI_of e3]
