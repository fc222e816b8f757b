/-! calls: feed -/
def frR2 : List Nat := 119 :: frR
section
variable {h h' : aH} {t2 : Nat} {γ : gSt} {τ : tSt} {S S' : Nat → Int32} {wd wd' : Int64} {t f : Nat} {nv nv' : Value} {V V' : Nat → Nat → Int32} {Z Z' : Nat → Nat → Int64} {B : Nat → Nat → Int32} {W : Nat → Int64} {G : Nat → Nat}
theorem RTx.rest2 (R : RTx h t2 γ τ S wd t f nv V Z B W G) (γ' : gSt) (g : RG h' S' wd' (.ref t) (.ref f) nv' V' Z' γ') (C : RC h' S' wd' t (.ref f) nv' V' Z' (uA τ) (uM τ) (uF τ) B W G) (O : Ou h h') (M : Sm frR2 V V') (hs : ∀ j, (j = 24 ∨ j = 25 ∨ j = 32 ∨ j = 59 ∨ j = 67 ∨ j = 68) → S' j = S j) : RTx h' t2 γ' τ S' wd' t f nv' V' Z' B W G := by
  obtain ⟨-, tp, -, ⟨Bf, Wf, Gf, Tf⟩, d, l, gd, gl, cs, f1, f2, k1, k2, tr, cl, cn, cd⟩ := R
  refine ⟨g, tp, C, ⟨Bf, Wf, Gf, Tf.ou O tp.ok.2.1⟩, d, l.sm (M 151 (by decide)), ?_, ?_, ?_, ?_, ?_, ?_, ?_, tr.sm (M 177 (by decide)) (M 176 (by decide)), ?_, ?_, ?_⟩
  · unfold gdR
    rw [M 146 (by decide)]
    exact gd
  · unfold glR
    rw [M 147 (by decide)]
    exact gl
  · have q := cs.ou O
    unfold okCs at *
    rw [hs 24 (by decide)]
    exact q
  · rw [hs 25 (by decide)]
    exact f1
  · rw [hs 25 (by decide)]
    exact fun z => (f2 z).go (fun k hk => M k (by
      unfold frR2 frR
      rcases hk with rfl | ⟨a, b⟩
      · decide
      · have : k = 155 ∨ k = 156 ∨ k = 157 ∨ k = 158 ∨ k = 159 ∨ k = 160 ∨ k = 161 := by omega
        rcases this with rfl | rfl | rfl | rfl | rfl | rfl | rfl <;> decide))
  · rw [hs 59 (by decide)]
    exact k1
  · rw [M 175 (by decide)]
    exact k2
  · rw [M 150 (by decide)]
    exact cl
  · rw [hs 32 (by decide)]
    exact cn
  · obtain ⟨d1, d2, d3⟩ := cd
    refine ⟨?_, by rw [hs 67 (by decide)]; exact d2, by rw [hs 68 (by decide)]; exact d3⟩
    rw [M 181 (by decide)]
    exact d1
end
/-- a longer tape -/
def qFd (γ : gSt) (T : Nat → Nat) (n : Nat) : gSt := (T, n, qR γ, qW γ, qF γ, qN γ, qA γ, qB γ)
section
variable {h h' : aH} {S V S' V' : Nat → Nat → Int32} {Z : Nat → Nat → Int64} {D Ln : Nat → Nat} {b : Nat} {N : Nat → Int64} {γ : gSt} {τ : tSt} {T : Nat → Nat} {n : Nat}
theorem KG.feed (K : KG h S V Z D Ln b γ) (X : CW h' S' V' Z D Ln b) (O : Oc D h h') (s1 : S' 0 1 = jI n) (sq : ∀ a k, a ≠ 0 ∨ k ≠ 1 → S' a k = S a k) (hT : ∀ j, j < 400 → V' 1 j = jI (T j)) (oT : okTp T) (hn : n ≤ 400) : KG h' S' V' Z D Ln b (qFd γ T n) := by
  obtain ⟨X0, P, ⟨o1, o2, o3, o4⟩, g1, g3, g4, g5, g6, g7, g8⟩ := K
  exact ⟨X, P.oc X0 O, ⟨oT, hn, o3, o4⟩, s1, (sq 0 3 (Or.inr (by decide))).trans g3, (sq 0 4 (Or.inr (by decide))).trans g4, fun z => (sq 0 5 (Or.inr (by decide))).trans (g5 z), hT, (sq 81 8 (Or.inl (by decide))).trans g7, g8⟩
theorem KN.feed (K : KN h S V Z D Ln b γ) (X : CW h' S' V' Z D Ln b) (O : Oc D h h') (s1 : S' 0 1 = jI n) (sq : ∀ a k, a ≠ 0 ∨ k ≠ 1 → S' a k = S a k) (hT : ∀ j, j < 400 → V' 1 j = jI (T j)) (oT : okTp T) (hn : n ≤ 400) (M : Sm [1] V V') : KN h' S' V' Z D Ln b (qFd γ T n) := by
  obtain ⟨kg, k02, A, N, F, H⟩ := K
  exact ⟨kg.feed X O s1 sq hT oT hn, ⟨(sq 0 2 (Or.inr (by decide))).trans k02.1, by rw [M 95 (by decide)]; exact k02.2⟩, A, N, F, H.oc kg.1 O (Or.inl rfl)⟩
theorem KT.feed (K : KT h S V Z D Ln b N γ τ) (X : CW h' S' V' Z D Ln b) (O : Oc D h h') (s1 : S' 0 1 = jI n) (sq : ∀ a k, a ≠ 0 ∨ k ≠ 1 → S' a k = S a k) (hT : ∀ j, j < 400 → V' 1 j = jI (T j)) (oT : okTp T) (hn : n ≤ 400) (M : Sm [1] V V') : KT h' S' V' Z D Ln b N (qFd γ T n) τ := by
  obtain ⟨kg, k02, C, kD, ok, ⟨kw, km, kr, ks, km5⟩, kp, kl, ka, kc, kq⟩ := id K
  have s : ∀ a k, a ≠ 0 → S' a k = S a k := fun a k ha => sq a k (Or.inl ha)
  have C' := C.to X O (s 56 3 (by decide))
  exact ⟨kg.feed X O s1 sq hT oT hn, (sq 0 2 (Or.inr (by decide))).trans k02, C', kD, ok, ⟨kw.t (M 62 (by decide)) (M 63 (by decide)) (M 64 (by decide)) (s 60 3 (by decide)) rfl, km.t (M 58 (by decide)) (M 59 (by decide)) (s 56 2 (by decide)) rfl rfl, kr.t (M 65 (by decide)) (M 66 (by decide)) (s 60 7 (by decide)), ks.t (M 71 (by decide)) (M 72 (by decide)) (s 69 4 (by decide)) (s 69 6 (by decide)), km5.t (M 73 (by decide)) (s 69 5 (by decide))⟩, kp.t (M 79 (by decide)) (M 80 (by decide)) (s 78 3 (by decide)) rfl rfl, kl.t (M 82 (by decide)) (M 83 (by decide)) (M 84 (by decide)) (s 81 1 (by decide)) (s 81 2 (by decide)) rfl, ka.t (M 94 (by decide)) (M 95 (by decide)) (M 96 (by decide)) (M 97 (by decide)) (M 98 (by decide)) (s 92 4 (by decide)) rfl, kc.t (M 101 (by decide)) (s 99 6 (by decide)) (s 99 7 (by decide)), kq.t (M 102 (by decide)) (s 99 8 (by decide))⟩
end
section
variable {γ : gSt} {τ : tSt} {h h' : aH} {S S' : Nat → Int32} {wd : Int64} {tv fv nv : Value} {V V' : Nat → Nat → Int32} {Z : Nat → Nat → Int64} {T : Nat → Nat} {n : Nat}
theorem RG.feed (R : RG h S wd tv fv nv V Z γ) (X : RW h' S' wd tv fv nv V' Z) (O : Ou h h') (s9 : S' 9 = jI n) (sq : ∀ q, q ≠ 9 → q ≠ 0 → S' q = S q) (hT : TPr V' T) : RG h' S' wd tv fv nv V' Z (qFd γ T n) := by
  obtain ⟨-, x2, x3, x4, x5, x6, x7, x8, x9, ⟨B1, W1, G1, x10⟩, B2, W2, G2, x11⟩ := R
  exact ⟨X, x2.of (O.2 118 rfl), hT, s9, (sq 1 (by decide) (by decide)).trans x5, (sq 2 (by decide) (by decide)).trans x6, (sq 3 (by decide) (by decide)).trans x7, (sq 56 (by decide) (by decide)).trans x8, x9, ⟨B1, W1, G1, x10.ou O (Or.inr (Or.inl rfl))⟩, B2, W2, G2, x11.ou O (Or.inr (Or.inr (Or.inl rfl)))⟩
end
theorem call_feed (a c d e f : Int32) : cOK (fun h => wC 0 0 (s_X11_feed 0 a c d e f h)) (s_X14_feed 104 a c d e f) := by
  refine cOK.of (fun γ og => ?_) fun γ τ og ot lt => ?_
  · obtain ⟨o1, o2, o3, o4⟩ := og
    by_cases q : qP γ + 20 ≤ 400
    · refine ⟨jI (qP γ + 20), qFd γ (fdT (qT γ) (qP γ) a c d e f) (qP γ + 20), fun h S V Z D Ln K => ?_, fun h R => ?_⟩
      · obtain ⟨h1, S1, e1, X1, s1, sq, O1⟩ := feedC_at K.1.1 q K.1.2.2.2.1 a c d e f
        exact ⟨h1, S1, _, Z, wC_of e1, K.feed X1 O1 s1 sq (by rw [upd2_eq]; exact tp20 K.1.2.2.2.2.2.2.2.1 _ a c d e f) (fdT_ok o1 _ _ _ _ _ _) q (Sm.refl.upd (by decide)), Oa.of O1⟩
      · obtain ⟨S, wd, nv, V, Z, g, B, W, G, t⟩ := R
        obtain ⟨h1, S1, V1, e1, X1, O1, s9, sq, vq, vl, vu, vh⟩ := feedR_at q g.1 g.2.2.2.1 a c d e f
        exact ⟨h1, e1, ⟨S1, wd, nv, V1, Z, g.feed X1 O1 s9 sq (tpR g.2.2.1 a c d e f vl vu vh), B, W, G, t.1.ou O1 (Or.inl rfl), by rw [vq 176 (by decide)]; exact t.2⟩, O1⟩
    · refine ⟨-1, γ, fun h S V Z D Ln K => ?_, fun h R => ?_⟩
      · exact ⟨h, S, V, Z, wC_of (feedC_full K.1.1 o2 (by omega) K.1.2.2.2.1 a c d e f), K, Oa.of Oc.refl⟩
      · obtain ⟨S, wd, nv, V, Z, g, B, W, G, t⟩ := R
        obtain ⟨h1, e1, X1, O1⟩ := feedR_full o2 (by omega) g.1 g.2.2.2.1 a c d e f
        exact ⟨h1, e1, ⟨_, wd, nv, V, Z, g.t X1 O1 rfl rfl rfl (fun j hj => upd_ne (by omega)), B, W, G, t.ou O1 (Or.inl rfl)⟩, O1⟩
  · obtain ⟨o1, o2, o3, o4⟩ := og
    by_cases q : qP γ + 20 ≤ 400
    · refine ⟨fun x => x = jI (qP γ + 20), qFd γ (fdT (qT γ) (qP γ) a c d e f) (qP γ + 20), τ, one_x, fun h S V Z D Ln N K => ?_, fun h t2 R => ?_⟩
      · obtain ⟨h1, S1, e1, X1, s1, sq, O1⟩ := feedC_at K.1.1 q K.1.2.2.2.1 a c d e f
        exact ⟨_, h1, 0, 0, rfl, wC_of e1, S1, _, Z, D, Ln, K.feed X1 O1 s1 sq (by rw [upd2_eq]; exact tp20 K.1.2.2.2.2.2.2.2.1 _ a c d e f) (fdT_ok o1 _ _ _ _ _ _) q (Sm.refl.upd (by decide)), Oa.of O1, Gr.refl, Ct.z⟩
      · obtain ⟨S, wd, t, fr, nv, V, Z, B, W, G, R⟩ := R
        obtain ⟨h1, S1, V1, e1, X1, O1, s9, sq, vq, vl, vu, vh⟩ := feedR_at q R.1.1 R.1.2.2.2.1 a c d e f
        have R1 := R.rest2 (qFd γ (fdT (qT γ) (qP γ) a c d e f) (qP γ + 20)) (R.1.feed X1 O1 s9 sq (tpR R.1.2.2.1 a c d e f vl vu vh)) (RC.toS R.2.2.1 X1 O1 ⟨sq 20 (by decide) (by decide), sq 21 (by decide) (by decide), sq 22 (by decide) (by decide), sq 23 (by decide) (by decide)⟩) O1 (fun k hk => vq k (fun z => hk (by rw [z]; decide))) (fun j hj => sq j (by omega) (by omega))
        exact ⟨_, h1, rfl, e1, R1.rt, Rf.ou O1⟩
    · refine ⟨fun x => x = -1, γ, τ, one_x, fun h S V Z D Ln N K => ?_, fun h t2 R => ?_⟩
      · exact ⟨-1, h, 0, 0, rfl, wC_of (feedC_full K.1.1 o2 (by omega) K.1.2.2.2.1 a c d e f), S, V, Z, D, Ln, K, Oa.of Oc.refl, Gr.refl, Ct.z⟩
      · obtain ⟨S, wd, t, fr, nv, V, Z, B, W, G, R⟩ := R
        obtain ⟨h1, e1, X1, O1⟩ := feedR_full o2 (by omega) R.1.1 R.1.2.2.2.1 a c d e f
        have R1 := R.scr (RC.toS R.2.2.1 X1 O1 ⟨rfl, rfl, rfl, rfl⟩) O1 Sm.refl SmZ.refl (fun j j0 _ _ => upd_ne j0)
        exact ⟨_, h1, rfl, e1, R1.rt, Rf.ou O1⟩
