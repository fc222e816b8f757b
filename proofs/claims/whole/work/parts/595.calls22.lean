/-! calls: thing, the class's side -/
def qBd (γ : gSt) (w f : Int32) : gSt := (qT γ, 0, 4, w, f, qN γ, qA γ, qB γ)
def qOk (γ : gSt) : gSt := (qT γ, 0, 0, -1, 0, qN γ, qA γ, qB γ)
/-- a thing just read -/
def nwT (A : Nat → Nat → Int32) (F : Nat → Nat) (σ : pTh) (tv : Nat → Int32) : tSt := (A, F, σ, fun d => decide (d < F 12), fun _ => false, fun _ _ => 0, (0, fun _ => 0, fun _ => -1, tv), fun _ => -1, 0, fun _ => 0, 0, 0)
theorem cntB_all {F : Nat} : ∀ C, C ≤ F → cntB (fun d => decide (d < F)) C = C
  | 0, _ => rfl
  | C + 1, h => by
    show cntB _ C + (if decide (C < F) = true then 1 else 0) = C + 1
    rw [cntB_all C (by omega), if_pos (decide_eq_true (by omega))]
theorem nwT_ok (A : Nat → Nat → Int32) (F : Nat → Nat) (σ : pTh) (tv : Nat → Int32) : okτ (nwT A F σ tv) :=
  ⟨fun c hc => decide_eq_false (Nat.not_lt.mpr hc), fun _ _ => ⟨by show (0 : Int) ≤ (0 : Int32).toInt; decide, by show (0 : Int32).toInt ≤ 1000; decide⟩, Nat.zero_le _, fun _ _ => Or.inl rfl, fun e h1 h2 => absurd (Nat.le_trans h1 h2) (by show ¬ 1 ≤ 0; decide), fun _ _ => Or.inl rfl, Or.inl rfl⟩
section
variable {h h' : aH} {S V : Nat → Nat → Int32} {Z : Nat → Nat → Int64} {D Ln : Nat → Nat} {b : Nat} {N : Nat → Int64} {γ : gSt} {τ : tSt}
theorem KG.bad (K : KG h S V Z D Ln b γ) {w f : Int32} (X : CW h' (upd2 S 0 (upd (upd (upd (upd (S 0) 1 0) 4 f) 5 w) 3 4)) V Z D Ln b) (P : PSh h') : KG h' (upd2 S 0 (upd (upd (upd (upd (S 0) 1 0) 4 f) 5 w) 3 4)) V Z D Ln b (qBd γ w f) := by
  obtain ⟨X0, -, ⟨o1, o2, o3, o4⟩, g1, g3, g4, g5, g6, g7, g8⟩ := K
  exact ⟨X, P, ⟨o1, Nat.zero_le _, o3, fun z => absurd rfl z⟩, rfl, rfl, rfl, fun _ => rfl, g6, g7, g8⟩
theorem KN.bad (K : KN h S V Z D Ln b γ) {w f : Int32} (X : CW h' (upd2 S 0 (upd (upd (upd (upd (S 0) 1 0) 4 f) 5 w) 3 4)) V Z D Ln b) (P : PSh h') (M : ∀ A0 N0 F0, isM h 3 A0 N0 F0 → isM h' 3 A0 N0 F0) : KN h' (upd2 S 0 (upd (upd (upd (upd (S 0) 1 0) 4 f) 5 w) 3 4)) V Z D Ln b (qBd γ w f) := by
  obtain ⟨kg, k02, A, N, F, H⟩ := K
  exact ⟨kg.bad X P, k02, A, N, F, M _ _ _ H⟩
theorem KT.bad (K : KT h S V Z D Ln b N γ τ) {w f : Int32} (X : CW h' (upd2 S 0 (upd (upd (upd (upd (S 0) 1 0) 4 f) 5 w) 3 4)) V Z D Ln b) (P : PSh h') (M : ∀ A0 N0 F0, isM h 3 A0 N0 F0 → isM h' 3 A0 N0 F0) : KT h' (upd2 S 0 (upd (upd (upd (upd (S 0) 1 0) 4 f) 5 w) 3 4)) V Z D Ln b N (qBd γ w f) τ := by
  obtain ⟨kg, k02, C, kD, ok, ⟨kw, km, kr, ks, km5⟩, kp, kl, ka, kc, kq⟩ := id K
  have C' : CC h' (upd2 S 0 (upd (upd (upd (upd (S 0) 1 0) 4 f) 5 w) 3 4)) V Z D Ln b (uA τ) N (uM τ) (uF τ) := ⟨X, M _ _ _ C.2.1, C.2.2.1, C.2.2.2.1, C.2.2.2.2⟩
  exact ⟨kg.bad X P, k02, C', kD, ok, ⟨kw.t rfl rfl rfl rfl rfl, km.t rfl rfl rfl rfl rfl, kr.t rfl rfl rfl, ks.t rfl rfl rfl rfl, km5.t rfl rfl⟩, kp.t rfl rfl rfl rfl rfl, kl.t rfl rfl rfl rfl rfl rfl, ka.t rfl rfl rfl rfl rfl rfl rfl, kc.t rfl rfl rfl, kq.t rfl rfl⟩
/-- the class reads one -/
theorem KG.read (K : KG h S V Z D Ln b γ) {A0 : Nat → Nat → Int32} {N0 : Nat → Int64} {F0 : Nat → Nat} (H : isM h 3 A0 N0 F0) {tv : Nat → Int32} (h95 : ∀ j, j < 62 → V 95 j = tv j) {n : Nat} (hn : n ≤ qP γ) {σ : pTh} (hx : thP (qT γ) n 401 th0 0 = .inr σ) :
    ∃ h' S' V' D' Ln' A N F c y, s_X11_thing 0 (jI n) h = some (.inl (some (.int (jI (F 12)))), h', c, y) ∧ KT h' S' V' Z D' Ln' b N (qOk γ) (nwT A F σ tv) ∧ cD A N F σ ∧ okW A (thM σ) F ∧ okC A (thM σ) F ∧ Oa D h h' ∧ Gr h D D' ∧ Ct Ln Ln' c y := by
  obtain ⟨X0, P0, ⟨o1, o2, o3, o4⟩, g1, g3, g4, g5, g6, g7, g8⟩ := id K
  obtain ⟨h', S', V', D', Ln', A, N, F, c, y, e, C, ⟨F1, hF⟩, cd, hfit, P, O, G, ct, ⟨s1, s2, s3, s4, s5⟩, s56, ⟨s60, s607⟩, ⟨q6, q7, q8⟩, ⟨l1, l8⟩, s92, ⟨w4, w5⟩, s78, gd, gl, v64, n64, ln, M, ⟨v0, v1, v2⟩, v102, v96, v98⟩ := thingC_ok o1 o2 hn X0 P0 K.tp g1 H hx
  have kg : KG h' S' V' Z D' Ln' b (qOk γ) := ⟨C.1, P, ⟨o1, Nat.zero_le _, o3, fun _ => rfl⟩, s1, s3, s4, fun z => absurd z (by show ¬ (0 : Int32) = 4; decide), by rw [M 1 (by decide)]; exact g6, l8.trans g7, g8⟩
  have h400 := C.2.2.2.1.2.2.2.2.1
  refine ⟨h', S', V', D', Ln', A, N, F, c, y, e, ⟨kg, s2, C, cd, nwT_ok A F σ tv, ⟨⟨gd, gl, ?_, ?_, n64⟩, ⟨Or.inl s56, fun z => ?_⟩, ⟨Or.inl s607, fun z => ?_⟩, ⟨Or.inl w4, fun z => ?_⟩, Or.inl w5, fun z => ?_⟩, ⟨0, Nat.zero_le _, ?_, fun z => absurd z (Nat.lt_irrefl _), fun k d _ z => absurd z (by omega)⟩, ⟨Or.inl l1, fun z => ?_⟩, ⟨Nat.zero_le _, s92, fun _ _ => Or.inl rfl, fun e h1 h2 => absurd (Nat.le_trans h1 h2) (by show ¬ 1 ≤ 0; decide), fun j hj => ⟨v96 j hj, ?_⟩, fun lane hl => ⟨0, ?_, Nat.zero_le _, fun z => absurd z (Nat.lt_irrefl _), fun e he => absurd he (Nat.not_lt_zero _)⟩⟩, ⟨fun i hi => ?_, q6, q7⟩, fun c hc => v102 c (Nat.lt_of_lt_of_le hc h400), q8⟩, cd, C.2.2.1, C.2.2.2.1, O, G, ct⟩
  · rw [s60]
    show jI (F 12) = jI (cntB (fun d => decide (d < F 12)) (F 12))
    rw [cntB_all (F 12) (Nat.le_refl _)]
  · intro c p hc hp
    show V' 64 (c * F 13 + p) = 0
    have hc' : c < F 12 := hc
    have hp' : p < F 13 := hp
    exact v64 _ (by
      have : (c + 1) * F 13 ≤ F 12 * F 13 := Nat.mul_le_mul_right _ hc'
      rw [Nat.succ_mul] at this
      omega)
  · rw [s56] at z
    exact absurd z (by decide)
  · rw [s607] at z
    exact absurd z (by decide)
  · rw [w4] at z
    exact absurd z (by decide)
  · rw [w5] at z
    exact absurd z (by decide)
  · rw [s78]
    rfl
  · rw [l1] at z
    exact absurd z (by decide)
  · rw [M 95 (by decide)]
    exact h95 j hj
  · rw [v98 lane (by omega)]
    rfl
  · have : i = 0 ∨ i = 1 ∨ i = 2 := by omega
    rcases this with rfl | rfl | rfl
    · exact v0
    · exact v1
    · exact v2
end
