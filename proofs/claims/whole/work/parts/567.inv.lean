/-! what a run has come to: texts and troubles; a thing and what was asked of it -/
abbrev gSt : Type := (Nat → Nat) × Nat × Int32 × Int32 × Int32 × Nat × (Nat → Int64) × (Nat → Int64)
/-- the tape, how much of it; trouble, where, fault; gains: how many, tops, bottoms -/
def qT (γ : gSt) : Nat → Nat := γ.1
def qP (γ : gSt) : Nat := γ.2.1
def qR (γ : gSt) : Int32 := γ.2.2.1
def qW (γ : gSt) : Int32 := γ.2.2.2.1
def qF (γ : gSt) : Int32 := γ.2.2.2.2.1
def qN (γ : gSt) : Nat := γ.2.2.2.2.2.1
def qA (γ : gSt) : Nat → Int64 := γ.2.2.2.2.2.2.1
def qB (γ : gSt) : Nat → Int64 := γ.2.2.2.2.2.2.2
def qTw (γ : gSt) (w : Int32) : gSt := (qT γ, qP γ, w, -1, qF γ, qN γ, qA γ, qB γ)
abbrev tSt : Type := (Nat → Nat → Int32) × (Nat → Nat) × pTh × (Nat → Bool) × (Nat → Bool) × (Nat → Nat → Int32) × (Nat × (Nat → Int32) × (Nat → Int32) × (Nat → Int32)) × (Nat → Int32) × Int32 × (Nat → Int32) × Int32 × Int32
/-- rows and numbers of the thing, the thing as its text says it; good, goal, costs -/
def uA (τ : tSt) : Nat → Nat → Int32 := τ.1
def uF (τ : tSt) : Nat → Nat := τ.2.1
def uS (τ : tSt) : pTh := τ.2.2.1
def uG (τ : tSt) : Nat → Bool := τ.2.2.2.1
def uL (τ : tSt) : Nat → Bool := τ.2.2.2.2.1
def uC (τ : tSt) : Nat → Nat → Int32 := τ.2.2.2.2.2.1
/-- ticks, pushes, what was told: when, what -/
def uK (τ : tSt) : Nat := τ.2.2.2.2.2.2.1.1
def uP (τ : tSt) : Nat → Int32 := τ.2.2.2.2.2.2.1.2.1
def uT (τ : tSt) : Nat → Int32 := τ.2.2.2.2.2.2.1.2.2.1
def uV (τ : tSt) : Nat → Int32 := τ.2.2.2.2.2.2.1.2.2.2
/-- claims, how many; code, bias, shift -/
def uQ (τ : tSt) : Nat → Int32 := τ.2.2.2.2.2.2.2.1
def uN (τ : tSt) : Int32 := τ.2.2.2.2.2.2.2.2.1
def uD (τ : tSt) : Nat → Int32 := τ.2.2.2.2.2.2.2.2.2.1
def uB (τ : tSt) : Int32 := τ.2.2.2.2.2.2.2.2.2.2.1
def uH (τ : tSt) : Int32 := τ.2.2.2.2.2.2.2.2.2.2.2
def uM (τ : tSt) : Nat → Nat := thM (uS τ)
def uld (τ : tSt) : Nat → Nat → Nat → Int32 := ldV (uA τ) (uM τ) (uF τ)
/-- what the run's state says by itself -/
def okγ (γ : gSt) : Prop := okTp (qT γ) ∧ qP γ ≤ 400 ∧ qN γ ≤ 3 ∧ (qR γ ≠ 4 → qW γ = -1)
def okτ (τ : tSt) : Prop := (∀ c, uF τ 12 ≤ c → uG τ c = false) ∧ csN (uC τ) ∧ uK τ ≤ 30 ∧ (∀ j, j < 62 → uT τ j = -1 ∨ ∃ e, e ≤ uK τ ∧ uT τ j = jI e) ∧ (∀ e, 1 ≤ e → e ≤ uK τ → ∃ q, uP τ e = jI q ∧ q < uF τ 13) ∧ okCl (uQ τ) (uF τ 12) ∧ (uH τ = 0 ∨ 0 < uH τ)
/-! the class's side, group by group -/
def k_w (S V : Nat → Nat → Int32) (Ln : Nat → Nat) (τ : tSt) : Prop := gdC V (uG τ) ∧ glC V (uL τ) ∧ S 60 3 = jI (cntB (uG τ) (uF τ 12)) ∧ csC V (uF τ) (uC τ) ∧ uF τ 12 * uF τ 13 ≤ Ln 64
def k_m (S V : Nat → Nat → Int32) (Ln : Nat → Nat) (τ : tSt) : Prop := (S 56 2 = 0 ∨ S 56 2 = 1) ∧ (S 56 2 = 1 → okMv V (uA τ) (uM τ) (uF τ) ∧ lenMv Ln (uF τ))
def k_r (S V : Nat → Nat → Int32) (τ : tSt) : Prop := (S 60 7 = 0 ∨ S 60 7 = 1) ∧ (S 60 7 = 1 → okRc V (uA τ) (uM τ) (uF τ) (uG τ) (uL τ))
def k_s (S V : Nat → Nat → Int32) (τ : tSt) : Prop := (S 69 4 = 0 ∨ S 69 4 = 1) ∧ (S 69 4 = 1 → okSf S V (uA τ) (uM τ) (uF τ) (uG τ))
def k_g (S V : Nat → Nat → Int32) (τ : tSt) : Prop := (S 69 5 = 0 ∨ S 69 5 = 1) ∧ (S 69 5 = 1 → okMg V (uA τ) (uM τ) (uF τ) (uG τ))
def k_p (S V : Nat → Nat → Int32) (Ln : Nat → Nat) (τ : tSt) : Prop := ∃ hz, okPy S V Ln (uA τ) (uM τ) (uF τ) (uG τ) (uC τ) hz
def k_l (S V : Nat → Nat → Int32) (Z : Nat → Nat → Int64) (τ : tSt) : Prop := (S 81 1 = 0 ∨ S 81 1 = 1) ∧ okLk S V Z (uA τ) (uM τ) (uF τ)
def k_a (S V : Nat → Nat → Int32) (Ln : Nat → Nat) (τ : tSt) : Prop := okWa S V Ln (uA τ) (uM τ) (uF τ) (uG τ) (uP τ) (uT τ) (uV τ) (uK τ)
def k_c (S V : Nat → Nat → Int32) (τ : tSt) : Prop := okCd S V (uD τ) (uB τ) (uH τ)
def k_q (S V : Nat → Nat → Int32) (τ : tSt) : Prop := (∀ c, c < uF τ 12 → V 102 c = uQ τ c) ∧ S 99 8 = uN τ
section
variable {S V S' V' : Nat → Nat → Int32} {Z Z' : Nat → Nat → Int64} {Ln Ln' : Nat → Nat} {τ : tSt}
theorem k_w.t (H : k_w S V Ln τ) (a : V' 62 = V 62) (b : V' 63 = V 63) (c : V' 64 = V 64) (d : S' 60 3 = S 60 3) (e : Ln' 64 = Ln 64) : k_w S' V' Ln' τ := by
  unfold k_w gdC glC csC at *
  rw [a, b, c, d, e]
  exact H
theorem k_m.t (H : k_m S V Ln τ) (a : V' 58 = V 58) (b : V' 59 = V 59) (c : S' 56 2 = S 56 2) (d : Ln' 58 = Ln 58) (e : Ln' 59 = Ln 59) : k_m S' V' Ln' τ := by
  unfold k_m okMv lenMv at *
  rw [a, b, c, d, e]
  exact H
theorem k_r.t (H : k_r S V τ) (a : V' 65 = V 65) (b : V' 66 = V 66) (c : S' 60 7 = S 60 7) : k_r S' V' τ := by
  unfold k_r okRc at *
  rw [a, b, c]
  exact H
theorem k_s.t (H : k_s S V τ) (a : V' 71 = V 71) (b : V' 72 = V 72) (c : S' 69 4 = S 69 4) (d : S' 69 6 = S 69 6) : k_s S' V' τ := by
  unfold k_s okSf at *
  rw [a, b, c, d]
  exact H
theorem k_g.t (H : k_g S V τ) (a : V' 73 = V 73) (c : S' 69 5 = S 69 5) : k_g S' V' τ := by
  unfold k_g okMg at *
  rw [a, c]
  exact H
theorem k_p.t (H : k_p S V Ln τ) (a : V' 79 = V 79) (b : V' 80 = V 80) (c : S' 78 3 = S 78 3) (d : Ln' 79 = Ln 79) (e : Ln' 80 = Ln 80) : k_p S' V' Ln' τ := by
  unfold k_p okPy okPc at *
  rw [a, b, c, d, e]
  exact H
theorem k_l.t (H : k_l S V Z τ) (a : V' 82 = V 82) (b : V' 83 = V 83) (c : V' 84 = V 84) (d : S' 81 1 = S 81 1) (e : S' 81 2 = S 81 2) (f : Z' 85 = Z 85) : k_l S' V' Z' τ := by
  unfold k_l okLk okLn okRw at *
  rw [a, b, c, d, e, f]
  exact H
theorem k_a.t (H : k_a S V Ln τ) (a : V' 94 = V 94) (b : V' 95 = V 95) (c : V' 96 = V 96) (d : V' 97 = V 97) (e : V' 98 = V 98) (f : S' 92 4 = S 92 4) (g : Ln' 97 = Ln 97) : k_a S' V' Ln' τ := by
  unfold k_a okWa okTl okWl okLa at *
  rw [a, b, c, d, e, f, g]
  exact H
theorem k_c.t (H : k_c S V τ) (a : V' 101 = V 101) (b : S' 99 6 = S 99 6) (c : S' 99 7 = S 99 7) : k_c S' V' τ := by
  unfold k_c okCd at *
  rw [a, b, c]
  exact H
theorem k_q.t (H : k_q S V τ) (a : V' 102 = V 102) (b : S' 99 8 = S 99 8) : k_q S' V' τ := by
  unfold k_q at *
  rw [a, b]
  exact H
end
/-- the class: texts, troubles, gains -/
def KG (h : aH) (S V : Nat → Nat → Int32) (Z : Nat → Nat → Int64) (D Ln : Nat → Nat) (b : Nat) (γ : gSt) : Prop :=
  CW h S V Z D Ln b ∧ PSh h ∧ okγ γ ∧ S 0 1 = jI (qP γ) ∧ S 0 3 = qR γ ∧ S 0 4 = qF γ ∧ (qR γ = 4 → S 0 5 = qW γ) ∧ (∀ j, j < 400 → V 1 j = jI (qT γ j)) ∧ S 81 8 = jI (qN γ) ∧ ∀ j, j < qN γ → Z 87 j = qA γ j ∧ Z 88 j = qB γ j
theorem KG.t {h h' : aH} {S V S' V' : Nat → Nat → Int32} {Z Z' : Nat → Nat → Int64} {D Ln D' Ln' : Nat → Nat} {b : Nat} {γ : gSt} (K : KG h S V Z D Ln b γ) (X : CW h' S' V' Z' D' Ln' b) (P : PSh h') (a : S' 0 = S 0) (c : V' 1 = V 1) (d : S' 81 8 = S 81 8) (e : Z' 87 = Z 87) (f : Z' 88 = Z 88) : KG h' S' V' Z' D' Ln' b γ := by
  unfold KG at *
  rw [a, c, d, e, f]
  exact ⟨X, P, K.2.2⟩
theorem KG.tp {h : aH} {S V : Nat → Nat → Int32} {Z : Nat → Nat → Int64} {D Ln : Nat → Nat} {b : Nat} {γ : gSt} (K : KG h S V Z D Ln b γ) : TPw h (qT γ) := ⟨V 1, K.1.2.1 1 rfl, K.2.2.2.2.2.2.2.1⟩
/-- no thing stands -/
def KN (h : aH) (S V : Nat → Nat → Int32) (Z : Nat → Nat → Int64) (D Ln : Nat → Nat) (b : Nat) (γ : gSt) : Prop := KG h S V Z D Ln b γ ∧ (S 0 2 = 0 ∧ ∀ j, j < 62 → V 95 j = 0) ∧ ∃ A N F, isM h 3 A N F
/-- a thing stands -/
def KT (h : aH) (S V : Nat → Nat → Int32) (Z : Nat → Nat → Int64) (D Ln : Nat → Nat) (b : Nat) (N : Nat → Int64) (γ : gSt) (τ : tSt) : Prop :=
  KG h S V Z D Ln b γ ∧ S 0 2 = 1 ∧ CC h S V Z D Ln b (uA τ) N (uM τ) (uF τ) ∧ cD (uA τ) N (uF τ) (uS τ) ∧ okτ τ ∧
  (k_w S V Ln τ ∧ k_m S V Ln τ ∧ k_r S V τ ∧ k_s S V τ ∧ k_g S V τ) ∧ k_p S V Ln τ ∧ k_l S V Z τ ∧ k_a S V Ln τ ∧ k_c S V τ ∧ k_q S V τ
/-! the reference's side -/
def RG (h : aH) (S : Nat → Int32) (wd : Int64) (tv fv nv : Value) (V : Nat → Nat → Int32) (Z : Nat → Nat → Int64) (γ : gSt) : Prop :=
  RW h S wd tv fv nv V Z ∧ shS h ∧ TPr V (qT γ) ∧ S 9 = jI (qP γ) ∧ S 1 = qR γ ∧ S 2 = qW γ ∧ S 3 = qF γ ∧ S 56 = jI (qN γ) ∧ (∀ j, j < qN γ → Z 169 j = qA γ j ∧ Z 170 j = qB γ j) ∧ (∃ B W G, isT h 120 B W G) ∧ ∃ B W G, isT h 133 B W G
def nT (h : aH) (B : Nat → Nat → Int32) (W : Nat → Int64) (G : Nat → Nat) (V : Nat → Nat → Int32) : Prop := isT h 105 B W G ∧ ∀ j, j < 62 → V 176 j = 0
theorem nT.ou {h h' : aH} {B : Nat → Nat → Int32} {W : Nat → Int64} {G : Nat → Nat} {V : Nat → Nat → Int32} (H : nT h B W G V) (O : Ou h h') (ht : okt 105) : nT h' B W G V := ⟨H.1.ou O ht, H.2⟩
def RN (h : aH) (γ : gSt) : Prop := ∃ S wd nv V Z, RG h S wd .null (.ref 105) nv V Z γ ∧ ∃ B W G, nT h B W G V
/-- which Thing stands, which is fresh -/
def thP2 (t f t2 : Nat) : Prop := 183 < t2 ∧ t2 + 13 ≤ aE ∧ ((t = 105 ∧ f = t2) ∨ (t = t2 ∧ f = 105))
def RTx (h : aH) (t2 : Nat) (γ : gSt) (τ : tSt) (S : Nat → Int32) (wd : Int64) (t f : Nat) (nv : Value) (V : Nat → Nat → Int32) (Z : Nat → Nat → Int64) (B : Nat → Nat → Int32) (W : Nat → Int64) (G : Nat → Nat) : Prop :=
  RG h S wd (.ref t) (.ref f) nv V Z γ ∧ thP2 t f t2 ∧ RC h S wd t (.ref f) nv V Z (uA τ) (uM τ) (uF τ) B W G ∧ (∃ B W G, isT h f B W G) ∧ rD B W G (uS τ) ∧ okLd V (uA τ) (uM τ) (uF τ) ∧
  gdR V (uF τ 12) (uG τ) ∧ glR V (uF τ 12) (uL τ) ∧ okCs h S (uA τ) (uM τ) (uC τ) ∧ (S 25 = 0 ∨ S 25 = 1) ∧ (S 25 = 1 → okFd V (uA τ) (uM τ) (uF τ) (uG τ) (uL τ) (uC τ)) ∧
  S 59 = jI (uK τ) ∧ (∀ e, 1 ≤ e → e ≤ uK τ → V 175 e = uP τ e) ∧ okTr V (uT τ) (uV τ) ∧ (∀ c, c < uF τ 12 → V 150 c = uQ τ c) ∧ S 32 = uN τ ∧ okCr S V (uD τ) (uB τ) (uH τ)
def RT (h : aH) (t2 : Nat) (γ : gSt) (τ : tSt) : Prop := ∃ S wd t f nv V Z B W G, RTx h t2 γ τ S wd t f nv V Z B W G
/-- only the reference's cells and its second Thing are touched -/
def Rf (t2 : Nat) (h h' : aH) : Prop := h'.length = h.length ∧ ∀ k, (k < 104 ∨ (183 < k ∧ (k < t2 ∨ t2 + 12 < k))) → h'[k]? = h[k]?
theorem Rf.trans {t2 : Nat} {h1 h2 h3 : aH} (p : Rf t2 h1 h2) (q : Rf t2 h2 h3) : Rf t2 h1 h3 := ⟨q.1.trans p.1, fun k hk => (q.2 k hk).trans (p.2 k hk)⟩
theorem rfC_out {k : Nat} (hk : k < 104 ∨ 183 < k) : rfC k = false := decide_eq_false (by
  rintro (z | z | z)
  · omega
  · have := of_decide_eq_true z; omega
  · have := of_decide_eq_true z; omega)
theorem Rf.ou {t2 : Nat} {h h' : aH} (O : Ou h h') : Rf t2 h h' := ⟨O.1, fun k hk => O.2 k (rfC_out (by omega))⟩
theorem Rf.fq {t2 t : Nat} {h h' : aH} (O : Fq t h h') (h2 : 183 < t2) (ht : t = 105 ∨ t = 120 ∨ t = 133 ∨ t = t2) : Rf t2 h h' := ⟨O.1, fun k hk => O.2 k (rfC_out (by omega)) (by omega) (by omega)⟩
/-- the class's grown rows lie beside the reference's second Thing -/
def sepD (D : Nat → Nat) (t2 : Nat) : Prop := ∀ i, dyC i = true → D i < t2 ∨ t2 + 12 < D i
theorem sepD.gr {h : aH} {D D' : Nat → Nat} {t2 : Nat} (s : sepD D t2) (g : Gr h D D') (hl : t2 + 13 ≤ h.length) : sepD D' t2 := fun i hi => by
  rcases g i hi with z | z
  · rw [z]; exact s i hi
  · exact Or.inr (by omega)
section
variable {h h' : aH} {S V : Nat → Nat → Int32} {Z : Nat → Nat → Int64} {D Ln : Nat → Nat} {b : Nat} {γ : gSt} {τ : tSt} {t2 : Nat}
theorem CW.rf (X : CW h S V Z D Ln b) (O : Rf t2 h h') (s : sepD D t2) (ht : 103 < t2) : CW h' S V Z D Ln b := by
  refine ⟨fun a ha => ?_, fun k hk => ?_, fun k hk => ?_, fun i hi => ?_, ?_⟩
  · rw [O.2 a (Or.inl (obC_lt ha).1)]
    exact X.1 a ha
  · rw [O.2 k (Or.inl (inC_lt hk).1)]
    exact X.2.1 k hk
  · rw [O.2 k (Or.inl (loC_lt hk).1)]
    exact X.2.2.1 k hk
  · rw [O.2 (D i) (by
      have := s i hi
      rcases X.2.2.2.2.1 i hi with z | z
      · have := (dyC_lt hi).1; omega
      · omega)]
    exact X.2.2.2.1 i hi
  · obtain ⟨a1, a2, a3, a4, a5, a6⟩ := X.2.2.2.2
    have l := O.1
    exact ⟨a1, a2, a3, a4, by omega, by omega⟩
theorem KG.rf (K : KG h S V Z D Ln b γ) (O : Rf t2 h h') (s : sepD D t2) (ht : 103 < t2) : KG h' S V Z D Ln b γ :=
  ⟨K.1.rf O s ht, K.2.1.fr (fun i _ i2 => O.2 i (Or.inl (by omega))), K.2.2⟩
theorem KT.rf {N : Nat → Int64} (K : KT h S V Z D Ln b N γ τ) (O : Rf t2 h h') (s : sepD D t2) (ht : 103 < t2) : KT h' S V Z D Ln b N γ τ := by
  obtain ⟨k1, k2, ⟨c1, c2, c3⟩, k4⟩ := K
  exact ⟨k1.rf O s ht, k2, ⟨c1.rf O s ht, c2.of (fun k _ k2 => O.2 k (Or.inl (by omega))), c3⟩, k4⟩
/-- the reference's cells are not the class's -/
theorem RW.oa {Sr : Nat → Int32} {wd : Int64} {tv fv nv : Value} {Vr : Nat → Nat → Int32} {Zr : Nat → Nat → Int64} (X : RW h Sr wd tv fv nv Vr Zr) (O : Oa D h h') (A : DA h D Ln b) : RW h' Sr wd tv fv nv Vr Zr := X.of (fun k hk => O.2 k (by
    obtain ⟨-, -, -, -, a5, -⟩ := A
    have := of_decide_eq_true hk
    rcases this with z | z | z
    · omega
    · have := inR_lt z; omega
    · have := loR_lt z; omega) (by
    have := of_decide_eq_true hk
    rcases this with z | z | z
    · omega
    · have := of_decide_eq_true z; omega
    · have := of_decide_eq_true z; omega) (fun i hi e => by
    have k184 : k < 184 := by
      have := of_decide_eq_true hk
      rcases this with z | z | z
      · omega
      · have := inR_lt z; omega
      · have := loR_lt z; omega
    rcases A.1 i hi with z | z
    · have := (dyC_lt hi).1
      have k104 : 104 ≤ k := by
        have := of_decide_eq_true hk
        rcases this with z | z | z
        · omega
        · have := of_decide_eq_true z; omega
        · have := of_decide_eq_true z; omega
      omega
    · omega))
theorem isT.oa {t : Nat} {B : Nat → Nat → Int32} {W : Nat → Int64} {G : Nat → Nat} (H : isT h t B W G) (O : Oa D h h') (A : DA h D Ln b) (ht : t = 105 ∨ t = 120 ∨ t = 133 ∨ (183 < t ∧ sepD D t)) : isT h' t B W G := by
  have key : ∀ k, k ≤ 12 → ∀ c, h[t + k]? = some c → h'[t + k]? = some c := fun k hk c e => by
    rw [O.2 _ (List.getElem?_eq_some_iff.mp e).1 (by omega) (fun i hi z => by
      have := (dyC_lt hi).1
      rcases A.1 i hi with q | q
      · omega
      · rcases ht with g | g | g | ⟨g1, g2⟩
        · omega
        · omega
        · omega
        · have := g2 i hi; omega)]
    exact e
  obtain ⟨a, h0, h1, h2⟩ := H
  exact ⟨a, key 0 (by decide) _ h0, key 6 (by decide) _ h1, fun j j1 j2 j3 => key j j2 _ (h2 j j1 j2 j3)⟩
theorem shS.oa (H : shS h) (O : Oa D h h') (A : DA h D Ln b) : shS h' := H.of (O.2 118 (by obtain ⟨-, -, -, -, a5, -⟩ := A; omega) (by decide) (fun i hi e => by
  have := (dyC_lt hi).1
  rcases A.1 i hi with q | q <;> omega))
theorem RG.oa {Sr : Nat → Int32} {wd : Int64} {tv fv nv : Value} {Vr : Nat → Nat → Int32} {Zr : Nat → Nat → Int64} (X : RG h Sr wd tv fv nv Vr Zr γ) (O : Oa D h h') (A : DA h D Ln b) : RG h' Sr wd tv fv nv Vr Zr γ := by
  obtain ⟨x1, x2, x3, x4, x5, x6, x7, x8, x9, ⟨B1, W1, G1, x10⟩, B2, W2, G2, x11⟩ := X
  exact ⟨x1.oa O A, x2.oa O A, x3, x4, x5, x6, x7, x8, x9, ⟨B1, W1, G1, x10.oa O A (by omega)⟩, B2, W2, G2, x11.oa O A (by omega)⟩
theorem RN.oa (R : RN h γ) (O : Oa D h h') (A : DA h D Ln b) : RN h' γ := by
  obtain ⟨S, wd, nv, V, Z, g, B, W, G, t⟩ := R
  exact ⟨S, wd, nv, V, Z, g.oa O A, B, W, G, t.1.oa O A (by omega), t.2⟩
theorem RT.oa (R : RT h t2 γ τ) (O : Oa D h h') (A : DA h D Ln b) (s : sepD D t2) : RT h' t2 γ τ := by
  obtain ⟨S, wd, t, f, nv, V, Z, B, W, G, g, tp, C, ⟨Bf, Wf, Gf, Tf⟩, d, l, gd, gl, cs, r⟩ := R
  have ht : t = 105 ∨ t = 120 ∨ t = 133 ∨ (183 < t ∧ sepD D t) := by
    obtain ⟨a, -, ⟨rfl, -⟩ | ⟨rfl, -⟩⟩ := tp
    · exact Or.inl rfl
    · exact Or.inr (Or.inr (Or.inr ⟨a, s⟩))
  have hf : f = 105 ∨ f = 120 ∨ f = 133 ∨ (183 < f ∧ sepD D f) := by
    obtain ⟨a, -, ⟨-, rfl⟩ | ⟨-, rfl⟩⟩ := tp
    · exact Or.inr (Or.inr (Or.inr ⟨a, s⟩))
    · exact Or.inl rfl
  obtain ⟨c1, c2, c3⟩ := C
  refine ⟨S, wd, t, f, nv, V, Z, B, W, G, g.oa O A, tp, ⟨c1.oa O A, c2.oa O A ht, c3⟩, ⟨Bf, Wf, Gf, Tf.oa O A hf⟩, d, l, gd, gl, ?_, r⟩
  rcases cs with z | ⟨Bc, Wc, Gc, ll, k, T, z⟩
  · exact Or.inl z
  · exact Or.inr ⟨Bc, Wc, Gc, ll, k, T.oa O A (by omega), z⟩
end
