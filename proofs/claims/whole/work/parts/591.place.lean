/-! place: the one set of columns; the gains both keep -/
section
variable {n : Nat} {R R' : Nat → Int64}
theorem lastV_congr (hn1 : 1 ≤ n) (h : ∀ j, j < 3 * n → R j = R' j) (k : Nat) : lastV n R k = lastV n R' k := by
  unfold lastV
  by_cases q1 : n = 1
  · rw [if_pos q1, if_pos q1]
  · rw [if_neg q1, if_neg q1]
    by_cases q2 : n = 2
    · rw [if_pos q2, if_pos q2, h 0 (by omega), h 1 (by omega)]
    · rw [if_neg q2, if_neg q2, h ((k + 1) % 3) (by omega), h (3 + (k + 2) % 3) (by omega), h ((k + 2) % 3) (by omega), h (3 + (k + 1) % 3) (by omega)]
theorem detV_congr (hn1 : 1 ≤ n) (h : ∀ j, j < 3 * n → R j = R' j) : detV n R = detV n R' := by
  unfold detV
  by_cases q1 : n = 1
  · rw [if_pos q1, if_pos q1, h 0 (by omega)]
  · rw [if_neg q1, if_neg q1]
    by_cases q2 : n = 2
    · rw [if_pos q2, if_pos q2, h 0 (by omega), h 1 (by omega), h 4 (by omega), h 3 (by omega)]
    · rw [if_neg q2, if_neg q2]
      have e : ∀ j, j < 9 → R j = R' j := fun j hj => h j (by omega)
      unfold dt3
      simp only [Nat.zero_mul, Nat.one_mul, Nat.reduceMul, Nat.zero_add, Nat.reduceAdd]
      rw [e 0 (by decide), e 1 (by decide), e 2 (by decide), e 3 (by decide), e 4 (by decide), e 5 (by decide), e 6 (by decide), e 7 (by decide), e 8 (by decide)]
theorem ovS_congr (hn1 : 1 ≤ n) (h : ∀ j, j < 3 * n → R j = R' j) (td : Nat → Int64) (i : Nat) : ovS n R td i = ovS n R' td i := by
  unfold ovS
  rw [show (fun k => lastV n R k * td (k * 3 + i)) = fun k => lastV n R' k * td (k * 3 + i) from funext fun k => by rw [lastV_congr hn1 h k]]
end
/-- the columns, made -/
def cl0 (a c : Nat → Nat → Int32) (i : Nat) : Int64 := basV false a c 0 i
def cl1 (a c : Nat → Nat → Int32) (i : Nat) : Int64 := if i < 3 then cl0 a c i else mulV false a (cl0 a c) 0 (i - 3)
def cl2 (a c : Nat → Nat → Int32) (i : Nat) : Int64 := if i < 6 then cl1 a c i else mulV false a (cl1 a c) 1 (i - 6)
theorem mulV_congr {see : Bool} {a : Nat → Nat → Int32} {R R' : Nat → Int64} {l : Nat} (h : ∀ j, j < 3 → R (l * 3 + j) = R' (l * 3 + j)) (k : Nat) : mulV see a R l k = mulV see a R' l k := by
  unfold mulV
  have h0 := h 0 (by decide)
  rw [Nat.add_zero] at h0
  rw [h0, h 1 (by decide), h 2 (by decide)]
theorem cl2_is (a c : Nat → Nat → Int32) {n : Nat} (hn : n ≤ 3) : isCv false a c 1 (1 * n) (cl2 a c) := by
  constructor
  · intro l hl k hk
    obtain rfl : l = 0 := by omega
    rw [Nat.zero_mul, Nat.zero_add]
    unfold cl2 cl1
    rw [if_pos (by omega), if_pos hk]
    rfl
  · intro l h1 h2 k hk
    have l2 : l = 1 ∨ l = 2 := by omega
    rcases l2 with rfl | rfl
    · show cl2 a c (3 + k) = mulV false a (cl2 a c) 0 k
      have e : cl2 a c (3 + k) = mulV false a (cl0 a c) 0 k := by
        unfold cl2 cl1
        rw [if_pos (by omega), if_neg (by omega), Nat.add_sub_cancel_left]
      rw [e]
      refine mulV_congr (fun j hj => ?_) k
      rw [Nat.zero_mul, Nat.zero_add]
      unfold cl2 cl1
      rw [if_pos (by omega), if_pos hj]
    · show cl2 a c (6 + k) = mulV false a (cl2 a c) 1 k
      have e : cl2 a c (6 + k) = mulV false a (cl1 a c) 1 k := by
        rw [cl2, if_neg (by omega), Nat.add_sub_cancel_left]
      rw [e]
      refine mulV_congr (fun j hj => ?_) k
      rw [cl2, if_pos (by omega)]
theorem isRk_some (R : Nat → Int64) (n : Nat) : ∃ r, isRk R n r := by
  by_cases q1 : isTr R n
  · exact ⟨3, Or.inl ⟨rfl, q1⟩⟩
  · by_cases q2 : isPr R n
    · exact ⟨2, Or.inr (Or.inl ⟨rfl, q1, q2⟩)⟩
    · by_cases q3 : isNz R (n * 3)
      · exact ⟨1, Or.inr (Or.inr (Or.inl ⟨rfl, q1, q2, q3⟩))⟩
      · exact ⟨0, Or.inr (Or.inr (Or.inr ⟨rfl, q1, q2, q3⟩))⟩
/-- new gains -/
def qGn (γ : gSt) (n : Nat) (A B : Nat → Int64) : gSt := (qT γ, qP γ, qR γ, qW γ, qF γ, n, A, B)
section
variable {h h' : aH} {S V : Nat → Nat → Int32} {Z Z' : Nat → Nat → Int64} {D Ln : Nat → Nat} {b : Nat} {N : Nat → Int64} {γ : gSt} {τ : tSt} {n : Nat} {A B : Nat → Int64}
theorem KT.gains (K : KT h S V Z D Ln b N γ τ) (X : CW h' (upd2 S 81 (upd (S 81) 8 (jI n))) V Z' D Ln b) (O : Oc D h h') (MZ : SmZ [86, 87, 88, 89] Z Z') (hn : n ≤ 3) (hj : ∀ j, j < n → Z' 87 j = A j ∧ Z' 88 j = B j) : KT h' (upd2 S 81 (upd (S 81) 8 (jI n))) V Z' D Ln b N (qGn γ n A B) τ := by
  obtain ⟨kg, k02, C, kD, ok, ⟨kw, km, kr, ks, km5⟩, kp, kl, ka, kc, kq⟩ := id K
  have C' := C.to X O rfl
  have kg' : KG h' (upd2 S 81 (upd (S 81) 8 (jI n))) V Z' D Ln b (qGn γ n A B) := by
    obtain ⟨_, P, ⟨o1, o2, o3, o4⟩, g1, g3, g4, g5, g6, g7, g8⟩ := kg
    exact ⟨X, P.oc C.1 O, ⟨o1, o2, hn, o4⟩, g1, g3, g4, g5, g6, rfl, hj⟩
  exact ⟨kg', k02, C', kD, ok, ⟨kw.t rfl rfl rfl rfl rfl, km.t rfl rfl rfl rfl rfl, kr.t rfl rfl rfl, ks.t rfl rfl rfl rfl, km5.t rfl rfl⟩, kp.t rfl rfl rfl rfl rfl, kl.t rfl rfl rfl rfl rfl (MZ 85 (by decide)), ka.t rfl rfl rfl rfl rfl rfl rfl, kc.t rfl rfl rfl, kq.t rfl rfl⟩
end
section
variable {h h' : aH} {t2 : Nat} {γ : gSt} {τ : tSt} {S : Nat → Int32} {wd : Int64} {t f : Nat} {nv : Value} {V : Nat → Nat → Int32} {Z Z' : Nat → Nat → Int64} {B : Nat → Nat → Int32} {W : Nat → Int64} {G : Nat → Nat} {n : Nat} {A C : Nat → Int64}
theorem RTx.gains (R : RTx h t2 γ τ S wd t f nv V Z B W G) (X : RC h' (twS (upd S 56 (jI n)) 0) wd t (.ref f) nv V Z' (uA τ) (uM τ) (uF τ) B W G) (O : Ou h h') (hj : ∀ j, j < n → Z' 169 j = A j ∧ Z' 170 j = C j) : RTx h' t2 (qGn (qTw γ 0) n A C) τ (twS (upd S 56 (jI n)) 0) wd t f nv V Z' B W G := by
  refine R.rest (qGn (qTw γ 0) n A C) ?_ X O Sm.refl (fun j hj => ?_)
  · obtain ⟨-, x2, x3, x4, x5, x6, x7, x8, x9, ⟨B1, W1, G1, x10⟩, B2, W2, G2, x11⟩ := R.1
    exact ⟨X.1, x2.of (O.2 118 rfl), x3, x4, rfl, rfl, x7, rfl, hj, ⟨B1, W1, G1, x10.ou O (Or.inr (Or.inl rfl))⟩, B2, W2, G2, x11.ou O (Or.inr (Or.inr (Or.inl rfl)))⟩
  · rw [twS_20 (by omega) (by omega), upd_ne (by omega)]
end
