/-! Moves.fill -/
def pwA (A : Nat → Nat → Int32) (m F : Nat → Nat) (w : Nat) (v : Nat → Int32) : Prop := ∀ s, ((5 ≤ s ∧ s < 5 + m 2) ∨ (7 ≤ s ∧ s < 7 + m 3)) → v s = spW A m (jI (F 15)) 0 (jI w) zV s
theorem pw_of {A : Nat → Nat → Int32} {m F : Nat → Nat} (K : okm m) (w : Nat) (v : Nat → Int32) : pwA A m F w (spW A m (jI (F 15)) 0 (jI w) v) := fun s hs => by
  obtain ⟨h0, h1, h2, h3, -⟩ := K
  unfold spW
  by_cases q3 : 7 ≤ s ∧ s < 7 + m 3
  · exact spr_in A 0 7 _ _ _ _ s q3.1 q3.2
  · have q2 : 5 ≤ s ∧ s < 5 + m 2 := hs.elim id (fun z => absurd z q3)
    rw [spr_out A 0 7 _ _ _ s (by omega), spr_out A 0 7 _ _ _ s (by omega)]
    exact spr_in A 0 5 _ _ _ _ s q2.1 q2.2
theorem pv_of {A : Nat → Nat → Int32} {m F : Nat → Nat} (K : okm m) {p w : Nat} {v : Nat → Int32} (h : pwA A m F w v) : pvA A m F p w (sprGo A 0 3 (m 1) (jI p) v) := fun c s hs => by
  obtain ⟨h0, h1, h2, h3, -⟩ := id K
  have e := spM_order (A := A) K (jI (F 15)) c (jI p) (jI w) v zV s hs
  rw [← e]
  by_cases q0 : s < m 0
  · exact spr_in A 0 0 _ _ _ _ s (Nat.zero_le _) (by omega)
  · rw [spr_out A 0 0 _ _ _ s (by omega), spr_out A 0 0 _ _ _ s (by omega)]
    by_cases q1 : 3 ≤ s ∧ s < 3 + m 1
    · exact spr_in A 0 3 _ _ _ _ s q1.1 q1.2
    · rw [spr_out A 0 3 _ _ _ s (by omega), spr_out A 0 3 _ _ _ s (by omega)]
      have q : (5 ≤ s ∧ s < 5 + m 2) ∨ (7 ≤ s ∧ s < 7 + m 3) := by
        rcases hs with z | z | z
        · exact absurd z q0
        · exact absurd z q1
        · exact z
      rw [h s q, pw_of K w v s q]
theorem pw_back {A : Nat → Nat → Int32} {m F : Nat → Nat} (K : okm m) {p w : Nat} {v : Nat → Int32} (h : pvA A m F p w v) : pwA A m F w v := fun s hs => by
  obtain ⟨h0, h1, h2, h3, -⟩ := id K
  have e := h 0 s (Or.inr (Or.inr hs))
  rw [spr_out A 0 0 _ _ _ s (by omega)] at e
  rw [e]
  exact pw_of K w _ s hs
section
variable {A : Nat → Nat → Int32} {N : Nat → Int64} {F m : Nat → Nat} {fl : Int32} {wd a b na nb : Nat}
/-- what a heap holds while the table of leads is filled -/
def fH (A : Nat → Nat → Int32) (N : Nat → Int64) (F : Nat → Nat) (fl : Int32) (wd a b na nb : Nat) (h : aH) (v L R : Nat → Int32) : Prop :=
  isM h 3 A N F ∧ h[56]? = some (.inr (3, [.ref 3, .ref 57, .int fl, .int (jI wd), .ref a, .ref b])) ∧ h[57]? = some (.inl (.int, 9, .inl v)) ∧ h[a]? = some (.inl (.int, na, .inl L)) ∧ h[b]? = some (.inl (.int, nb, .inl R))
abbrev f3 (a b na nb : Nat) (h : aH) (v L R : Nat → Int32) : aH := ((h.set 57 (.inl (.int, 9, .inl v))).set a (.inl (.int, na, .inl L))).set b (.inl (.int, nb, .inl R))
theorem fH.to {h : aH} {v L R v' L' R' : Nat → Int32} (ha : 183 < a) (hb : 183 < b) (hab : a ≠ b) (H : fH A N F fl wd a b na nb h v L R) : fH A N F fl wd a b na nb (f3 a b na nb h v' L' R') v' L' R' := by
  obtain ⟨h1, h2, h3, h4, h5⟩ := H
  refine ⟨((h1.set (Or.inr (by decide))).set (Or.inr (by omega))).set (Or.inr (by omega)), ?_, ?_, ?_, ?_⟩
  · rw [set_ne (by omega), set_ne (by omega), set_ne (by decide)]; exact h2
  · rw [set_ne (by omega), set_ne (by omega)]; exact set_eq h3
  · rw [set_ne (by omega)]
    refine set_eq (c0 := .inl (.int, na, .inl L)) ?_
    rw [set_ne (by omega)]; exact h4
  · refine set_eq (c0 := .inl (.int, nb, .inl R)) ?_
    rw [set_ne (by omega), set_ne (by omega)]; exact h5
/-- the numbers that make it go -/
def fOK (A : Nat → Nat → Int32) (m F : Nat → Nat) (wd a b na nb : Nat) : Prop :=
  okM A m F ∧ okN A m F ∧ 183 < a ∧ 183 < b ∧ a < aE ∧ b < aE ∧ a ≠ b ∧ na ≤ 10000000 ∧ nb ≤ 10000000 ∧ F 12 ≤ 400 ∧ F 13 ≤ 9 ∧ F 14 ≤ 27 ∧ F 12 * F 13 * F 14 ≤ na ∧ F 12 * F 13 * wd ≤ nb ∧ F 12 / 32 < wd ∧ ∀ c p w, c < F 12 → p < F 13 → w < F 14 → markC (ldV A m F c p w) (F 12) ≤ F 12
theorem fillCells_at (O : fOK A m F wd a b na nb) {p w : Nat} (hp : p < F 13) (hw : w < F 14) {h : aH} {v L R : Nat → Int32} (H : fH A N F fl wd a b na nb h v L R) (hpv : pvA A m F p w v) :
    ∃ v' L' R', s_X3_fillCells 56 (jI p) (jI w) h = some (.inl none, f3 a b na nb h v' L' R') ∧ pvA A m F p w v' ∧
      (∀ c, c < F 12 → L' ((c * F 13 + p) * F 14 + w) = ldV A m F c p w) ∧ (∀ j, (∀ c, c < F 12 → j ≠ (c * F 13 + p) * F 14 + w) → L' j = L j) ∧
      (∀ r e, e < 32 * wd → (bit R' (r * wd) e = true ↔ bit R (r * wd) e = true ∨ ∃ c, c < F 12 ∧ r = c * F 13 + p ∧ e = markC (ldV A m F c p w) (F 12))) := by
  obtain ⟨K, Q, ha, hb, ha', hb', hab, hna, hnb, hC, hP, hW, hLn, hRn, hwd, hld⟩ := O
  obtain ⟨h1, h2, h3, h4, h5⟩ := H
  obtain ⟨v', L', R', e1, e2, e3, e4, e5⟩ := fillCells_go K Q ha hb ha' hb' hab hna hnb hp hw hC hLn hRn hwd (fun c hc => hld c p w hc hp hw) (F 12) 0 FU h v L R (by omega) (by unfold FU; omega) h1 h2 h3 h4 h5 hpv
  refine ⟨v', L', R', e1, e2, fun c hc => e3 c (Nat.zero_le _) hc, fun j hj => e4 j (fun c _ hc => hj c hc), fun r e he => ?_⟩
  rw [e5 r e he]
  exact ⟨fun z => z.elim Or.inl (fun ⟨c, _, z⟩ => Or.inr ⟨c, z⟩), fun z => z.elim Or.inl (fun ⟨c, z⟩ => Or.inr ⟨c, Nat.zero_le _, z⟩)⟩
theorem idx_inj {P W c p w c2 p2 w2 : Nat} (hp : p < P) (hp2 : p2 < P) (hw : w < W) (hw2 : w2 < W) (e : (c * P + p) * W + w = (c2 * P + p2) * W + w2) : c = c2 ∧ p = p2 ∧ w = w2 := by
  have e1 := congrArg (· / W) e
  simp only [Nat.mul_comm _ W, Nat.mul_add_div (show 0 < W by omega), Nat.div_eq_of_lt hw, Nat.div_eq_of_lt hw2, Nat.add_zero] at e1
  have e2 := congrArg (· / P) e1
  simp only [Nat.mul_comm _ P, Nat.mul_add_div (show 0 < P by omega), Nat.div_eq_of_lt hp, Nat.div_eq_of_lt hp2, Nat.add_zero] at e2
  subst e2
  have e3 : p = p2 := by omega
  subst e3
  exact ⟨rfl, rfl, by omega⟩
theorem fill109_go (O : fOK A m F wd a b na nb) {w : Nat} (hw : w < F 14) {k83 : Nat → Int32 → aH → aO} :
    ∀ (n j f : Nat) (h : aH) (v L R : Nat → Int32), j + n = F 13 → n < f → fH A N F fl wd a b na nb h v L R → pwA A m F w v →
      ∃ v' L' R', s_X3_fill_109 k83 f 56 (jI w) (jI j) h = k83 56 (jI (w + 1)) (f3 a b na nb h v' L' R') ∧ pwA A m F w v' ∧
        (∀ c p, c < F 12 → j ≤ p → p < F 13 → L' ((c * F 13 + p) * F 14 + w) = ldV A m F c p w) ∧ (∀ i, (∀ c p, c < F 12 → j ≤ p → p < F 13 → i ≠ (c * F 13 + p) * F 14 + w) → L' i = L i) ∧
        (∀ r e, e < 32 * wd → (bit R' (r * wd) e = true ↔ bit R (r * wd) e = true ∨ ∃ c p, c < F 12 ∧ j ≤ p ∧ p < F 13 ∧ r = c * F 13 + p ∧ e = markC (ldV A m F c p w) (F 12)))
  | _, _, 0, _, _, _, _, _, hf, _, _ => by omega
  | 0, j, f + 1, h, v, L, R, hj, hf, H, hv => by
    refine ⟨v, L, R, ?_, hv, fun c p _ h1 h2 => by omega, fun _ _ => rfl, fun r e he => ⟨Or.inl, fun z => z.elim id (fun ⟨c, p, _, h1, h2, _⟩ => by omega)⟩⟩
    obtain ⟨h1, h2, h3, h4, h5⟩ := H
    have hP := O.2.2.2.2.2.2.2.2.2.2.1
    show s_X3_fill_109_b k83 (s_X3_fill_109 k83 f) 56 (jI w) (jI j) h = _
    unfold s_X3_fill_109_b
    have g0 : gO h (.ref 56) 3 0 = some 3 := gO_of (ltE (by decide)) h2 rfl
    have g1 : gI h (.ref 3) 2 13 = some (jI (F 13)) := gI_of (ltE (by decide)) h1.2.1 rfl
    simp only [g0, g1, Option.bind_some]
    rw [if_pos ((jI_le (by omega) (by omega)).mpr (by omega)), jI_inc]
    show _ = k83 56 (jI (w + 1)) (((h.set 57 (.inl (.int, 9, .inl v))).set a (.inl (.int, na, .inl L))).set b (.inl (.int, nb, .inl R)))
    rw [set_same h3, set_same h4, set_same h5]
  | n + 1, j, f + 1, h, v, L, R, hj, hf, H, hv => by
    obtain ⟨h1, h2, h3, h4, h5⟩ := id H
    have K := O.1
    have ha := O.2.2.1
    have hb := O.2.2.2.1
    have hab := O.2.2.2.2.2.2.1
    have hP := O.2.2.2.2.2.2.2.2.2.2.1
    have e1 : s_X2_spread 3 1 (jI j) 0 57 h = _ := spreadK_at (k := 1) h1 K (by decide) (ltE (by decide)) (Or.inr (by decide)) h3 (jI j) 0
    have hb1 : baseN 1 = 3 := rfl
    rw [hb1] at e1
    obtain ⟨v1, hv1⟩ : ∃ v1, v1 = sprGo A 0 3 (m 1) (jI j) v := ⟨_, rfl⟩
    rw [← hv1] at e1
    have H1 : fH A N F fl wd a b na nb (h.set 57 (.inl (.int, 9, .inl v1))) v1 L R := ⟨h1.set (Or.inr (by decide)), by rw [set_ne (by decide)]; exact h2, set_eq h3, by rw [set_ne (by omega)]; exact h4, by rw [set_ne (by omega)]; exact h5⟩
    obtain ⟨v2, L2, R2, c1, c2, c3, c4, c5⟩ := fillCells_at O (p := j) (w := w) (by omega) hw H1 (by rw [hv1]; exact pv_of K.1 hv)
    have c1' : s_X3_fillCells 56 (jI j) (jI w) (h.set 57 (.inl (.int, 9, .inl v1))) = some (.inl none, f3 a b na nb h v2 L2 R2) := by
      rw [c1]
      show some (_, (((h.set 57 _).set 57 _).set a _).set b _) = _
      rw [set_set]
    obtain ⟨v', L', R', i1, i2, i3, i4, i5⟩ := fill109_go O hw (k83 := k83) n (j + 1) f (f3 a b na nb h v2 L2 R2) v2 L2 R2 (by omega) (by omega) (H.to ha hb hab) (pw_back K.1 c2)
    have e9 : f3 a b na nb (f3 a b na nb h v2 L2 R2) v' L' R' = f3 a b na nb h v' L' R' := set3 (by omega) (by omega) hab
    rw [e9] at i1
    refine ⟨v', L', R', ?_, i2, ?_, ?_, ?_⟩
    · show s_X3_fill_109_b k83 (s_X3_fill_109 k83 f) 56 (jI w) (jI j) h = _
      unfold s_X3_fill_109_b
      have g0 : gO h (.ref 56) 3 0 = some 3 := gO_of (ltE (by decide)) h2 rfl
      have gv : gO h (.ref 56) 3 1 = some 57 := gO_of (ltE (by decide)) h2 rfl
      have g1 : gI h (.ref 3) 2 13 = some (jI (F 13)) := gI_of (ltE (by decide)) h1.2.1 rfl
      have kk : ∀ {β : Type} {k : Option β}, kO (h.set 57 (.inl (.int, 9, .inl v1))) 56 3 k = k := fun {β k} => kO_of (ltE (by decide)) H1.2.1
      simp only [g0, g1, gv, Option.bind_some]
      rw [if_neg (fun q => by have := (jI_le (by omega) (by omega)).mp q; omega)]
      simp only [h1.kO, e1, cN, kk, c1', jI_inc]
      exact i1
    · intro c p hc h6 h7
      by_cases q : p = j
      · subst q
        rw [i4 _ (fun c2 p2 hc2 h8 h9 e => by have := idx_inj h7 h9 hw hw e; omega)]
        exact c3 c hc
      · exact i3 c p hc (by omega) h7
    · intro i hi
      rw [i4 i (fun c p hc h6 h7 => hi c p hc (by omega) h7)]
      exact c4 i (fun c hc => hi c j hc (Nat.le_refl _) (by omega))
    · intro r e he
      rw [i5 r e he, c5 r e he]
      constructor
      · rintro ((z | ⟨c, hc, z⟩) | ⟨c, p, hc, h6, h7, z⟩)
        · exact Or.inl z
        · exact Or.inr ⟨c, j, hc, Nat.le_refl _, by omega, z⟩
        · exact Or.inr ⟨c, p, hc, by omega, h7, z⟩
      · rintro (z | ⟨c, p, hc, h6, h7, z⟩)
        · exact Or.inl (Or.inl z)
        · by_cases q : p = j
          · subst q; exact Or.inl (Or.inr ⟨c, hc, z⟩)
          · exact Or.inr ⟨c, p, hc, by omega, h7, z⟩
end
