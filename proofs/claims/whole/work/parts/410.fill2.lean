section
variable {A : Nat → Nat → Int32} {N : Nat → Int64} {F m : Nat → Nat} {fl : Int32} {wd a b na nb : Nat}
theorem fill83_go (O : fOK A m F wd a b na nb) :
    ∀ (n w f : Nat) (h : aH) (v L R : Nat → Int32), w + n = F 14 → n < f → fH A N F fl wd a b na nb h v L R →
      ∃ v' L' R', s_X3_fill_83 f 56 (jI w) h = some (.inl none, f3 a b na nb h v' L' R') ∧
        (∀ c p x, c < F 12 → p < F 13 → w ≤ x → x < F 14 → L' ((c * F 13 + p) * F 14 + x) = ldV A m F c p x) ∧ (∀ i, (∀ c p x, c < F 12 → p < F 13 → w ≤ x → x < F 14 → i ≠ (c * F 13 + p) * F 14 + x) → L' i = L i) ∧
        (∀ r e, e < 32 * wd → (bit R' (r * wd) e = true ↔ bit R (r * wd) e = true ∨ ∃ c p x, c < F 12 ∧ p < F 13 ∧ w ≤ x ∧ x < F 14 ∧ r = c * F 13 + p ∧ e = markC (ldV A m F c p x) (F 12)))
  | _, _, 0, _, _, _, _, _, hf, _ => by omega
  | 0, w, f + 1, h, v, L, R, hj, hf, H => by
    refine ⟨v, L, R, ?_, fun c p x _ _ h1 h2 => by omega, fun _ _ => rfl, fun r e he => ⟨Or.inl, fun z => z.elim id (fun ⟨c, p, x, _, _, h1, h2, _⟩ => by omega)⟩⟩
    obtain ⟨h1, h2, h3, h4, h5⟩ := H
    have hW := O.2.2.2.2.2.2.2.2.2.2.2.1
    show s_X3_fill_83_b (s_X3_fill_83 f) 56 (jI w) h = _
    unfold s_X3_fill_83_b
    have g0 : gO h (.ref 56) 3 0 = some 3 := gO_of (ltE (by decide)) h2 rfl
    have g1 : gI h (.ref 3) 2 14 = some (jI (F 14)) := gI_of (ltE (by decide)) h1.2.1 rfl
    simp only [g0, g1, Option.bind_some]
    rw [if_pos ((jI_le (by omega) (by omega)).mpr (by omega))]
    show _ = some (_, (((h.set 57 (.inl (.int, 9, .inl v))).set a (.inl (.int, na, .inl L))).set b (.inl (.int, nb, .inl R))))
    rw [set_same h3, set_same h4, set_same h5]
  | n + 1, w, f + 1, h, v, L, R, hj, hf, H => by
    obtain ⟨h1, h2, h3, h4, h5⟩ := id H
    have K := O.1
    have ha := O.2.2.1
    have hb := O.2.2.2.1
    have hab := O.2.2.2.2.2.2.1
    have hP := O.2.2.2.2.2.2.2.2.2.2.1
    have hW := O.2.2.2.2.2.2.2.2.2.2.2.1
    have e1 := spreadWorld_at (v := 57) h1 K (ltE (by decide)) (Or.inr (by decide)) h3 (jI w) 0
    obtain ⟨v1, hv1⟩ : ∃ v1, v1 = spW A m (jI (F 15)) 0 (jI w) v := ⟨_, rfl⟩
    rw [← hv1] at e1
    have H1 : fH A N F fl wd a b na nb (h.set 57 (.inl (.int, 9, .inl v1))) v1 L R := ⟨h1.set (Or.inr (by decide)), by rw [set_ne (by decide)]; exact h2, set_eq h3, by rw [set_ne (by omega)]; exact h4, by rw [set_ne (by omega)]; exact h5⟩
    obtain ⟨v2, L2, R2, c1, c2, c3, c4, c5⟩ := fill109_go O (w := w) (by omega) (k83 := s_X3_fill_83 f) (F 13) 0 FU _ v1 L R (by omega) (by unfold FU; omega) H1 (by rw [hv1]; exact pw_of K.1 w v)
    have e8 : f3 a b na nb (h.set 57 (.inl (.int, 9, .inl v1))) v2 L2 R2 = f3 a b na nb h v2 L2 R2 := by
      show (((h.set 57 _).set 57 _).set a _).set b _ = _
      rw [set_set]
    rw [e8] at c1
    obtain ⟨v', L', R', i1, i3, i4, i5⟩ := fill83_go O n (w + 1) f (f3 a b na nb h v2 L2 R2) v2 L2 R2 (by omega) (by omega) (H.to ha hb hab)
    have e9 : f3 a b na nb (f3 a b na nb h v2 L2 R2) v' L' R' = f3 a b na nb h v' L' R' := set3 (by omega) (by omega) hab
    rw [e9] at i1
    refine ⟨v', L', R', ?_, ?_, ?_, ?_⟩
    · show s_X3_fill_83_b (s_X3_fill_83 f) 56 (jI w) h = _
      unfold s_X3_fill_83_b
      have g0 : gO h (.ref 56) 3 0 = some 3 := gO_of (ltE (by decide)) h2 rfl
      have gv : gO h (.ref 56) 3 1 = some 57 := gO_of (ltE (by decide)) h2 rfl
      have g1 : gI h (.ref 3) 2 14 = some (jI (F 14)) := gI_of (ltE (by decide)) h1.2.1 rfl
      simp only [g0, g1, gv, Option.bind_some]
      rw [if_neg (fun q => by have := (jI_le (by omega) (by omega)).mp q; omega)]
      simp only [h1.kO, e1, cN]
      exact c1.trans i1
    · intro c p x hc hp h6 h7
      by_cases q : x = w
      · subst q
        rw [i4 _ (fun c2 p2 x2 hc2 hp2 h8 h9 e => by have := idx_inj hp hp2 h7 h9 e; omega)]
        exact c3 c p hc (Nat.zero_le _) hp
      · exact i3 c p x hc hp (by omega) h7
    · intro i hi
      rw [i4 i (fun c p x hc hp h6 h7 => hi c p x hc hp (by omega) h7)]
      exact c4 i (fun c p hc _ hp => hi c p w hc hp (Nat.le_refl _) (by omega))
    · intro r e he
      rw [i5 r e he, c5 r e he]
      constructor
      · rintro ((z | ⟨c, p, hc, _, hp, z⟩) | ⟨c, p, x, hc, hp, h6, h7, z⟩)
        · exact Or.inl z
        · exact Or.inr ⟨c, p, w, hc, hp, Nat.le_refl _, by omega, z⟩
        · exact Or.inr ⟨c, p, x, hc, hp, by omega, h7, z⟩
      · rintro (z | ⟨c, p, x, hc, hp, h6, h7, z⟩)
        · exact Or.inl (Or.inl z)
        · by_cases q : x = w
          · subst q; exact Or.inl (Or.inr ⟨c, p, hc, Nat.zero_le _, hp, z⟩)
          · exact Or.inr ⟨c, p, x, hc, hp, by omega, h7, z⟩
/-- a lead is out (-2), or a cell -/
theorem cellGo_rng {A : Nat → Nat → Int32} {f : Nat → Int32} : ∀ (n i : Nat) (c : Int32), cellGo A f i n c = -2 ∨ (∀ k, i ≤ k → k < i + n → A 3 k ≤ f k ∧ f k ≤ A 4 k)
  | 0, i, c => Or.inr (fun k h1 h2 => by omega)
  | n + 1, i, c => by
    unfold cellGo
    by_cases q1 : f i < A 3 i
    · rw [if_pos q1]; exact Or.inl rfl
    · rw [if_neg q1]
      by_cases q2 : f i ≤ A 4 i
      · rw [if_pos q2]
        rcases cellGo_rng n (i + 1) (((c * wdt A 0 i) + f i) - A 3 i) with z | z
        · exact Or.inl z
        · refine Or.inr (fun k h1 h2 => ?_)
          by_cases q : k = i
          · subst q; exact ⟨i32_nlt.mp q1, q2⟩
          · exact z k (by omega) (by omega)
      · rw [if_neg q2]; exact Or.inl rfl
end
