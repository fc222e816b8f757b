/-! Moves -/
def markC (x : Int32) (C : Nat) : Nat := if 0 ≤ x then x.toNatClampNeg else C
section
variable {h : aH} {A : Nat → Nat → Int32} {N : Nat → Int64} {F m : Nat → Nat} {fl : Int32} {wd a b b2 nb : Nat} {R : Nat → Int32}
theorem mark15_at (h56 : h[56]? = some (.inr (3, [.ref 3, .ref 57, .int fl, .int (jI wd), .ref a, .ref b2]))) (hb : b < aE) (hbc : h[b]? = some (.inl (.int, nb, .inl R))) (hn : nb ≤ 10000000) {row c : Nat} (hc : c < 512) (hr : row * wd + c / 32 < nb) :
    s_X3_mark_15 56 b (jI row) (jI c) h = some (.inl none, h.set b (.inl (.int, nb, .inl (orb R (row * wd) c)))) := by
  unfold s_X3_mark_15
  have g : gI h (.ref 56) 3 3 = some (jI wd) := gI_of (ltE (by decide)) h56 rfl
  have e : jI row * jI wd + jI c >>> ((5 : Int32) &&& 31) = jI (row * wd + c / 32) := by rw [sh5_code c hc, jI_mul, jI_add]
  simp only [g, Option.bind_some, e, ldI_of hb hbc hr (by omega), stI_of hb hbc hr (by omega), b1_code c hc]
  rfl
theorem mark_at (H : isM h 3 A N F) (h56 : h[56]? = some (.inr (3, [.ref 3, .ref 57, .int fl, .int (jI wd), .ref a, .ref b2]))) (hb : b < aE) (hbc : h[b]? = some (.inl (.int, nb, .inl R))) (hn : nb ≤ 10000000) {row : Nat} {x : Int32}
    (hc : markC x (F 12) < 512) (hr : row * wd + markC x (F 12) / 32 < nb) :
    s_X3_mark 56 b (jI row) x h = some (.inl none, h.set b (.inl (.int, nb, .inl (orb R (row * wd) (markC x (F 12)))))) := by
  unfold s_X3_mark
  by_cases q : 0 ≤ x
  · have e : markC x (F 12) = x.toNatClampNeg := if_pos q
    rw [if_pos q]
    rw [e] at hc hr ⊢
    have := mark15_at (c := x.toNatClampNeg) h56 hb hbc hn hc hr
    rw [← jI_of (i32_nlt.mpr q)] at this
    exact this
  · have e : markC x (F 12) = F 12 := if_neg q
    rw [if_neg q]
    rw [e] at hc hr ⊢
    have g0 : gO h (.ref 56) 3 0 = some 3 := gO_of (ltE (by decide)) h56 rfl
    have g1 : gI h (.ref 3) 2 12 = some (jI (F 12)) := gI_of (ltE (by decide)) H.2.1 rfl
    simp only [g0, g1, Option.bind_some]
    exact mark15_at h56 hb hbc hn hc hr
theorem leadOf_at {na : Nat} {L : Nat → Int32} (H : isM h 3 A N F) (h56 : h[56]? = some (.inr (3, [.ref 3, .ref 57, .int fl, .int (jI wd), .ref a, .ref b2]))) (ha : a < aE) (hac : h[a]? = some (.inl (.int, na, .inl L))) (hn : na ≤ 10000000) {c p w : Nat} (hi : (c * F 13 + p) * F 14 + w < na) :
    s_X3_leadOf 56 (jI c) (jI p) (jI w) h = some (.inl (some (.int (L ((c * F 13 + p) * F 14 + w)))), h) := by
  unfold s_X3_leadOf
  have g4 : gO h (.ref 56) 3 4 = some a := gO_of (ltE (by decide)) h56 rfl
  have g0 : gO h (.ref 56) 3 0 = some 3 := gO_of (ltE (by decide)) h56 rfl
  have g1 : gI h (.ref 3) 2 13 = some (jI (F 13)) := gI_of (ltE (by decide)) H.2.1 rfl
  have g2 : gI h (.ref 3) 2 14 = some (jI (F 14)) := gI_of (ltE (by decide)) H.2.1 rfl
  simp only [g4, g0, g1, g2, Option.bind_some, jI_mul, jI_add, ldI_of ha hac hi (by omega)]
end
theorem set3 {h : aH} {k a b : Nat} {x y z x' y' z' : aC} (h1 : k ≠ a) (h2 : k ≠ b) (h3 : a ≠ b) : (((((h.set k x).set a y).set b z).set k x').set a y').set b z' = ((h.set k x').set a y').set b z' := by
  rw [List.set_comm z x' (by omega), List.set_comm y x' (by omega), List.set_set, List.set_comm z y' (by omega), List.set_set, List.set_set]
def zV : Nat → Int32 := fun _ => 0
/-- where a cell leads by a push and a world -/
def ldV (A : Nat → Nat → Int32) (m F : Nat → Nat) (c p w : Nat) : Int32 := leadV A m F (spM A m (jI (F 15)) (jI c) (jI p) (jI w) zV)
def pvA (A : Nat → Nat → Int32) (m F : Nat → Nat) (p w : Nat) (v : Nat → Int32) : Prop := ∀ c : Int32, agree m (sprGo A 0 0 (m 0) c v) (spM A m (jI (F 15)) c (jI p) (jI w) zV)
theorem pv_keep {A : Nat → Nat → Int32} {m F : Nat → Nat} {p w : Nat} {v : Nat → Int32} (x : Int32) (hp : pvA A m F p w v) : pvA A m F p w (sprGo A 0 0 (m 0) x v) := fun c s hs => by
  rw [← hp c s hs]
  by_cases q : s < m 0
  · exact spr_in A 0 0 _ _ _ _ s (Nat.zero_le _) (by omega)
  · rw [spr_out A 0 0 _ _ _ s (by omega), spr_out A 0 0 _ _ _ s (by omega), spr_out A 0 0 _ _ _ s (by omega)]
section
variable {A : Nat → Nat → Int32} {N : Nat → Int64} {F m : Nat → Nat} {fl : Int32} {wd a b na nb p w : Nat}
theorem fillCells_go (K : okM A m F) (Q : okN A m F) (ha : 183 < a) (hb : 183 < b) (ha' : a < aE) (hb' : b < aE) (hab : a ≠ b) (hna : na ≤ 10000000) (hnb : nb ≤ 10000000) (hp : p < F 13) (hw : w < F 14) (hC : F 12 ≤ 400) (hLn : F 12 * F 13 * F 14 ≤ na) (hRn : F 12 * F 13 * wd ≤ nb) (hwd : F 12 / 32 < wd)
    (hld : ∀ c, c < F 12 → markC (ldV A m F c p w) (F 12) ≤ F 12) :
    ∀ (n i f : Nat) (h : aH) (v L R : Nat → Int32), i + n = F 12 → n < f → isM h 3 A N F → h[56]? = some (.inr (3, [.ref 3, .ref 57, .int fl, .int (jI wd), .ref a, .ref b])) → h[57]? = some (.inl (.int, 9, .inl v)) → h[a]? = some (.inl (.int, na, .inl L)) → h[b]? = some (.inl (.int, nb, .inl R)) → pvA A m F p w v →
      ∃ v' L' R', s_X3_fillCells_2 f 56 (jI p) (jI w) (jI i) h = some (.inl none, ((h.set 57 (.inl (.int, 9, .inl v'))).set a (.inl (.int, na, .inl L'))).set b (.inl (.int, nb, .inl R'))) ∧ pvA A m F p w v' ∧
        (∀ c, i ≤ c → c < F 12 → L' ((c * F 13 + p) * F 14 + w) = ldV A m F c p w) ∧ (∀ j, (∀ c, i ≤ c → c < F 12 → j ≠ (c * F 13 + p) * F 14 + w) → L' j = L j) ∧
        (∀ r e, e < 32 * wd → (bit R' (r * wd) e = true ↔ bit R (r * wd) e = true ∨ ∃ c, i ≤ c ∧ c < F 12 ∧ r = c * F 13 + p ∧ e = markC (ldV A m F c p w) (F 12)))
  | _, _, 0, _, _, _, _, _, hf, _, _, _, _, _, _ => by omega
  | 0, i, f + 1, h, v, L, R, hi, hf, H, h56, h57, hac, hbc, hpv => by
    refine ⟨v, L, R, ?_, hpv, fun c h1 h2 => by omega, fun _ _ => rfl, fun r e he => ⟨Or.inl, fun z => z.elim id (fun ⟨c, h1, h2, _⟩ => by omega)⟩⟩
    show s_X3_fillCells_2_b (s_X3_fillCells_2 f) 56 (jI p) (jI w) (jI i) h = _
    unfold s_X3_fillCells_2_b
    have g0 : gO h (.ref 56) 3 0 = some 3 := gO_of (ltE (by decide)) h56 rfl
    have g1 : gI h (.ref 3) 2 12 = some (jI (F 12)) := gI_of (ltE (by decide)) H.2.1 rfl
    simp only [g0, g1, Option.bind_some]
    rw [if_pos ((jI_le (by omega) (by omega)).mpr (by omega)), set_same h57, set_same hac, set_same hbc]
  | n + 1, i, f + 1, h, v, L, R, hi, hf, H, h56, h57, hac, hbc, hpv => by
    have g0 : gO h (.ref 56) 3 0 = some 3 := gO_of (ltE (by decide)) h56 rfl
    have g1 : gI h (.ref 3) 2 12 = some (jI (F 12)) := gI_of (ltE (by decide)) H.2.1 rfl
    have gv : gO h (.ref 56) 3 1 = some 57 := gO_of (ltE (by decide)) h56 rfl
    have e1 : s_X2_spread 3 0 (jI i) 0 57 h = _ := spreadK_at (k := 0) H K (by decide) (ltE (by decide)) (Or.inr (by decide)) h57 (jI i) 0
    obtain ⟨v1, hv1⟩ : ∃ v1, v1 = sprGo A 0 0 (m 0) (jI i) v := ⟨_, rfl⟩
    have hb0 : baseN 0 = 0 := rfl
    rw [hb0, ← hv1] at e1
    have H1 := H.set (k := 57) (c := .inl (.int, 9, .inl v1)) (Or.inr (by decide))
    have q56 : (h.set 57 (.inl (.int, 9, .inl v1)))[56]? = some (.inr (3, [.ref 3, .ref 57, .int fl, .int (jI wd), .ref a, .ref b])) := by rw [set_ne (by decide)]; exact h56
    have q57 : (h.set 57 (.inl (.int, 9, .inl v1)))[57]? = some (.inl (.int, 9, .inl v1)) := set_eq h57
    have qa : (h.set 57 (.inl (.int, 9, .inl v1)))[a]? = some (.inl (.int, na, .inl L)) := by rw [set_ne (by omega)]; exact hac
    have qb : (h.set 57 (.inl (.int, 9, .inl v1)))[b]? = some (.inl (.int, nb, .inl R)) := by rw [set_ne (by omega)]; exact hbc
    have e2 := lead_at (v := 57) H1 K (ltE (by decide)) q57
    have ex : leadV A m F v1 = ldV A m F i p w := by rw [hv1]; exact leadV_congr (hpv (jI i)) Q
    rw [ex] at e2
    have G0 : gO (h.set 57 (.inl (.int, 9, .inl v1))) (.ref 56) 3 0 = some 3 := gO_of (ltE (by decide)) q56 rfl
    have Gv : gO (h.set 57 (.inl (.int, 9, .inl v1))) (.ref 56) 3 1 = some 57 := gO_of (ltE (by decide)) q56 rfl
    have G4 : gO (h.set 57 (.inl (.int, 9, .inl v1))) (.ref 56) 3 4 = some a := gO_of (ltE (by decide)) q56 rfl
    have G13 : gI (h.set 57 (.inl (.int, 9, .inl v1))) (.ref 3) 2 13 = some (jI (F 13)) := gI_of (ltE (by decide)) H1.2.1 rfl
    have G14 : gI (h.set 57 (.inl (.int, 9, .inl v1))) (.ref 3) 2 14 = some (jI (F 14)) := gI_of (ltE (by decide)) H1.2.1 rfl
    have hrow : i * F 13 + p < F 12 * F 13 := by
      have : (i + 1) * F 13 ≤ F 12 * F 13 := Nat.mul_le_mul_right _ (by omega)
      rw [Nat.add_mul] at this
      omega
    have hidx : (i * F 13 + p) * F 14 + w < na := by
      have : (i * F 13 + p + 1) * F 14 ≤ F 12 * F 13 * F 14 := Nat.mul_le_mul_right _ (by omega)
      rw [Nat.add_mul] at this
      omega
    have hmk := hld i (by omega)
    have hdiv : markC (ldV A m F i p w) (F 12) / 32 ≤ F 12 / 32 := Nat.div_le_div_right hmk
    have hridx : (i * F 13 + p) * wd + markC (ldV A m F i p w) (F 12) / 32 < nb := by
      have : (i * F 13 + p + 1) * wd ≤ F 12 * F 13 * wd := Nat.mul_le_mul_right _ (by omega)
      rw [Nat.add_mul] at this
      omega
    obtain ⟨L1, hL1⟩ : ∃ L1, L1 = upd L ((i * F 13 + p) * F 14 + w) (ldV A m F i p w) := ⟨_, rfl⟩
    have e3 := stI_of (x := ldV A m F i p w) ha' qa hidx (by omega)
    rw [← hL1] at e3
    have H2 := H1.set (k := a) (c := .inl (.int, na, .inl L1)) (Or.inr (by omega))
    have r56 : ((h.set 57 (.inl (.int, 9, .inl v1))).set a (.inl (.int, na, .inl L1)))[56]? = some (.inr (3, [.ref 3, .ref 57, .int fl, .int (jI wd), .ref a, .ref b])) := by rw [set_ne (by omega)]; exact q56
    have rb : ((h.set 57 (.inl (.int, 9, .inl v1))).set a (.inl (.int, na, .inl L1)))[b]? = some (.inl (.int, nb, .inl R)) := by rw [set_ne (by omega)]; exact qb
    have ra : ((h.set 57 (.inl (.int, 9, .inl v1))).set a (.inl (.int, na, .inl L1)))[a]? = some (.inl (.int, na, .inl L1)) := set_eq qa
    have r57 : ((h.set 57 (.inl (.int, 9, .inl v1))).set a (.inl (.int, na, .inl L1)))[57]? = some (.inl (.int, 9, .inl v1)) := by rw [set_ne (by omega)]; exact q57
    have R5 : gO ((h.set 57 (.inl (.int, 9, .inl v1))).set a (.inl (.int, na, .inl L1))) (.ref 56) 3 5 = some b := gO_of (ltE (by decide)) r56 rfl
    have kk : ∀ {β : Type} {k : Option β}, kO ((h.set 57 (.inl (.int, 9, .inl v1))).set a (.inl (.int, na, .inl L1))) 56 3 k = k := fun {β k} => kO_of (ltE (by decide)) r56
    obtain ⟨R1, hR1⟩ : ∃ R1, R1 = orb R ((i * F 13 + p) * wd) (markC (ldV A m F i p w) (F 12)) := ⟨_, rfl⟩
    have e4 := mark_at (row := i * F 13 + p) (x := ldV A m F i p w) H2 r56 hb' rb hnb (by omega) hridx
    rw [← hR1] at e4
    obtain ⟨v', L', R', ih, i1, i2, i3, i4⟩ := fillCells_go K Q ha hb ha' hb' hab hna hnb hp hw hC hLn hRn hwd hld n (i + 1) f (((h.set 57 (.inl (.int, 9, .inl v1))).set a (.inl (.int, na, .inl L1))).set b (.inl (.int, nb, .inl R1))) v1 L1 R1 (by omega) (by omega)
      (H2.set (Or.inr (by omega))) (by rw [set_ne (by omega)]; exact r56) (by rw [set_ne (by omega)]; exact r57) (by rw [set_ne (by omega)]; exact ra) (set_eq rb) (by rw [hv1]; exact pv_keep _ hpv)
    rw [set3 (by omega) (by omega) hab] at ih
    refine ⟨v', L', R', ?_, i1, ?_, ?_, ?_⟩
    · show s_X3_fillCells_2_b (s_X3_fillCells_2 f) 56 (jI p) (jI w) (jI i) h = _
      unfold s_X3_fillCells_2_b
      simp only [g0, g1, gv, Option.bind_some]
      rw [if_neg (fun q => by have := (jI_le (by omega) (by omega)).mp q; omega)]
      simp only [H.kO, e1, cN, G0, Gv, Option.bind_some, H1.kO, e2, cI, G13, G14, G4, jI_mul, jI_add, e3, R5, kk, e4, jI_inc]
      exact ih
    · intro c h1 h2
      by_cases q : c = i
      · subst q
        rw [i3 _ (fun c' h3 h4 e => by
          have e5 : (c * F 13 + p) = (c' * F 13 + p) := Nat.eq_of_mul_eq_mul_right (by omega : 0 < F 14) (by omega)
          have e6 : c = c' := Nat.eq_of_mul_eq_mul_right (by omega : 0 < F 13) (by omega)
          omega), hL1, upd_eq]
      · exact i2 c (by omega) h2
    · intro j hj
      rw [i3 j (fun c h1 h2 => hj c (by omega) h2), hL1, upd_ne (hj i (Nat.le_refl _) (by omega))]
    · intro r e he
      rw [i4 r e he, hR1]
      have key : bit (orb R ((i * F 13 + p) * wd) (markC (ldV A m F i p w) (F 12))) (r * wd) e = true ↔ bit R (r * wd) e = true ∨ (r = i * F 13 + p ∧ e = markC (ldV A m F i p w) (F 12)) := by
        by_cases q : r = i * F 13 + p
        · rw [q, bit_orb, Bool.or_eq_true, decide_eq_true_eq]
          exact ⟨fun z => z.elim Or.inl (fun z => Or.inr ⟨rfl, z⟩), fun z => z.elim Or.inl (fun z => Or.inr z.2)⟩
        · have e9 : orb R ((i * F 13 + p) * wd) (markC (ldV A m F i p w) (F 12)) (r * wd + e / 32) = R (r * wd + e / 32) := orb_out (fun z => by
            have d1 : e / 32 < wd := by omega
            have d2 : markC (ldV A m F i p w) (F 12) / 32 < wd := by omega
            have z1 := congrArg (· / wd) z
            simp only [Nat.mul_comm _ wd, Nat.mul_add_div (show 0 < wd by omega), Nat.div_eq_of_lt d1, Nat.div_eq_of_lt d2] at z1
            exact q (by omega))
          unfold bit
          rw [e9]
          exact ⟨Or.inl, fun z => z.elim id (fun z => absurd z.1 q)⟩
      rw [key]
      constructor
      · rintro ((z | ⟨z1, z2⟩) | ⟨c, h1, h2, h3⟩)
        · exact Or.inl z
        · exact Or.inr ⟨i, Nat.le_refl _, by omega, z1, z2⟩
        · exact Or.inr ⟨c, by omega, h2, h3⟩
      · rintro (z | ⟨c, h1, h2, h3⟩)
        · exact Or.inl (Or.inl z)
        · by_cases q : c = i
          · subst q; exact Or.inl (Or.inr h3)
          · exact Or.inr ⟨c, by omega, h2, h3⟩
end
