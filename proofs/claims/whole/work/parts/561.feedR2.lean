/-- the argument that the byte i is of, and the byte -/
def aS5 (a1 a2 a3 a4 a5 : Int32) (i : Nat) : Int32 := if i < 4 then a1 else if i < 8 then a2 else if i < 12 then a3 else if i < 16 then a4 else a5
def byR (x : Int32) (i : Nat) : Int32 := vp_nar .byte (x >>> ((24 - (8 * (jI i - jI i / 4 * 4))) &&& 31)).toInt8.toInt32
section
variable {wd : Int64} {t f n : Value} {Z : Nat → Nat → Int64}
theorem fd23_go {k : Nat} (hk : k + 20 ≤ 400) (a1 a2 a3 a4 a5 : Int32) : ∀ (r i fu : Nat) (h : aH) (S : Nat → Int32) (V : Nat → Nat → Int32), i + r = 20 → r < fu → RW h S wd t f n V Z → S 9 = jI (k + i) →
    ∃ h' S' V', s_X14_feed_23 fu 104 a1 a2 a3 a4 a5 (jI i) h = some (.inl (some (.int (jI (k + 20)))), h') ∧ RW h' S' wd t f n V' Z ∧ Ou h h' ∧ S' 9 = jI (k + 20) ∧ (∀ q, q ≠ 9 → S' q = S q) ∧ (∀ q, q ≠ 119 → V' q = V q) ∧ (∀ j, j < k + i → V' 119 j = V 119 j) ∧ (∀ j, k + 20 ≤ j → V' 119 j = V 119 j) ∧ ∀ j, i ≤ j → j < 20 → V' 119 (k + j) = byR (aS5 a1 a2 a3 a4 a5 j) j
  | _, _, 0, _, _, _, _, hf, _, _ => absurd hf (Nat.not_lt_zero _)
  | 0, i, fu + 1, h, S, V, hi, _, X, hS => by
    have hi : i = 20 := by omega
    subst hi
    refine ⟨h, S, V, ?_, X, Ou.refl, hS, fun _ _ => rfl, fun _ _ => rfl, fun _ _ => rfl, fun _ _ => rfl, fun j q1 q2 => absurd q1 (by omega)⟩
    have e : s_X14_feed_23 (fu + 1) = s_X14_feed_23_b (s_X14_feed_23 fu) := rfl
    have g9 : gI h (.ref 104) 14 9 = some (jI (k + 20)) := by rw [← hS]; exact X.gS (k := 9) rfl
    rw [e]
    unfold s_X14_feed_23_b
    rw [if_pos (by decide), g9, Option.bind_some]
  | r + 1, i, fu + 1, h, S, V, hi, hf, X, hS => by
    obtain ⟨h1, e1, X1, O1⟩ := fd76_at X (show k + i < 400 by omega) hS (s_X14_feed_23 fu) a1 a2 a3 a4 a5 (jI i) (aS5 a1 a2 a3 a4 a5 i)
    obtain ⟨h2, S2, V2, e2, X2, O2, s9, sq, vq, vl, vu, vh⟩ := fd23_go hk a1 a2 a3 a4 a5 r (i + 1) fu h1 _ _ (by omega) (by omega) X1 (by rw [upd_eq]; rfl)
    refine ⟨h2, S2, V2, ?_, X2, O1.trans O2, s9, fun q hq => by rw [sq q hq, upd_ne hq], fun q hq => by rw [vq q hq, upd2_ne hq], fun j hj => by rw [vl j (by omega), upd2_eq, upd_ne (by omega)], fun j hj => by rw [vu j hj, upd2_eq, upd_ne (by omega)], fun j q1 q2 => ?_⟩
    · have e : s_X14_feed_23 (fu + 1) = s_X14_feed_23_b (s_X14_feed_23 fu) := rfl
      rw [jI_inc, e2] at e1
      have L : ∀ c, c < 100 → (jI c ≤ jI i ↔ c ≤ i) := fun c hc => jI_le (by omega) (by omega)
      rw [e]
      unfold s_X14_feed_23_b
      rw [if_neg (fun z => by have := (L 20 (by decide)).mp z; omega)]
      unfold aS5 at e1
      by_cases q4 : i < 4
      · rw [if_pos q4] at e1
        rw [if_neg (fun z => by have := (L 4 (by decide)).mp z; omega)]
        exact e1
      · rw [if_neg q4] at e1
        rw [if_pos (show (4 : Int32) ≤ jI i from (L 4 (by decide)).mpr (by omega))]
        by_cases q8 : i < 8
        · rw [if_pos q8] at e1
          rw [if_neg (fun z => by have := (L 8 (by decide)).mp z; omega)]
          exact e1
        · rw [if_neg q8] at e1
          rw [if_pos (show (8 : Int32) ≤ jI i from (L 8 (by decide)).mpr (by omega))]
          by_cases q12 : i < 12
          · rw [if_pos q12] at e1
            rw [if_neg (fun z => by have := (L 12 (by decide)).mp z; omega)]
            exact e1
          · rw [if_neg q12] at e1
            rw [if_pos (show (12 : Int32) ≤ jI i from (L 12 (by decide)).mpr (by omega))]
            by_cases q16 : i < 16
            · rw [if_pos q16] at e1
              rw [if_neg (fun z => by have := (L 16 (by decide)).mp z; omega)]
              exact e1
            · rw [if_neg q16] at e1
              rw [if_pos (show (16 : Int32) ≤ jI i from (L 16 (by decide)).mpr (by omega))]
              exact e1
    · by_cases q : j = i
      · subst q
        rw [vl (k + j) (by omega), upd2_eq, upd_eq]
        rfl
      · exact vh j (by omega) q2
end
