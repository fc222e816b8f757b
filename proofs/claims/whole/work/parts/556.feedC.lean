/-- a byte of four -/
def byB (x s : Int32) : Int32 := (x >>> (s &&& 31)) &&& 255
section
variable {h : aH} {S : Nat → Nat → Int32} {V : Nat → Nat → Int32} {Z : Nat → Nat → Int64} {D Ln : Nat → Nat} {b : Nat}
theorem four_one (X : CW h S V Z D Ln b) {t : Nat} (ht : t < 400) (hS : S 0 1 = jI t) {x s : Int32} (hs : ¬ s < 0) (f : Nat) : ∃ h' S', s_X11_takeFour_3 (f + 1) 0 x s h = s_X11_takeFour_3 f 0 x (s + (-8)) h' ∧ CW h' S' (upd2 V 1 (upd (V 1) t (byB x s))) Z D Ln b ∧ S' 0 1 = jI (t + 1) ∧ (∀ a k, a ≠ 0 ∨ k ≠ 1 → S' a k = S a k) ∧ Oc D h h' := by
  have g1 : gI h (.ref 0) 11 1 = some (jI t) := by rw [← hS]; exact gI_of (ltE (by decide)) (X.1 0 rfl) rfl
  have g0 : gO h (.ref 0) 11 0 = some 1 := gO_of (ltE (by decide)) (X.1 0 rfl) rfl
  obtain ⟨h1, e1, X1, O1⟩ := X.st (a := 1) (j := t) rfl ht (byB x s)
  have g2 : gI h1 (.ref 0) 11 1 = some (jI t) := by rw [← hS]; exact gI_of (ltE (by decide)) (X1.1 0 rfl) rfl
  obtain ⟨h2, e2, X2, O2⟩ := X1.pn (a := 0) (ci := 11) (k := 1) (x := jI (t + 1)) rfl rfl (Nat.le_of_ble_eq_true rfl) rfl rfl
  refine ⟨h2, _, ?_, X2, rfl, fun a k hk => ?_, O1.trans O2⟩
  · have e : s_X11_takeFour_3 (f + 1) = s_X11_takeFour_3_b (s_X11_takeFour_3 f) := rfl
    have e1' : stI h (.ref 1) (jI t) ((x >>> (s &&& 31)) &&& 255) = some h1 := e1
    have q : ¬ (400 : Int32) ≤ jI t := fun z => by
      have := (jI_le (j := 400) (k := t) (by omega) (by omega)).mp z
      omega
    rw [e]
    unfold s_X11_takeFour_3_b
    rw [if_neg hs, g1, Option.bind_some, if_neg q, g0, Option.bind_some, Option.bind_some, e1', Option.bind_some, g2, Option.bind_some, jI_inc, e2, Option.bind_some]
  · by_cases q : a = 0
    · subst q
      rw [upd2_eq]
      unfold upd
      rw [if_neg (hk.resolve_left (fun z => z rfl))]
    · rw [upd2_ne q]
theorem four_at (X : CW h S V Z D Ln b) {t : Nat} (ht : t + 4 ≤ 400) (hS : S 0 1 = jI t) (x : Int32) : ∃ h' S', s_X11_takeFour 0 x h = some (.inl none, h') ∧ CW h' S' (upd2 V 1 (upd (upd (upd (upd (V 1) t (byB x 24)) (t + 1) (byB x 16)) (t + 2) (byB x 8)) (t + 3) (byB x 0))) Z D Ln b ∧ S' 0 1 = jI (t + 4) ∧ (∀ a k, a ≠ 0 ∨ k ≠ 1 → S' a k = S a k) ∧ Oc D h h' := by
  obtain ⟨f, ef⟩ : ∃ f, FU = f + 5 := ⟨FU - 5, by unfold FU; omega⟩
  obtain ⟨h1, S1, e1, X1, t1, s1, O1⟩ := four_one X (show t < 400 by omega) hS (x := x) (s := 24) (by decide) (f + 4)
  obtain ⟨h2, S2, e2, X2, t2, s2, O2⟩ := four_one X1 (show t + 1 < 400 by omega) t1 (x := x) (s := 16) (by decide) (f + 3)
  obtain ⟨h3, S3, e3, X3, t3, s3, O3⟩ := four_one X2 (show t + 2 < 400 by omega) t2 (x := x) (s := 8) (by decide) (f + 2)
  obtain ⟨h4, S4, e4, X4, t4, s4, O4⟩ := four_one X3 (show t + 3 < 400 by omega) t3 (x := x) (s := 0) (by decide) (f + 1)
  simp only [upd2_2, upd2_eq] at X4
  have e5 : s_X11_takeFour_3 (f + 1) 0 x (-8) h4 = some (.inl none, h4) := by
    have e : s_X11_takeFour_3 (f + 1) = s_X11_takeFour_3_b (s_X11_takeFour_3 f) := rfl
    rw [e]
    unfold s_X11_takeFour_3_b
    rw [if_pos (by decide)]
  have z1 : (24 : Int32) + (-8) = 16 := by decide
  have z2 : (16 : Int32) + (-8) = 8 := by decide
  have z3 : (8 : Int32) + (-8) = 0 := by decide
  have z4 : (0 : Int32) + (-8) = -8 := by decide
  rw [z1] at e1
  rw [z2] at e2
  rw [z3] at e3
  rw [z4] at e4
  refine ⟨h4, S4, ?_, X4, t4, fun a k q => by rw [s4 a k q, s3 a k q, s2 a k q, s1 a k q], ((O1.trans O2).trans O3).trans O4⟩
  unfold s_X11_takeFour
  rw [ef]
  exact e1.trans (e2.trans (e3.trans (e4.trans e5)))
/-- the tape with four bytes more -/
def tp4 (g : Nat → Int32) (t : Nat) (x : Int32) : Nat → Int32 := upd (upd (upd (upd g t (byB x 24)) (t + 1) (byB x 16)) (t + 2) (byB x 8)) (t + 3) (byB x 0)
theorem feedC_full (X : CW h S V Z D Ln b) {t : Nat} (ht : t ≤ 400) (h20 : 400 < t + 20) (hS : S 0 1 = jI t) (a c d e f : Int32) : s_X11_feed 0 a c d e f h = some (.inl (some (.int (-1))), h) := by
  have g1 : gI h (.ref 0) 11 1 = some (jI t) := by rw [← hS]; exact gI_of (ltE (by decide)) (X.1 0 rfl) rfl
  have q : ¬ jI t + 20 ≤ (400 : Int32) := fun z => by
    have z' : jI t + jI 20 ≤ jI 400 := z
    rw [jI_add] at z'
    have := (jI_le (by omega) (by omega)).mp z'
    omega
  unfold s_X11_feed
  rw [g1, Option.bind_some, if_neg q]
theorem feedC_at (X : CW h S V Z D Ln b) {t : Nat} (ht : t + 20 ≤ 400) (hS : S 0 1 = jI t) (a c d e f : Int32) : ∃ h' S', s_X11_feed 0 a c d e f h = some (.inl (some (.int (jI (t + 20)))), h') ∧ CW h' S' (upd2 V 1 (tp4 (tp4 (tp4 (tp4 (tp4 (V 1) t a) (t + 4) c) (t + 8) d) (t + 12) e) (t + 16) f)) Z D Ln b ∧ S' 0 1 = jI (t + 20) ∧ (∀ a k, a ≠ 0 ∨ k ≠ 1 → S' a k = S a k) ∧ Oc D h h' := by
  have g1 : gI h (.ref 0) 11 1 = some (jI t) := by rw [← hS]; exact gI_of (ltE (by decide)) (X.1 0 rfl) rfl
  have q : jI t + 20 ≤ (400 : Int32) := by
    show jI t + jI 20 ≤ jI 400
    rw [jI_add]
    exact (jI_le (by omega) (by omega)).mpr ht
  obtain ⟨h1, S1, e1, X1, t1, s1, O1⟩ := four_at X (show t + 4 ≤ 400 by omega) hS a
  obtain ⟨h2, S2, e2, X2, t2, s2, O2⟩ := four_at X1 (show t + 4 + 4 ≤ 400 by omega) t1 c
  obtain ⟨h3, S3, e3, X3, t3, s3, O3⟩ := four_at X2 (show t + 4 + 4 + 4 ≤ 400 by omega) t2 d
  obtain ⟨h4, S4, e4, X4, t4, s4, O4⟩ := four_at X3 (show t + 4 + 4 + 4 + 4 ≤ 400 by omega) t3 e
  obtain ⟨h5, S5, e5, X5, t5, s5, O5⟩ := four_at X4 (show t + 4 + 4 + 4 + 4 + 4 ≤ 400 by omega) t4 f
  simp only [upd2_2, upd2_eq] at X5
  have k0 : ∀ {β : Type} {y : Option β}, kO h 0 11 y = y := kO_of (ltE (by decide)) (X.1 0 rfl)
  have k1 : ∀ {β : Type} {y : Option β}, kO h1 0 11 y = y := kO_of (ltE (by decide)) (X1.1 0 rfl)
  have k2 : ∀ {β : Type} {y : Option β}, kO h2 0 11 y = y := kO_of (ltE (by decide)) (X2.1 0 rfl)
  have k3 : ∀ {β : Type} {y : Option β}, kO h3 0 11 y = y := kO_of (ltE (by decide)) (X3.1 0 rfl)
  have k4 : ∀ {β : Type} {y : Option β}, kO h4 0 11 y = y := kO_of (ltE (by decide)) (X4.1 0 rfl)
  have g5 : gI h5 (.ref 0) 11 1 = some (jI (t + 20)) := by
    have z : S5 0 1 = jI (t + 20) := t5
    rw [← z]
    exact gI_of (ltE (by decide)) (X5.1 0 rfl) rfl
  refine ⟨h5, S5, ?_, X5, t5, fun a k q => by rw [s5 a k q, s4 a k q, s3 a k q, s2 a k q, s1 a k q], (((O1.trans O2).trans O3).trans O4).trans O5⟩
  unfold s_X11_feed
  rw [g1, Option.bind_some, if_pos q, k0, cN_of e1, k1, cN_of e2, k2, cN_of e3, k3, cN_of e4, k4, cN_of e5, g5, Option.bind_some]
end
