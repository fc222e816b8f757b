/-! the reference's spreads; X14 stands at 104, its values at 148, its pile at 149 -/
def slR (k : Nat) : Nat := if k = 0 then 0 else 2 * k + 1
/-- what of the reference's object its walks ask: which Thing, the rows of values and of the pile -/
def isX (h : aH) (t : Nat) (fs : List Value) : Prop := h[104]? = some (.inr (14, fs)) ∧ fs[4]? = some (.ref t) ∧ fs[29]? = some (.ref 148) ∧ fs[30]? = some (.ref 149)
theorem isX.set {h : aH} {t k : Nat} {fs : List Value} {c : aC} (X : isX h t fs) (hk : k ≠ 104) : isX (h.set k c) t fs := ⟨by rw [set_ne hk]; exact X.1, X.2⟩
theorem i32_dec (x : Int32) : x - 1 = x + (-1) := Int32.sub_eq_add_neg _ _
section
variable {t : Nat} {B : Nat → Nat → Int32} {W : Nat → Int64} {G : Nat → Nat} {fs : List Value}
theorem spreads_go {k c : Nat} (hk : k < 4) (hb : slR k + c ≤ 11) (ht2 : t + 12 < 148 ∨ 148 < t) (hne : ∀ s, slR k ≤ s → s < slR k + c → szT B s ≠ 0) :
    ∀ (n f : Nat) (x : Int32) (h : aH) (v : Nat → Int32), n ≤ c → n < f → isT h t B W G → isX h t fs → h[148]? = some (.inl (.int, 11, .inl v)) →
      s_X14_spreads_15 f 104 (jI k) x (jI n - 1) h = some (.inl (some (.int (sprT B (slR k) n x v).1)), h.set 148 (.inl (.int, 11, .inl (sprT B (slR k) n x v).2)))
  | _, 0, _, _, _, _, hf, _, _, _ => by omega
  | 0, f + 1, x, h, v, hn, hf, H, X, hv => by
    show s_X14_spreads_15_b (s_X14_spreads_15 f) 104 (jI k) x (jI 0 - 1) h = _
    unfold s_X14_spreads_15_b
    rw [if_pos (show jI 0 - 1 < 0 by decide)]
    have e0 : h.set 148 (.inl (.int, 11, .inl (sprT B (slR k) 0 x v).2)) = h := set_same hv
    rw [e0]
    rfl
  | n + 1, f + 1, x, h, v, hn, hf, H, X, hv => by
    show s_X14_spreads_15_b (s_X14_spreads_15 f) 104 (jI k) x (jI (n + 1) - 1) h = _
    unfold s_X14_spreads_15_b
    rw [jI_dec (by omega), Nat.add_sub_cancel, if_neg (jI_neg (by omega))]
    have hlt : slR k + n < 11 := by omega
    have hT := H.1
    have es : s_X14_slotOf (jI k) h = some (.inl (some (.int (jI (slR k)))), h) := slotOfR_at h k (by omega)
    have g4 : gO h (.ref 104) 14 4 = some t := gO_of (ltE (by decide)) X.1 X.2.1
    have g29 : gO h (.ref 104) 14 29 = some 148 := gO_of (ltE (by decide)) X.1 X.2.2.1
    have g1 : gO h (.ref t) 13 1 = some (t + 2) := gO_of (by omega) H.2.1 rfl
    have l2 : ldI .int h (.ref (t + 2)) (jI (slR k + n)) = some (B 2 (slR k + n)) := H.ld (by decide) (by decide) (by decide) hlt
    obtain ⟨v1, hv1⟩ : ∃ v1, v1 = upd v (slR k + n) (B 2 (slR k + n) + (x - x / szT B (slR k + n) * szT B (slR k + n))) := ⟨_, rfl⟩
    have e3 := stI_of (x := B 2 (slR k + n) + (x - x / szT B (slR k + n) * szT B (slR k + n))) (ltE (by decide)) hv hlt (by decide)
    rw [← hv1] at e3
    have H1 : isT (h.set 148 (.inl (.int, 11, .inl v1))) t B W G := H.set (by omega)
    have X1 : isX (h.set 148 (.inl (.int, 11, .inl v1))) t fs := X.set (by decide)
    have G4 : gO (h.set 148 (.inl (.int, 11, .inl v1))) (.ref 104) 14 4 = some t := gO_of (ltE (by decide)) X1.1 X1.2.1
    have hz := hne (slR k + n) (by omega) (by omega)
    have ih := spreads_go hk hb ht2 hne n f (x / szT B (slR k + n)) _ v1 (by omega) (by omega) H1 X1 (set_eq hv)
    rw [set_set] at ih
    simp only [es, cI, jI_add, g29, g4, g1, l2, Option.bind_some, H.kO, size_at H hlt, nz_of hz, e3, G4, H1.kO, size_at H1 hlt]
    have e9 : sprT B (slR k) (n + 1) x v = sprT B (slR k) n (x / szT B (slR k + n)) v1 := by rw [hv1]; rfl
    rw [← i32_dec, ih, e9]
theorem spreads_at {h : aH} {v : Nat → Int32} {k c : Nat} (H : isT h t B W G) (X : isX h t fs) (hv : h[148]? = some (.inl (.int, 11, .inl v))) (hk : k < 4) (hc : B 1 k = jI c) (hb : slR k + c ≤ 11) (ht2 : t + 12 < 148 ∨ 148 < t) (hne : ∀ s, slR k ≤ s → s < slR k + c → szT B s ≠ 0) (x : Int32) :
    s_X14_spreads 104 (jI k) x h = some (.inl (some (.int (sprT B (slR k) c x v).1)), h.set 148 (.inl (.int, 11, .inl (sprT B (slR k) c x v).2))) := by
  unfold s_X14_spreads
  have hT := H.1
  have g4 : gO h (.ref 104) 14 4 = some t := gO_of (ltE (by decide)) X.1 X.2.1
  have g0 : gO h (.ref t) 13 0 = some (t + 1) := gO_of (by omega) H.2.1 rfl
  have l1 : ldI .int h (.ref (t + 1)) (jI k) = some (jI c) := hc ▸ H.ld (k := 1) (by decide) (by decide) (by decide) (show k < 5 by omega)
  simp only [g4, g0, l1, Option.bind_some]
  exact spreads_go hk hb ht2 hne c FU x h v (Nat.le_refl _) (by unfold FU; omega) H X hv
end
