/-! the reference's pile -/
def bdR (x : Int64) : Int32 := (jmaxL (-1000000) (jminL 1000000 x)).toInt32
def relR (k a b : Int32) : Int32 := if k = 6 then (if 0 ≤ lg_cmp a.toInt64 b.toInt64 then 0 else 1) else if k = 7 then (if lg_cmp a.toInt64 b.toInt64 ≤ 0 then 0 else 1) else if k = 8 then (if lg_cmp a.toInt64 b.toInt64 = 0 then 1 else 0) else (if lg_cmp (a.toInt64 + b.toInt64) 2 = 0 then 1 else 0)
def opR (k a b : Int32) : Int32 := if k = 2 then bdR (a.toInt64 + b.toInt64) else if k = 3 then bdR (a.toInt64 - b.toInt64) else if k = 4 then bdR (a.toInt64 * b.toInt64) else if relR k a b = 0 then 0 else 1
def seg2 (f g : Nat → Int32) (i : Nat) : Nat → List (Int32 × Int32)
  | 0 => []
  | n + 1 => (f i, g i) :: seg2 f g (i + 1) n
/-- one item of a postfix row, on a pile of d -/
def pilGo (vals : Nat → Int32) : List (Int32 × Int32) → Nat → (Nat → Int32) → (Nat → Int32)
  | [], _, p => p
  | (k, x) :: r, d, p => if k = 0 then pilGo vals r (d + 1) (upd p d x) else if k = 1 then pilGo vals r (d + 1) (upd p d (vals x.toNatClampNeg)) else if k = 5 then pilGo vals r d (upd p (d - 1) (-(p (d - 1)))) else pilGo vals r (d - 1) (upd p (d - 2) (opR k (p (d - 2)) (p (d - 1))))
/-- the pile never runs dry nor over -/
def okI : List (Int32 × Int32) → Nat → Prop
  | [], _ => True
  | (k, x) :: r, d => if k = 0 then d < 400 ∧ okI r (d + 1) else if k = 1 then d < 400 ∧ (0 ≤ x ∧ x.toNatClampNeg < 11) ∧ okI r (d + 1) else if k = 5 then 0 < d ∧ okI r d else 2 ≤ d ∧ okI r (d - 1)
section
variable {t t' : Nat} {B : Nat → Nat → Int32} {W : Nat → Int64} {G : Nat → Nat} {fs : List Value} {vals : Nat → Int32}
theorem valueOf_go (ht2 : t + 12 < 149 ∨ 149 < t) :
    ∀ (n i f d : Nat) (h : aH) (p : Nat → Int32), i + n ≤ 400 → d ≤ 400 → n < f → isT h t B W G → isX h t' fs → h[148]? = some (.inl (.int, 11, .inl vals)) → h[149]? = some (.inl (.int, 400, .inl p)) → okI (seg2 (B 11) (B 12) i n) d →
      s_X14_valueOf_6 f 104 t (jI (i + n)) (jI d) (jI i) h = some (.inl (some (.int (pilGo vals (seg2 (B 11) (B 12) i n) d p 0))), h.set 149 (.inl (.int, 400, .inl (pilGo vals (seg2 (B 11) (B 12) i n) d p))))
  | _, _, 0, _, _, _, _, _, hf, _, _, _, _, _ => by omega
  | 0, i, f + 1, d, h, p, hi, hd, hf, H, X, hv, hp, hok => by
    show s_X14_valueOf_6_b (s_X14_valueOf_6 f) 104 t (jI (i + 0)) (jI d) (jI i) h = _
    unfold s_X14_valueOf_6_b
    have g30 : gO h (.ref 104) 14 30 = some 149 := gO_of (ltE (by decide)) X.1 X.2.2.2
    have l0 : ldI .int h (.ref 149) 0 = some (p 0) := ldI_of (j := 0) (ltE (by decide)) hp (by decide) (by decide)
    rw [if_pos ((jI_le (by omega) (by omega)).mpr (by omega))]
    simp only [g30, l0, Option.bind_some]
    show _ = some (Sum.inl (some (Value.int (p 0))), h.set 149 (.inl (.int, 400, .inl p)))
    rw [set_same hp]
  | n + 1, i, f + 1, d, h, p, hi, hd, hf, H, X, hv, hp, hok => by
    have hT := H.1
    have g30 : gO h (.ref 104) 14 30 = some 149 := gO_of (ltE (by decide)) X.1 X.2.2.2
    have g29 : gO h (.ref 104) 14 29 = some 148 := gO_of (ltE (by decide)) X.1 X.2.2.1
    have g12 : gO h (.ref t) 13 12 = some (t + 11) := gO_of (by omega) H.2.1 rfl
    have g13 : gO h (.ref t) 13 13 = some (t + 12) := gO_of (by omega) H.2.1 rfl
    have l11 : ldI .int h (.ref (t + 11)) (jI i) = some (B 11 i) := H.ld (by decide) (by decide) (by decide) (show i < 400 by omega)
    have l12 : ldI .int h (.ref (t + 12)) (jI i) = some (B 12 i) := H.ld (by decide) (by decide) (by decide) (show i < 400 by omega)
    have step : ∀ (d' : Nat) (p' : Nat → Int32), d' ≤ 400 → okI (seg2 (B 11) (B 12) (i + 1) n) d' → s_X14_valueOf_6 f 104 t (jI (i + 1 + n)) (jI d') (jI (i + 1)) (h.set 149 (.inl (.int, 400, .inl p'))) = some (.inl (some (.int (pilGo vals (seg2 (B 11) (B 12) (i + 1) n) d' p' 0))), h.set 149 (.inl (.int, 400, .inl (pilGo vals (seg2 (B 11) (B 12) (i + 1) n) d' p')))) := by
      intro d' p' h1 h2
      have := valueOf_go ht2 n (i + 1) f d' _ p' (by omega) h1 (by omega) (H.set (c := .inl (.int, 400, .inl p')) (by omega)) (X.set (by decide)) (by rw [set_ne (by decide)]; exact hv) (set_eq hp) h2
      rw [set_set] at this
      exact this
    show s_X14_valueOf_6_b (s_X14_valueOf_6 f) 104 t (jI (i + (n + 1))) (jI d) (jI i) h = _
    unfold s_X14_valueOf_6_b
    rw [if_neg (fun q => by have := (jI_le (by omega) (by omega)).mp q; omega), show i + (n + 1) = i + 1 + n by omega]
    simp only [g12, l11, Option.bind_some, seg2, pilGo]
    simp only [seg2, okI] at hok
    by_cases q0 : B 11 i = 0
    · rw [if_pos q0] at hok
      have e3 := stI_of (x := B 12 i) (ltE (by decide)) hp hok.1 (by decide)
      simp only [q0, if_true, s_X14_valueOf_32, g30, g13, l12, Option.bind_some, s_X14_valueOf_65, e3, jI_inc]
      exact step (d + 1) _ (by omega) hok.2
    · by_cases q1 : B 11 i = 1
      · rw [if_neg q0, if_pos q1] at hok
        have e3 := stI_of (x := vals (B 12 i).toNatClampNeg) (ltE (by decide)) hp hok.1 (by decide)
        have l148 : ldI .int h (.ref 148) (B 12 i) = some (vals (B 12 i).toNatClampNeg) := by
          have := ldI_of (j := (B 12 i).toNatClampNeg) (ltE (by decide)) hv hok.2.1.2 (by decide)
          rw [← jI_of (i32_nlt.mpr hok.2.1.1)] at this
          exact this
        have z10 : ¬ (1 : Int32) = 0 := by decide
        simp only [q1, z10, if_true, if_false, s_X14_valueOf_32, g30, g29, g13, l12, l148, Option.bind_some, s_X14_valueOf_65, e3, jI_inc]
        exact step (d + 1) _ (by omega) hok.2.2
      · by_cases q5 : B 11 i = 5
        · rw [if_neg q0, if_neg q1, if_pos q5] at hok
          have e2 : ldI .int h (.ref 149) (jI (d - 1)) = some (p (d - 1)) := ldI_of (ltE (by decide)) hp (by omega) (by decide)
          have e3 := stI_of (j := d - 1) (x := -(p (d - 1))) (ltE (by decide)) hp (by omega) (by decide)
          have z50 : ¬ (5 : Int32) = 0 := by decide
          have z51 : ¬ (5 : Int32) = 1 := by decide
          simp only [q5, z50, z51, if_true, if_false, g30, Option.bind_some, jI_dec hok.1, e2, e3, jI_inc]
          exact step d _ hd hok.2
        · rw [if_neg q0, if_neg q1, if_neg q5] at hok
          have e1 : ldI .int h (.ref 149) (jI (d - 2)) = some (p (d - 2)) := ldI_of (ltE (by decide)) hp (by omega) (by decide)
          have e2 : ldI .int h (.ref 149) (jI (d - 1)) = some (p (d - 1)) := ldI_of (ltE (by decide)) hp (by omega) (by decide)
          have e3 := fun x : Int32 => stI_of (j := d - 2) (x := x) (ltE (by decide)) hp (by omega) (by decide)
          have d1 : jI d + (-1) = jI (d - 1) := jI_dec' (by omega)
          have d2 : jI (d - 1) - 1 = jI (d - 2) := by rw [jI_dec (by omega)]; rfl
          have key : ∀ r : Int32, r = relR (B 11 i) (p (d - 2)) (p (d - 1)) → s_X14_valueOf_211 (s_X14_valueOf_6 f) 104 t (jI (i + 1 + n)) (jI (d - 1)) (jI i) (B 11 i) (p (d - 2)).toInt64 (p (d - 1)).toInt64 r h = some (.inl (some (.int (pilGo vals (seg2 (B 11) (B 12) (i + 1) n) (d - 1) (upd p (d - 2) (opR (B 11 i) (p (d - 2)) (p (d - 1)))) 0))), h.set 149 (.inl (.int, 400, .inl (pilGo vals (seg2 (B 11) (B 12) (i + 1) n) (d - 1) (upd p (d - 2) (opR (B 11 i) (p (d - 2)) (p (d - 1)))))))) := by
            intro r hr
            have st := step (d - 1) (upd p (d - 2) (opR (B 11 i) (p (d - 2)) (p (d - 1)))) (by omega) hok.2
            unfold s_X14_valueOf_211
            simp only [g30, Option.bind_some, s_X14_bound, cI, s_X14_valueOf_282, d2, e3, jI_inc]
            by_cases k2 : B 11 i = 2
            · rw [if_pos k2]; rw [show opR (B 11 i) (p (d - 2)) (p (d - 1)) = bdR ((p (d - 2)).toInt64 + (p (d - 1)).toInt64) from if_pos k2] at st ⊢; exact st
            · by_cases k3 : B 11 i = 3
              · rw [if_neg k2, if_pos k3]; rw [show opR (B 11 i) (p (d - 2)) (p (d - 1)) = bdR ((p (d - 2)).toInt64 - (p (d - 1)).toInt64) by unfold opR; rw [if_neg k2, if_pos k3]] at st ⊢; exact st
              · by_cases k4 : B 11 i = 4
                · rw [if_neg k2, if_neg k3, if_pos k4]; rw [show opR (B 11 i) (p (d - 2)) (p (d - 1)) = bdR ((p (d - 2)).toInt64 * (p (d - 1)).toInt64) by unfold opR; rw [if_neg k2, if_neg k3, if_pos k4]] at st ⊢; exact st
                · have eo : opR (B 11 i) (p (d - 2)) (p (d - 1)) = if r = 0 then 0 else 1 := by unfold opR; rw [if_neg k2, if_neg k3, if_neg k4, hr]
                  rw [if_neg k2, if_neg k3, if_neg k4]
                  rw [eo] at st ⊢
                  by_cases kr : r = 0
                  · rw [if_pos kr] at st ⊢; rw [if_pos kr]; exact st
                  · rw [if_neg kr] at st ⊢; rw [if_neg kr]; exact st
          simp only [q0, q1, q5, if_false, g30, Option.bind_some, d1, d2, e1, e2]
          by_cases k6 : B 11 i = 6
          · rw [if_pos k6]
            split
            · rename_i z; exact key 0 (by unfold relR; rw [if_pos k6, if_pos z])
            · rename_i z; exact key 1 (by unfold relR; rw [if_pos k6, if_neg z])
          · rw [if_neg k6]
            by_cases k7 : B 11 i = 7
            · rw [if_pos k7]
              split
              · rename_i z; exact key 0 (by unfold relR; rw [if_neg k6, if_pos k7, if_pos z])
              · rename_i z; exact key 1 (by unfold relR; rw [if_neg k6, if_pos k7, if_neg z])
            · rw [if_neg k7]
              by_cases k8 : B 11 i = 8
              · rw [if_pos k8]
                split
                · rename_i z; exact key 1 (by unfold relR; rw [if_neg k6, if_neg k7, if_pos k8, if_pos z])
                · rename_i z; exact key 0 (by unfold relR; rw [if_neg k6, if_neg k7, if_pos k8, if_neg z])
              · rw [if_neg k8]
                split
                · rename_i z; exact key 1 (by unfold relR; rw [if_neg k6, if_neg k7, if_neg k8, if_pos z])
                · rename_i z; exact key 0 (by unfold relR; rw [if_neg k6, if_neg k7, if_neg k8, if_neg z])
end
