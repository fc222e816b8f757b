/-! the reference's factors of a sum: the pile -/
section
variable {wd : Int64} {t : Nat} {fv nv : Value} {A : Nat → Nat → Int32} {m F : Nat → Nat} {B : Nat → Nat → Int32} {W : Nat → Int64} {G : Nat → Nat}
theorem okN2_mu {a c : Int32} (ha : okN2 a) (hc : okN2 c) : okN2 (muN a c) := by
  unfold muN
  by_cases q : a = -1
  · rw [if_pos q]; exact hc
  · rw [if_neg q]
    by_cases q2 : c = -1
    · rw [if_pos q2]; exact ha
    · rw [if_neg q2]; exact Or.inr (Or.inl rfl)
theorem fo30_go {lo : Nat → Int32} {w to : Nat} (hw : w ≤ 7) (hto : to ≤ 400) : ∀ (n i f : Nat) (h : aH) (S : Nat → Int32) (V : Nat → Nat → Int32) (Z : Nat → Nat → Int64) (d : Nat) (q : Bool), i + n = to → n < f → d ≤ 400 → RC h S wd t fv nv V Z A m F B W G → S 50 = b01 q → okJ lo (B 2) (seg2 (B 11) (B 12) i n) d → (∀ j, j < d → okN2 (V 166 j)) →
    ∃ h' V' Z', s_X14_factorsOf_30 f 104 (jI to) (jI w) (jI d) (jI i) h = some (.inl none, h') ∧ RC h' (upd S 50 (b01 ((liG lo (seg2 (B 11) (B 12) i n) d (V 166) (Z 167) (Z 162, q)).2 && nrJ (liG lo (seg2 (B 11) (B 12) i n) d (V 166) (Z 167) (Z 162, q)).1 0 w))) wd t fv nv V' Z' A m F B W G ∧ Ou h h' ∧ Sm [166] V V' ∧ SmZ [162, 167] Z Z' ∧ Z' 162 = (liG lo (seg2 (B 11) (B 12) i n) d (V 166) (Z 167) (Z 162, q)).1
  | _, _, 0, _, _, _, _, _, _, _, hf, _, _, _, _, _ => by omega
  | 0, i, f + 1, h, S, V, Z, d, q, hn, hf, hd, C, hq, hok, hv => by
    have hd0 : 0 < d := hok
    obtain ⟨h1, e1, C1, O1⟩ := C.counts (d := 0) (mi := false) (by decide) hq (hv 0 hd0)
    obtain ⟨h2, e2, C2, O2⟩ := fo370_go hw w 0 FU h1 _ V _ _ (by omega) (by show w < 1000000; omega) C1 upd_eq
    refine ⟨h2, V, _, ?_, ?_, O1.trans O2, Sm.refl, SmZ.refl.upd (by decide), upd2_eq⟩
    · show s_X14_factorsOf_30_b (s_X14_factorsOf_30 f) 104 (jI to) (jI w) (jI d) (jI i) h = _
      unfold s_X14_factorsOf_30_b
      have e1' : s_X14_counts 104 0 0 h = _ := e1
      rw [if_pos ((jI_le (by omega) (by omega)).mpr (by omega)), C.kO, e1']
      exact e2
    · rw [upd_tw, upd2_eq] at C2
      exact C2
  | n + 1, i, f + 1, h, S, V, Z, d, q, hn, hf, hd, C, hq, hok, hv => by
    have ih := fun h S V Z d q => fo30_go (lo := lo) hw hto n (i + 1) f h S V Z d q (by omega) (by omega)
    have H := C.2.1
    have hT := H.1
    have rows : ∀ {h : aH} {S : Nat → Int32} {V : Nat → Nat → Int32} {Z : Nat → Nat → Int64}, RC h S wd t fv nv V Z A m F B W G → gO h (.ref 104) 14 48 = some 166 ∧ gO h (.ref 104) 14 49 = some 167 ∧ gO h (.ref 104) 14 4 = some t ∧ gO h (.ref t) 13 12 = some (t + 11) ∧ gO h (.ref t) 13 13 = some (t + 12) ∧ gO h (.ref t) 13 1 = some (t + 2) ∧ ldI .int h (.ref (t + 11)) (jI i) = some (B 11 i) ∧ ldI .int h (.ref (t + 12)) (jI i) = some (B 12 i) := by
      intro h S V Z C
      have H := C.2.1
      exact ⟨gO_of (ltE (by decide)) C.1.1 rfl, gO_of (ltE (by decide)) C.1.1 rfl, gO_of (ltE (by decide)) C.1.1 rfl, gO_of (by omega) H.2.1 rfl, gO_of (by omega) H.2.1 rfl, gO_of (by omega) H.2.1 rfl, H.ld (by decide) (by decide) (by decide) (show i < 400 by omega), H.ld (by decide) (by decide) (by decide) (show i < 400 by omega)⟩
    obtain ⟨g48, g49, g4, g12, g13, g1, l11, l12⟩ := rows C
    have begin : ∀ {y : aO}, (if B 11 i = 0 then (s_X14_factorsOf_59 (s_X14_factorsOf_30 f) 104 (jI to) (jI w) (jI d) (jI i) (B 11 i) h) else (if B 11 i = 1 then (s_X14_factorsOf_59 (s_X14_factorsOf_30 f) 104 (jI to) (jI w) (jI d) (jI i) (B 11 i) h) else (if B 11 i = 4 then ((gO h (.ref 104) 14 48).bind fun x191 => (ldI .int h (.ref x191) ((jI d + (-1)) - 1)).bind fun x198 => (gO h (.ref 104) 14 48).bind fun x202 => (ldI .int h (.ref x202) (jI d + (-1))).bind fun x207 => (gO h (.ref 104) 14 48).bind fun x211 => if x198 = (-1) then (s_X14_factorsOf_242 (s_X14_factorsOf_30 f) 104 (jI to) (jI w) (jI d + (-1)) (jI i) x207 ((jI d + (-1)) - 1) x211 h) else (if x207 = (-1) then (s_X14_factorsOf_242 (s_X14_factorsOf_30 f) 104 (jI to) (jI w) (jI d + (-1)) (jI i) x198 ((jI d + (-1)) - 1) x211 h) else (s_X14_factorsOf_242 (s_X14_factorsOf_30 f) 104 (jI to) (jI w) (jI d + (-1)) (jI i) (-2) ((jI d + (-1)) - 1) x211 h))) else (if B 11 i = 5 then (kO h 104 14 (cN (s_X14_counts 104 (jI d - 1) 1 h) fun h300 => (gO h300 (.ref 104) 14 48).bind fun x304 => (stI h300 (.ref x304) (jI d - 1) (-1)).bind fun h312 => s_X14_factorsOf_30 f 104 (jI to) (jI w) (jI d) (jI i + 1) h312)) else (kO h 104 14 (cN (s_X14_counts 104 ((jI d + (-1)) - 1) 0 h) fun h325 => if B 11 i = 3 then (s_X14_factorsOf_342 (s_X14_factorsOf_30 f) 104 (jI to) (jI w) (jI d + (-1)) (jI i) 1 (jI d + (-1)) 104 h325) else (s_X14_factorsOf_342 (s_X14_factorsOf_30 f) 104 (jI to) (jI w) (jI d + (-1)) (jI i) 0 (jI d + (-1)) 104 h325))))))) = y → s_X14_factorsOf_30 (f + 1) 104 (jI to) (jI w) (jI d) (jI i) h = y := by
      intro y hy
      show s_X14_factorsOf_30_b (s_X14_factorsOf_30 f) 104 (jI to) (jI w) (jI d) (jI i) h = _
      unfold s_X14_factorsOf_30_b
      rw [if_neg (fun u => by have := (jI_le (by omega) (by omega)).mp u; omega), g4, Option.bind_some, g12, Option.bind_some, l11, Option.bind_some]
      exact hy
    have unf : liG lo (seg2 (B 11) (B 12) i (n + 1)) d (V 166) (Z 167) (Z 162, q) = (if B 11 i = 0 then liG lo (seg2 (B 11) (B 12) (i + 1) n) (d + 1) (upd (V 166) d (-1)) (vp_updL (Z 167) d (B 12 i).toInt64) (Z 162, q)
        else if B 11 i = 1 then liG lo (seg2 (B 11) (B 12) (i + 1) n) (d + 1) (upd (V 166) d (if B 12 i < 7 then B 12 i else -1)) (vp_updL (Z 167) d (if B 12 i < 7 then 1 else (lo (B 12 i).toNatClampNeg).toInt64)) (Z 162, q)
        else if B 11 i = 4 then liG lo (seg2 (B 11) (B 12) (i + 1) n) (d - 1) (upd (V 166) (d - 2) (muN (V 166 (d - 2)) (V 166 (d - 1)))) (vp_updL (Z 167) (d - 2) (clL (Z 167 (d - 2) * Z 167 (d - 1)))) (Z 162, q)
        else if B 11 i = 5 then liG lo (seg2 (B 11) (B 12) (i + 1) n) d (upd (V 166) (d - 1) (-1)) (Z 167) (ctN true (V 166 (d - 1)) (Z 167 (d - 1)) (Z 162, q))
        else liG lo (seg2 (B 11) (B 12) (i + 1) n) (d - 1) (upd (V 166) (d - 2) (-1)) (Z 167) (ctN (decide (B 11 i = 3)) (V 166 (d - 1)) (Z 167 (d - 1)) (ctN false (V 166 (d - 2)) (Z 167 (d - 2)) (Z 162, q)))) := rfl
    rw [unf]
    have hok' : (if B 11 i = 0 then d < 400 ∧ okJ lo (B 2) (seg2 (B 11) (B 12) (i + 1) n) (d + 1) else if B 11 i = 1 then d < 400 ∧ (∃ s, B 12 i = jI s ∧ s < 9 ∧ B 2 s = lo s) ∧ okJ lo (B 2) (seg2 (B 11) (B 12) (i + 1) n) (d + 1) else if B 11 i = 5 then 0 < d ∧ okJ lo (B 2) (seg2 (B 11) (B 12) (i + 1) n) d else 2 ≤ d ∧ okJ lo (B 2) (seg2 (B 11) (B 12) (i + 1) n) (d - 1)) := hok
    -- a name and a factor on the pile
    have push : ∀ (nm : Int32) (fa : Int64), d < 400 → okN2 nm → okJ lo (B 2) (seg2 (B 11) (B 12) (i + 1) n) (d + 1) →
        ∃ h1 h2, stI h (.ref 166) (jI d) nm = some h1 ∧ stJ h1 (.ref 167) (jI d) fa = some h2 ∧ RC h1 S wd t fv nv (upd2 V 166 (upd (V 166) d nm)) Z A m F B W G ∧ ∃ h' V' Z', s_X14_factorsOf_30 f 104 (jI to) (jI w) (jI (d + 1)) (jI (i + 1)) h2 = some (.inl none, h') ∧ RC h' (upd S 50 (b01 ((liG lo (seg2 (B 11) (B 12) (i + 1) n) (d + 1) (upd (V 166) d nm) (vp_updL (Z 167) d fa) (Z 162, q)).2 && nrJ (liG lo (seg2 (B 11) (B 12) (i + 1) n) (d + 1) (upd (V 166) d nm) (vp_updL (Z 167) d fa) (Z 162, q)).1 0 w))) wd t fv nv V' Z' A m F B W G ∧ Ou h h' ∧ Sm [166] V V' ∧ SmZ [162, 167] Z Z' ∧ Z' 162 = (liG lo (seg2 (B 11) (B 12) (i + 1) n) (d + 1) (upd (V 166) d nm) (vp_updL (Z 167) d fa) (Z 162, q)).1 := by
      intro nm fa hd4 hnm hj
      obtain ⟨h1, e1, X1, O1⟩ := C.1.st (a := 166) (j := d) rfl rfl hd4 nm
      have C1 := C.to X1 O1
      obtain ⟨h2, e2, X2, O2⟩ := C1.1.stJ (a := 167) (j := d) rfl hd4 fa
      have C2 := C1.to X2 O2
      obtain ⟨h', V', Z', i1, i2, i3, i4, i5, i6⟩ := ih h2 S _ _ (d + 1) q (by omega) C2 hq hj (fun j hj => by
        rw [upd2_eq]
        by_cases u : j = d
        · rw [u, upd_eq]; exact hnm
        · rw [upd_ne u]; exact hv j (by omega))
      rw [upd2_eq, upd2_eq, upd2_ne (by decide)] at i2 i6
      exact ⟨h1, h2, e1, e2, C1, h', V', Z', i1, i2, (O1.trans O2).trans i3, (Sm.refl.upd (by decide)).trans i4, (SmZ.refl.upd (by decide)).trans i5, i6⟩
    by_cases q0 : B 11 i = 0
    · rw [if_pos q0] at hok'
      rw [if_pos q0]
      obtain ⟨h1, h2, e1, e2, C1, h', V', Z', i1, r⟩ := push (-1) (B 12 i).toInt64 hok'.1 (Or.inl rfl) hok'.2
      refine ⟨h', V', Z', begin ?_, r⟩
      obtain ⟨p48, p49, p4, p12, p13, p1, m11, m12⟩ := rows C1
      rw [if_pos q0, q0]
      unfold s_X14_factorsOf_59 s_X14_factorsOf_86 s_X14_factorsOf_87 s_X14_factorsOf_119 s_X14_factorsOf_120 s_X14_factorsOf_174
      rw [if_neg (by decide), g48, Option.bind_some, if_neg (by decide), e1, Option.bind_some, p49, Option.bind_some, if_pos rfl, p4, Option.bind_some, p13, Option.bind_some, m12, Option.bind_some, e2, Option.bind_some, jI_inc, jI_inc]
      exact i1
    · rw [if_neg q0] at hok'
      rw [if_neg q0]
      by_cases q1 : B 11 i = 1
      · rw [if_pos q1] at hok'
        rw [if_pos q1]
        obtain ⟨hd4, ⟨s, es, hs, elo⟩, hj⟩ := hok'
        have so : s_X14_slotOf 3 h = some (.inl (some (.int (jI 7))), h) := slotOfR_at h 3 (by decide)
        by_cases s7 : B 12 i < 7
        · have s7' : s < 7 := by rw [es] at s7; exact (jI_lt (k := 7) (by omega) (by omega)).mp s7
          rw [if_pos s7, if_pos s7]
          obtain ⟨h1, h2, e1, e2, C1, h', V', Z', i1, r⟩ := push (B 12 i) 1 hd4 (Or.inr (Or.inr ⟨s, es, s7'⟩)) hj
          refine ⟨h', V', Z', begin ?_, r⟩
          obtain ⟨p48, p49, p4, p12, p13, p1, m11, m12⟩ := rows C1
          rw [if_neg q0, if_pos q1, q1]
          unfold s_X14_factorsOf_59 s_X14_factorsOf_86 s_X14_factorsOf_87 s_X14_factorsOf_120 s_X14_factorsOf_174
          rw [if_pos rfl, g4, Option.bind_some, g13, Option.bind_some, l12, Option.bind_some, so]
          simp only [cI]
          rw [if_pos (show B 12 i < jI 7 from s7), g48, Option.bind_some, if_pos trivial, if_pos trivial, g4, Option.bind_some, g13, Option.bind_some, l12, Option.bind_some, e1, Option.bind_some, p49, Option.bind_some, if_neg (by decide), if_pos trivial, e2, Option.bind_some, jI_inc, jI_inc]
          exact i1
        · rw [if_neg s7, if_neg s7]
          obtain ⟨h1, h2, e1, e2, C1, h', V', Z', i1, r⟩ := push (-1) (lo (B 12 i).toNatClampNeg).toInt64 hd4 (Or.inl rfl) hj
          refine ⟨h', V', Z', begin ?_, r⟩
          obtain ⟨p48, p49, p4, p12, p13, p1, m11, m12⟩ := rows C1
          have l2 : ldI .int h1 (.ref (t + 2)) (B 12 i) = some (lo (B 12 i).toNatClampNeg) := by
            rw [es, jI_cl (by omega), ← elo]
            exact C1.2.1.ld (by decide) (by decide) (by decide) (show s < 11 by omega)
          rw [if_neg q0, if_pos q1, q1]
          unfold s_X14_factorsOf_59 s_X14_factorsOf_86 s_X14_factorsOf_87 s_X14_factorsOf_119 s_X14_factorsOf_120 s_X14_factorsOf_174
          rw [if_pos rfl, g4, Option.bind_some, g13, Option.bind_some, l12, Option.bind_some, so]
          simp only [cI]
          rw [if_neg (show ¬ B 12 i < jI 7 from s7), g48, Option.bind_some, if_pos trivial, if_neg (by decide), e1, Option.bind_some, p49, Option.bind_some, if_neg (by decide), if_neg (by decide), p4, Option.bind_some, p1, Option.bind_some, Option.bind_some, p13, Option.bind_some, m12, Option.bind_some, l2, Option.bind_some, e2, Option.bind_some, jI_inc, jI_inc]
          exact i1
      · rw [if_neg q1] at hok'
        rw [if_neg q1]
        by_cases q4 : B 11 i = 4
        · rw [if_neg (show ¬ B 11 i = 5 by rw [q4]; decide)] at hok'
          rw [if_pos q4]
          obtain ⟨hd2, hj⟩ := hok'
          have j1 : jI d + (-1) = jI (d - 1) := jI_dec' (by omega)
          have j2 : jI (d - 1) - 1 = jI (d - 2) := by rw [jI_dec (by omega)]; congr 1
          have a1 : ldI .int h (.ref 166) (jI (d - 2)) = some (V 166 (d - 2)) := C.1.ld (a := 166) rfl (show d - 2 < 400 by omega)
          have a2 : ldI .int h (.ref 166) (jI (d - 1)) = some (V 166 (d - 1)) := C.1.ld (a := 166) rfl (show d - 1 < 400 by omega)
          have n2 := okN2_mu (hv (d - 2) (by omega)) (hv (d - 1) (by omega))
          obtain ⟨h1, e1, X1, O1⟩ := C.1.st (a := 166) (j := d - 2) rfl rfl (show d - 2 < 400 by omega) (muN (V 166 (d - 2)) (V 166 (d - 1)))
          have C1 := C.to X1 O1
          obtain ⟨p48, p49, p4, p12, p13, p1, m11, m12⟩ := rows C1
          have b1 : ldJ h1 (.ref 167) (jI (d - 2)) = some (Z 167 (d - 2)) := C1.1.ldJ (a := 167) rfl (show d - 2 < 400 by omega)
          have b2 : ldJ h1 (.ref 167) (jI (d - 1)) = some (Z 167 (d - 1)) := C1.1.ldJ (a := 167) rfl (show d - 1 < 400 by omega)
          obtain ⟨h2, e2, X2, O2⟩ := C1.1.stJ (a := 167) (j := d - 2) rfl (show d - 2 < 400 by omega) (clL (Z 167 (d - 2) * Z 167 (d - 1)))
          have C2 := C1.to X2 O2
          obtain ⟨h', V', Z', i1, i2, i3, i4, i5, i6⟩ := ih h2 S _ _ (d - 1) q (by omega) C2 hq hj (fun j hj => by
            rw [upd2_eq]
            by_cases u : j = d - 2
            · rw [u, upd_eq]; exact n2
            · rw [upd_ne u]; exact hv j (by omega))
          rw [upd2_eq, upd2_eq, upd2_ne (by decide)] at i2 i6
          refine ⟨h', V', Z', begin ?_, i2, (O1.trans O2).trans i3, (Sm.refl.upd (by decide)).trans i4, (SmZ.refl.upd (by decide)).trans i5, i6⟩
          have tl : s_X14_factorsOf_242 (s_X14_factorsOf_30 f) 104 (jI to) (jI w) (jI (d - 1)) (jI i) (muN (V 166 (d - 2)) (V 166 (d - 1))) (jI (d - 2)) 166 h = some (.inl none, h') := by
            unfold s_X14_factorsOf_242
            have e2' : stJ h1 (.ref 167) (jI (d - 2)) (jmaxL (-1000000) (jminL 1000000 (Z 167 (d - 2) * Z 167 (d - 1)))) = some h2 := e2
            rw [e1, Option.bind_some, p49, Option.bind_some, j2, b1, Option.bind_some, Option.bind_some, b2, Option.bind_some, Option.bind_some, e2', Option.bind_some, jI_inc]
            exact i1
          rw [if_neg q0, if_neg q1, if_pos q4, g48, Option.bind_some, j1, j2, a1, Option.bind_some, Option.bind_some, a2, Option.bind_some, Option.bind_some]
          unfold muN at tl
          by_cases u1 : V 166 (d - 2) = -1
          · rw [if_pos u1] at tl ⊢
            exact tl
          · rw [if_neg u1] at tl ⊢
            by_cases u2 : V 166 (d - 1) = -1
            · rw [if_pos u2] at tl ⊢
              exact tl
            · rw [if_neg u2] at tl ⊢
              exact tl
        · rw [if_neg q4]
          by_cases q5 : B 11 i = 5
          · rw [if_pos q5] at hok'
            rw [if_pos q5]
            obtain ⟨hd0, hj⟩ := hok'
            obtain ⟨h1, e1, C1, O1⟩ := C.counts (d := d - 1) (mi := true) (by omega) hq (hv (d - 1) (by omega))
            obtain ⟨h2, e2, X2, O2⟩ := C1.1.st (a := 166) (j := d - 1) rfl rfl (show d - 1 < 400 by omega) (-1)
            have C2 := C1.to X2 O2
            obtain ⟨p48, -⟩ := rows C1
            obtain ⟨h', V', Z', i1, i2, i3, i4, i5, i6⟩ := ih h2 _ _ _ d _ hd C2 upd_eq hj (fun j hj => by
              rw [upd2_eq]
              by_cases u : j = d - 1
              · rw [u, upd_eq]; exact Or.inl rfl
              · rw [upd_ne u]; exact hv j hj)
            rw [upd2_eq, upd2_eq, upd2_ne (by decide), upd_tw] at i2
            rw [upd2_eq, upd2_eq, upd2_ne (by decide)] at i6
            refine ⟨h', V', Z', begin ?_, i2, (O1.trans O2).trans i3, (Sm.refl.upd (by decide)).trans i4, (SmZ.refl.upd (by decide)).trans i5, i6⟩
            have e1' : s_X14_counts 104 (jI (d - 1)) 1 h = _ := e1
            rw [if_neg q0, if_neg q1, if_neg q4, if_pos q5, C.kO, jI_dec hd0, e1']
            simp only [cN]
            rw [p48, Option.bind_some, e2, Option.bind_some, jI_inc]
            exact i1
          · rw [if_neg q5] at hok'
            rw [if_neg q5]
            obtain ⟨hd2, hj⟩ := hok'
            have j1 : jI d + (-1) = jI (d - 1) := jI_dec' (by omega)
            have j2 : jI (d - 1) - 1 = jI (d - 2) := by rw [jI_dec (by omega)]; congr 1
            obtain ⟨h1, e1, C1, O1⟩ := C.counts (d := d - 2) (mi := false) (by omega) hq (hv (d - 2) (by omega))
            obtain ⟨h2, e2, C2, O2⟩ := C1.counts (d := d - 1) (mi := decide (B 11 i = 3)) (by omega) upd_eq (hv (d - 1) (by omega))
            rw [upd2_eq, upd2_ne (by decide), upd_tw, upd2_2] at C2
            obtain ⟨h3, e3, X3, O3⟩ := C2.1.st (a := 166) (j := d - 2) rfl rfl (show d - 2 < 400 by omega) (-1)
            have C3 := C2.to X3 O3
            obtain ⟨p48, -⟩ := rows C2
            obtain ⟨h', V', Z', i1, i2, i3, i4, i5, i6⟩ := ih h3 _ _ _ (d - 1) _ (by omega) C3 upd_eq hj (fun j hj => by
              rw [upd2_eq]
              by_cases u : j = d - 2
              · rw [u, upd_eq]; exact Or.inl rfl
              · rw [upd_ne u]; exact hv j (by omega))
            rw [upd2_eq, upd2_eq, upd2_ne (by decide), upd_tw] at i2
            rw [upd2_eq, upd2_eq, upd2_ne (by decide)] at i6
            refine ⟨h', V', Z', begin ?_, i2, ((O1.trans O2).trans O3).trans i3, (Sm.refl.upd (by decide)).trans i4, (SmZ.refl.upd (by decide)).trans i5, i6⟩
            have e1' : s_X14_counts 104 (jI (d - 2)) 0 h = _ := e1
            rw [if_neg q0, if_neg q1, if_neg q4, if_neg q5, C.kO, j1, j2, e1']
            simp only [cN]
            have tl : ∀ x : Int32, x = b01 (decide (B 11 i = 3)) → s_X14_factorsOf_342 (s_X14_factorsOf_30 f) 104 (jI to) (jI w) (jI (d - 1)) (jI i) x (jI (d - 1)) 104 h1 = some (.inl none, h') := by
              intro x hx
              subst hx
              unfold s_X14_factorsOf_342
              rw [C1.kO, e2]
              simp only [cN]
              rw [p48, Option.bind_some, j2, e3, Option.bind_some, jI_inc]
              exact i1
            by_cases u3 : B 11 i = 3
            · rw [if_pos u3]
              exact tl 1 (by rw [decide_eq_true u3]; rfl)
            · rw [if_neg u3]
              exact tl 0 (by rw [decide_eq_false u3]; rfl)
end
