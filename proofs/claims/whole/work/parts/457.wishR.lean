/-! the reference's wishes: marks and costs -/
/-- the reference's wish, read -/
def rTest (h : aH) (l : List pOne) : Prop := ∃ (B : Nat → Nat → Int32) (W : Nat → Int64) (G : Nat → Nat), isT h 120 B W G ∧ G 7 ≤ 400 ∧ seg2 (B 11) (B 12) 0 (G 7) = testI l
def rSum (h : aH) (l : List pFa) : Prop := ∃ (B : Nat → Nat → Int32) (W : Nat → Int64) (G : Nat → Nat), isT h 120 B W G ∧ G 7 ≤ 400 ∧ seg2 (B 11) (B 12) 0 (G 7) = postV l
theorem rTest.ou {h h' : aH} {l : List pOne} (H : rTest h l) (O : Ou h h') : rTest h' l := by
  obtain ⟨B, W, G, q, r⟩ := H
  exact ⟨B, W, G, q.ou O (Or.inr (Or.inl rfl)), r⟩
theorem rSum.ou {h h' : aH} {l : List pFa} (H : rSum h l) (O : Ou h h') : rSum h' l := by
  obtain ⟨B, W, G, q, r⟩ := H
  exact ⟨B, W, G, q.ou O (Or.inr (Or.inl rfl)), r⟩
theorem okLz.L {m : Nat → Nat} {l : List pFa} (h : okLz m l) : okL m l := fun a ha q => Or.inl (h a ha q)
theorem okLz.Q {m : Nat → Nat} {v : Nat → Int32} {l : List pFa} (h : okLz m l) (hB : okB l) (hv : ∀ s, s < m 0 → sm 100 (v s)) : okQ v l := ⟨hB.1, fun x hx => by
  unfold fVal
  by_cases q : 0 ≤ x.2.1
  · rw [if_pos q]
    exact sm_le (by decide) (hv _ (h x hx q))
  · rw [if_neg q]
    exact hB.2 x hx q⟩
section
variable {S : Nat → Int32} {wd : Int64} {t : Nat} {fv nv : Value} {Z : Nat → Nat → Int64} {A : Nat → Nat → Int32} {m F : Nat → Nat} {B : Nat → Nat → Int32} {W : Nat → Int64} {G : Nat → Nat}
theorem mk4_go {l : List pOne} (hne : l ≠ []) (hl : okOz m l) (hB : ∀ a ∈ l, okOB a) {a : Nat} (ha : a = 146 ∨ a = 147) : ∀ (n c f g : Nat) (h : aH) (V : Nat → Nat → Int32), c + n = F 12 → n < f → g + n < 1000000 → RC h S wd t fv nv V Z A m F B W G → rTest h l → (∀ d, d < c → V a d = b01 (gdT A m F l d)) →
    ∃ h' V', s_X14_marks_4 f 104 a (jI g) (jI c) h = some (.inl (some (.int (jI (g + cntR (gdT A m F l) c n)))), h') ∧ RC h' S wd t fv nv V' Z A m F B W G ∧ Ou h h' ∧ Sm [148, 149, a] V V' ∧ ∀ d, d < F 12 → V' a d = b01 (gdT A m F l d)
  | _, _, 0, _, _, _, _, hf, _, _, _, _ => by omega
  | 0, c, f + 1, g, h, V, hk, hf, hg, C, T, hz => by
    have s20 := C.2.2.2.2.2.2.1
    have h400 := C.2.2.2.2.2.1.2.2.2.2.1
    have g20 : gI h (.ref 104) 14 20 = some (jI (F 12)) := s20 ▸ gI_of (ltE (by decide)) C.1.1 rfl
    refine ⟨h, V, ?_, C, Ou.refl, Sm.refl, fun d hd => hz d (by omega)⟩
    show s_X14_marks_4_b (s_X14_marks_4 f) 104 a (jI g) (jI c) h = _
    unfold s_X14_marks_4_b
    rw [g20, Option.bind_some, if_pos ((jI_le (by omega) (by omega)).mpr (by omega))]
    rfl
  | n + 1, c, f + 1, g, h, V, hk, hf, hg, C, T, hz => by
    obtain ⟨X, HT, hot, sim, KW, hC, s20, s21, s22, s23⟩ := id C
    have h400 := hC.2.2.2.2.1
    have hm := KW.1.1
    have g20 : gI h (.ref 104) 14 20 = some (jI (F 12)) := s20 ▸ gI_of (ltE (by decide)) X.1 rfl
    obtain ⟨h1, e1, C1, O1⟩ := C.lays (jI c)
    obtain ⟨Bw, Ww, Gw, T1, t2, t3⟩ := T.ou O1
    have g19 : gO h1 (.ref 104) 14 19 = some 120 := gO_of (ltE (by decide)) C1.1.1 rfl
    have g7 : gI h1 (.ref 120) 13 7 = some (jI (Gw 7)) := gI_of (ltE (by decide)) T1.2.1 rfl
    obtain ⟨v, hv⟩ : ∃ v, v = sprGo A 0 0 (m 0) (jI c) (V 148) := ⟨_, rfl⟩
    rw [← hv] at C1
    have v148 : h1[148]? = some (.inl (.int, 11, .inl v)) := by
      have := C1.1.2.1 148 rfl
      rw [upd2_eq] at this
      exact this
    have vs : ∀ s, s < m 0 → sm 100 (v s) := fun s hs => by
      rw [hv]
      exact spr_sm _ _ _ s (by omega) (Nat.zero_le _) (by omega) (KW.2.2.1 s (Or.inl hs))
    obtain ⟨p', e3⟩ := valTest_at (Or.inl (by decide)) T1 C1.1.isX v148 (C1.1.2.1 149 rfl) (a := 0) (b := Gw 7) (by omega) t3 hne (fun x hx => ⟨(hl x hx).1.Q (hB x hx).1 vs, (hl x hx).2.Q (hB x hx).2 vs⟩) (fun x hx => okU_of hm (hB x hx) (hl x hx).1.L (hl x hx).2.L)
    have r := C1.1.row (a := 149) (g := p') rfl
    have C2 := C1.to r.1 r.2
    have gv : allV v l = gdT A m F l c := by
      unfold gdT
      rw [decide_eq_true (show c < F 12 by omega), Bool.true_and, hv]
      exact allV_st (fun s hs => spr_in A 0 0 (m 0) _ _ _ s (Nat.zero_le _) (by omega)) hl
    rw [gv, Nat.zero_add] at e3
    obtain ⟨h2, hh2⟩ : ∃ h2, h2 = h1.set 149 (.inl (.int, 400, .inl p')) := ⟨_, rfl⟩
    have e3' : s_X14_valueOf 104 120 0 (jI (Gw 7)) h1 = some (.inl (some (.int (b01 (gdT A m F l c)))), h2) := by rw [hh2]; exact e3
    have C2' : RC h2 S wd t fv nv (upd2 (upd2 V 148 v) 149 p') Z A m F B W G := by rw [hh2]; exact C2
    have O2 : Ou h1 h2 := by rw [hh2]; exact r.2
    have ain : inR a = true := by rcases ha with rfl | rfl <;> rfl
    have aty : ryR a = .boolean := by rcases ha with rfl | rfl <;> rfl
    have aln : lnR a = 400 := by rcases ha with rfl | rfl <;> rfl
    obtain ⟨h3, e4, X3, O3⟩ := C2'.1.stN (a := a) (j := c) ain (by rw [aln]; omega) (b01 (gdT A m F l c))
    have nar : vp_nar (ryR a) (b01 (gdT A m F l c)) = b01 (gdT A m F l c) := by
      rw [aty]
      cases gdT A m F l c
      · exact bool_nar.1
      · exact bool_nar.2
    rw [nar] at X3
    rw [aty] at e4
    have C3 := C2'.to X3 O3
    have l3 : ldI .boolean h3 (.ref a) (jI c) = some (b01 (gdT A m F l c)) := by
      have := C3.1.ld (a := a) (j := c) ain (by rw [aln]; omega)
      rw [aty, upd2_eq, upd_eq] at this
      exact this
    have cr : cntR (gdT A m F l) c (n + 1) = (if gdT A m F l c then 1 else 0) + cntR (gdT A m F l) (c + 1) n := rfl
    have hz' : ∀ d, d < c + 1 → upd2 (upd2 (upd2 V 148 v) 149 p') a (upd (upd2 (upd2 V 148 v) 149 p' a) c (b01 (gdT A m F l c))) a d = b01 (gdT A m F l d) := fun d hd => by
      rw [upd2_eq, upd2_ne (show a ≠ 149 by omega), upd2_ne (show a ≠ 148 by omega)]
      by_cases q : d = c
      · rw [q, upd_eq]
      · rw [upd_ne q]; exact hz d (by omega)
    have OO := (O1.trans O2).trans O3
    have MM : Sm [148, 149, a] V (upd2 (upd2 (upd2 V 148 v) 149 p') a (upd (upd2 (upd2 V 148 v) 149 p' a) c (b01 (gdT A m F l c)))) := ((Sm.refl.upd (by simp)).upd (by simp)).upd (by simp)
    obtain ⟨h', V', ih, i1, i2, i3, i4⟩ := mk4_go hne hl hB ha n (c + 1) f (g + (if gdT A m F l c then 1 else 0)) h3 _ (by omega) (by omega) (by split <;> omega) C3 (T.ou OO) hz'
    refine ⟨h', V', ?_, i1, OO.trans i2, MM.trans i3, i4⟩
    have p44 : s_X14_marks_44 (s_X14_marks_4 f) 104 a (jI g) (jI c) (b01 (gdT A m F l c)) (jI c) a h2 = some (.inl (some (.int (jI (g + cntR (gdT A m F l) c (n + 1))))), h') := by
      unfold s_X14_marks_44
      rw [e4, Option.bind_some, l3, Option.bind_some, cr, ← Nat.add_assoc, ← ih]
      unfold s_X14_marks_57
      cases z : gdT A m F l c with
      | false =>
        rw [if_pos b01_f, if_neg (by decide), jI_inc, show (0 : Int32) = jI 0 from rfl, jI_add]
      | true =>
        rw [if_neg (show ¬ b01 true = 0 by decide), if_pos rfl, jI_inc, show (1 : Int32) = jI 1 from rfl, jI_add]
    show s_X14_marks_4_b (s_X14_marks_4 f) 104 a (jI g) (jI c) h = _
    unfold s_X14_marks_4_b
    rw [g20, Option.bind_some, if_neg (fun q => by have := (jI_le (by omega) (by omega)).mp q; omega), C.kO, e1]
    simp only [cN, g19, g7, Option.bind_some, C1.kO, e3', cI]
    cases z : gdT A m F l c with
    | false =>
      rw [z] at p44
      rw [if_neg (show ¬ b01 false = 1 by decide)]
      exact p44
    | true =>
      rw [z] at p44
      rw [if_pos b01_t]
      exact p44
theorem RC.marks {l : List pOne} (hne : l ≠ []) (hl : okOz m l) (hB : ∀ a ∈ l, okOB a) {a : Nat} (ha : a = 146 ∨ a = 147) {h : aH} {V : Nat → Nat → Int32} (C : RC h S wd t fv nv V Z A m F B W G) (T : rTest h l) :
    ∃ h' V', s_X14_marks 104 a h = some (.inl (some (.int (jI (cntB (gdT A m F l) (F 12))))), h') ∧ RC h' S wd t fv nv V' Z A m F B W G ∧ Ou h h' ∧ Sm [148, 149, a] V V' ∧ ∀ d, d < F 12 → V' a d = b01 (gdT A m F l d) := by
  have h400 := C.2.2.2.2.2.1.2.2.2.2.1
  have e0 : (0 : Nat) + cntR (gdT A m F l) 0 (F 12) = cntB (gdT A m F l) (F 12) := by
    have := cntR_B (gdT A m F l) (F 12) 0
    rw [Nat.zero_add] at this
    exact this
  have r := mk4_go hne hl hB ha (F 12) 0 FU 0 h V (by omega) (by unfold FU; omega) (by omega) C T (fun d hd => by omega)
  rw [e0] at r
  exact r
/-- one item of the wish copied to the costs -/
theorem seg2_congr {f g f' g' : Nat → Int32} : ∀ (n i : Nat), (∀ j, i ≤ j → j < i + n → f j = f' j ∧ g j = g' j) → seg2 f g i n = seg2 f' g' i n
  | 0, _, _ => rfl
  | n + 1, i, h => by
    show (f i, g i) :: seg2 f g (i + 1) n = (f' i, g' i) :: seg2 f' g' (i + 1) n
    rw [(h i (Nat.le_refl _) (by omega)).1, (h i (Nat.le_refl _) (by omega)).2, seg2_congr n (i + 1) (fun j h1 h2 => h j (by omega) (by omega))]
end
