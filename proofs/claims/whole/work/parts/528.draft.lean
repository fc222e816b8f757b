/-! the draft grows: a span, a sight, a step -/
theorem dcl_new {m : Nat → Nat} (hm : ∀ k, k < 5 → m k ≤ mxK k) {kd : Nat} (hkd : kd < 5) (hl : m kd < mxK kd) (x : Nat) : (dcl5 (upd2 m kd (m kd + 1)) x ↔ x = bsN kd + m kd ∨ dcl5 m x) ∧ (dcl5 m x → x ≠ bsN kd + m kd) := by
  constructor
  · constructor
    · rintro ⟨k, hk, h1, h2⟩
      by_cases u : k = kd
      · subst u
        rw [upd2_eq] at h2
        by_cases v : x = bsN k + m k
        · exact Or.inl v
        · exact Or.inr ⟨k, hk, h1, by omega⟩
      · rw [upd2_ne u] at h2
        exact Or.inr ⟨k, hk, h1, h2⟩
    · rintro (h | ⟨k, hk, h1, h2⟩)
      · exact ⟨kd, hkd, by omega, by rw [upd2_eq]; omega⟩
      · refine ⟨k, hk, h1, ?_⟩
        by_cases u : k = kd
        · subst u; rw [upd2_eq]; omega
        · rw [upd2_ne u]; exact h2
  · rintro ⟨k, hk, h1, h2⟩ e
    have a := hm k hk
    have b : ∀ k, k < 5 → bsN k + mxK k ≤ 11 ∧ (k = 0 → bsN k = 0 ∧ mxK k = 3) ∧ (k = 1 → bsN k = 3 ∧ mxK k = 2) ∧ (k = 2 → bsN k = 5 ∧ mxK k = 2) ∧ (k = 3 → bsN k = 7 ∧ mxK k = 2) ∧ (k = 4 → bsN k = 9 ∧ mxK k = 2) := by decide
    obtain ⟨-, p0, p1, p2, p3, p4⟩ := b k hk
    obtain ⟨-, q0, q1, q2, q3, q4⟩ := b kd hkd
    have kk : k = 0 ∨ k = 1 ∨ k = 2 ∨ k = 3 ∨ k = 4 := by omega
    have ll : kd = 0 ∨ kd = 1 ∨ kd = 2 ∨ kd = 3 ∨ kd = 4 := by omega
    rcases kk with rfl | rfl | rfl | rfl | rfl <;> rcases ll with rfl | rfl | rfl | rfl | rfl <;> omega
theorem decl_5 {m : Nat → Nat} {s : Nat} : decl m s → dcl5 m s := by
  rintro (h | ⟨h1, h2⟩ | ⟨h1, h2⟩ | ⟨h1, h2⟩)
  · exact ⟨0, by decide, Nat.zero_le s, by show s < 0 + m 0; omega⟩
  · exact ⟨1, by decide, h1, h2⟩
  · exact ⟨2, by decide, h1, h2⟩
  · exact ⟨3, by decide, h1, h2⟩
theorem dcl5_4 {m : Nat → Nat} {s : Nat} (h : dcl5 m s) (h9 : s < 9) : decl m s := by
  obtain ⟨k, hk, h1, h2⟩ := h
  match k, hk, h1, h2 with
  | 0, _, _, h2 => exact Or.inl (by have h2 : s < 0 + m 0 := h2; omega)
  | 1, _, h1, h2 => exact Or.inr (Or.inl ⟨h1, h2⟩)
  | 2, _, h1, h2 => exact Or.inr (Or.inr (Or.inl ⟨h1, h2⟩))
  | 3, _, h1, h2 => exact Or.inr (Or.inr (Or.inr ⟨h1, h2⟩))
  | 4, _, h1, _ => exact absurd h1 (by show ¬ 9 ≤ s; omega)
theorem okFc.mono {m m' : Nat → Nat} {per : Nat} {l : List pFa} (h : okFc m per l) (hm : ∀ s, dcl5 m s → dcl5 m' s) : okFc m' per l := ⟨h.1, fun a ha h0 => by
  obtain ⟨s, s1, s2, s3⟩ := h.2 a ha h0
  exact ⟨s, s1, hm s s2, s3⟩⟩
theorem sgm_cg {A A' : Nat → Nat → Int32} {f t i : Nat} (hf : A' f = A f) (ht : A' t = A t) (h3 : A' 13 = A 13 ∧ A' 14 = A 14 ∧ A' 15 = A 15) : sgm A' f t i = sgm A f t i := by
  unfold sgm
  rw [hf, ht, h3.1, h3.2.1, h3.2.2]
theorem sgo_cg {A A' : Nat → Nat → Int32} {f t i : Nat} (hf : A' f = A f) (ht : A' t = A t) (h3 : A' 13 = A 13 ∧ A' 14 = A 14 ∧ A' 15 = A 15) (h4 : A' 16 = A 16 ∧ A' 17 = A 17 ∧ A' 18 = A 18 ∧ A' 19 = A 19) : sgo A' f t i = sgo A f t i := by
  unfold sgo
  rw [hf, ht, h3.1, h3.2.1, h3.2.2, h4.1, h4.2.1, h4.2.2.1, h4.2.2.2]
theorem okP2_cg {A A' : Nat → Nat → Int32} {f t i M M' : Nat} (hf : A' f i = A f i) (ht : A' t i = A t i) (hM : M ≤ M') (h : okP2 A f t i M) : okP2 A' f t i M' := by
  obtain ⟨a, b, e1, e2, e3⟩ := h
  exact ⟨a, b, hf.trans e1, ht.trans e2, by omega⟩
section
variable {A : Nat → Nat → Int32} {N : Nat → Int64} {F : Nat → Nat} {σ : pTh}
/-- names alone are new: rows above 4 and the texts stay -/
theorem cD.name (D : cD A N F σ) {A' : Nat → Nat → Int32} {N' : Nat → Int64} {kd : Nat} (hkd : kd < 5) (hl : thM σ kd < mxK kd) {w : List Nat} (hw : okWo w) {lo hi : Nat → Int32} (h1 : A' 1 = upd (A 1) kd (jI (thM σ kd + 1))) (hr : ∀ k, 4 < k → A' k = A k) (hN : N' = vp_updL N (bsN kd + thM σ kd) (wL 27 w))
    (hs : ∀ s, decl (upd2 (thM σ) kd (thM σ kd + 1)) s → A' 3 s = lo s ∧ A' 4 s = hi s ∧ -20 ≤ (lo s).toInt ∧ (lo s).toInt ≤ (hi s).toInt ∧ (hi s).toInt ≤ 20) (hg : (thG σ).length = upd2 (thM σ) kd (thM σ kd + 1) 4) :
    cD A' N' F ((adN σ kd w).1, (adN σ kd w).2, lo, hi, thS σ, thG σ, thF σ) := by
  obtain ⟨d1, d2, d3, d4, d5, d6, d7, d8⟩ := D
  have hm : ∀ k, k < 5 → thM σ k ≤ mxK k := fun k hk => (d1 k hk).2
  have mono : ∀ s, dcl5 (thM σ) s → dcl5 (upd2 (thM σ) kd (thM σ kd + 1)) s := fun s z => (dcl_new hm hkd hl s).1.mpr (Or.inr z)
  have r3 : A' 13 = A 13 ∧ A' 14 = A 14 ∧ A' 15 = A 15 := ⟨hr 13 (by decide), hr 14 (by decide), hr 15 (by decide)⟩
  have r4 : A' 16 = A 16 ∧ A' 17 = A 17 ∧ A' 18 = A 18 ∧ A' 19 = A 19 := ⟨hr 16 (by decide), hr 17 (by decide), hr 18 (by decide), hr 19 (by decide)⟩
  refine ⟨fun k hk => ?_, fun s z => ?_, hs, ⟨d4.1, d4.2.1, d4.2.2.1, d4.2.2.2.1, d4.2.2.2.2.1, hg⟩, by rw [r3.2.1]; exact d5, fun i hi => ?_, fun i x hx => ?_, fun i l hl' => ?_⟩
  · show A' 1 k = jI (upd2 (thM σ) kd (thM σ kd + 1) k) ∧ upd2 (thM σ) kd (thM σ kd + 1) k ≤ mxK k
    rw [h1]
    by_cases u : k = kd
    · subst u; rw [upd_eq, upd2_eq]; exact ⟨rfl, hl⟩
    · rw [upd_ne u, upd2_ne u]; exact d1 k hk
  · show N' s = wL 27 (upd2 (thN σ) (bsN kd + thM σ kd) w s) ∧ okWo (upd2 (thN σ) (bsN kd + thM σ kd) w s)
    rw [hN]
    rcases (dcl_new hm hkd hl s).1.mp z with u | u
    · rw [u, updL_eq, upd2_eq]; exact ⟨rfl, hw⟩
    · have := (dcl_new hm hkd hl s).2 u
      rw [updL_ne this, upd2_ne this]; exact d2 s u
  · rw [r4.1, r4.2.1, r4.2.2.1]; exact d6 i hi
  · obtain ⟨e1, e2, e3, e4, e5, e6, e7, e8⟩ := d7 i x hx
    refine ⟨by rw [hr 5 (by decide)]; exact e1, ?_, okP2_cg (by rw [hr 6 (by decide)]) (by rw [hr 7 (by decide)]) (Nat.le_refl _) e3, by rw [sgm_cg (hr 6 (by decide)) (hr 7 (by decide)) r3]; exact e4, okP2_cg (by rw [hr 8 (by decide)]) (by rw [hr 9 (by decide)]) (Nat.le_refl _) e5, by rw [sgo_cg (hr 8 (by decide)) (hr 9 (by decide)) r3 r4]; exact e6, e7.mono mono, fun o ho => ⟨(e8 o ho).1.mono mono, (e8 o ho).2.mono mono⟩⟩
    show x.1 < upd2 (thM σ) kd (thM σ kd + 1) 0
    by_cases u : 0 = kd
    · subst u; rw [upd2_eq]; omega
    · rw [upd2_ne u]; exact e2
  · obtain ⟨e1, e2, e3⟩ := d8 i l hl'
    exact ⟨okP2_cg (by rw [hr 10 (by decide)]) (by rw [hr 11 (by decide)]) (Nat.le_refl _) e1, by rw [sgm_cg (hr 10 (by decide)) (hr 11 (by decide)) r3]; exact e2, e3.mono mono⟩
/-- factors and ones were laid behind those that stand -/
theorem cD.rows (D : cD A N F σ) {jn sl ww st mi en re : Nat → Int32} {nf no : Nat} (hnf : thF σ ≤ nf) (hn6 : nf ≤ 60) (hno : F 24 ≤ no) (h2 : 2 * no ≤ nf) (hS : okS sl) (hk : ∀ j, j < thF σ → jn j = A 13 j ∧ sl j = A 14 j ∧ ww j = A 15 j) (ho : ∀ j, j < F 24 → st j = A 16 j ∧ mi j = A 17 j ∧ en j = A 18 j ∧ re j = A 19 j) (hq : ∀ j, F 24 ≤ j → j < no → ∃ a b c : Nat, st j = jI a ∧ mi j = jI (a + b) ∧ en j = jI (a + b + c) ∧ a + b + c ≤ nf) :
    cD (aFm A jn sl ww st mi en re) N (upd2 (upd2 F 20 nf) 24 no) (thM σ, thN σ, thL σ, thH σ, thS σ, thG σ, nf) := by
  obtain ⟨d1, d2, d3, d4, d5, d6, d7, d8⟩ := D
  have lt : ∀ {k : Nat}, k < 13 → aFm A jn sl ww st mi en re k = A k := fun hk => aFm_lt hk
  have sg : ∀ {f t i : Nat}, f < 13 → t < 13 → okP2 A f t i (thF σ) → sgm (aFm A jn sl ww st mi en re) f t i = sgm A f t i := by
    intro f t i hf ht h
    obtain ⟨a, b, e1, e2, e3⟩ := h
    unfold sgm
    rw [lt hf, lt ht, e1, e2, jI_cl (by omega), jI_cl (by omega)]
    show seg3 jn sl ww a (a + b - a) = seg3 (A 13) (A 14) (A 15) a (a + b - a)
    exact seg3_keep _ _ (fun j h1 h2 => hk j (by omega))
  have so : ∀ (c i : Nat), i + c ≤ F 24 → segO jn sl ww st mi en re i c = segO (A 13) (A 14) (A 15) (A 16) (A 17) (A 18) (A 19) i c := by
    intro c
    induction c with
    | zero => intro i _; rfl
    | succ c ih =>
      intro i hi
      show seg1 jn sl ww st mi en re i :: segO jn sl ww st mi en re (i + 1) c = seg1 (A 13) (A 14) (A 15) (A 16) (A 17) (A 18) (A 19) i :: _
      obtain ⟨p1, p2, p3, p4⟩ := ho i (by omega)
      obtain ⟨a, b, c', e1, e2, e3, e4⟩ := d6 i (by omega)
      rw [ih (i + 1) (by omega)]
      congr 1
      unfold seg1
      rw [p1, p2, p3, p4, e1, e2, e3, jI_cl (by omega), jI_cl (by omega), jI_cl (by omega), seg3_keep (jn := A 13) (sl := A 14) (ww := A 15) _ _ (fun j h1 h2 => hk j (by omega)), seg3_keep (jn := A 13) (sl := A 14) (ww := A 15) _ _ (fun j h1 h2 => hk j (by omega))]
  have sgo' : ∀ {f t i : Nat}, f < 13 → t < 13 → okP2 A f t i (F 24) → sgo (aFm A jn sl ww st mi en re) f t i = sgo A f t i := by
    intro f t i hf ht h
    obtain ⟨a, b, e1, e2, e3⟩ := h
    unfold sgo
    rw [lt hf, lt ht, e1, e2, jI_cl (by omega), jI_cl (by omega)]
    exact so _ _ (by omega)
  have f24 : upd2 (upd2 F 20 nf) 24 no 24 = no := upd2_eq
  refine ⟨fun k hk => by rw [lt (by decide)]; exact d1 k hk, d2, fun s z => by rw [lt (by decide), lt (by decide)]; exact d3 s z, ⟨by rw [upd2_ne (by decide), upd2_ne (by decide)]; exact d4.1, by rw [upd2_ne (by decide), upd2_ne (by decide)]; exact d4.2.1, by rw [upd2_ne (by decide), upd2_eq]; rfl, hn6, by rw [f24]; exact h2, d4.2.2.2.2.2⟩, hS, fun i hi => ?_, fun i x hx => ?_, fun i l hl => ?_⟩
  · rw [f24] at hi
    show ∃ a b c : Nat, st i = jI a ∧ mi i = jI (a + b) ∧ en i = jI (a + b + c) ∧ a + b + c ≤ nf
    by_cases u : i < F 24
    · obtain ⟨p1, p2, p3, -⟩ := ho i u
      obtain ⟨a, b, c, e1, e2, e3, e4⟩ := d6 i u
      exact ⟨a, b, c, p1.trans e1, p2.trans e2, p3.trans e3, by omega⟩
    · exact hq i (by omega) hi
  · obtain ⟨e1, e2, e3, e4, e5, e6, e7, e8⟩ := d7 i x hx
    exact ⟨by rw [lt (by decide)]; exact e1, e2, okP2_cg (by rw [lt (by decide)]) (by rw [lt (by decide)]) hnf e3, by rw [sg (by decide) (by decide) e3]; exact e4, okP2_cg (by rw [lt (by decide)]) (by rw [lt (by decide)]) (by rw [f24]; exact hno) e5, by rw [sgo' (by decide) (by decide) e5]; exact e6, e7, e8⟩
  · obtain ⟨e1, e2, e3⟩ := d8 i l hl
    exact ⟨okP2_cg (by rw [lt (by decide)]) (by rw [lt (by decide)]) hnf e1, by rw [sg (by decide) (by decide) e1]; exact e2, e3⟩
end
