/-! a sight's own name is none that it may use -/
theorem slK_cg {nm nm' : Nat → List Nat} {w : List Nat} : ∀ (c s : Nat), (∀ x, s ≤ x → x < s + c → nm' x = nm x) → slK nm' w s c = slK nm w s c
  | 0, _, _ => rfl
  | c + 1, s, h => by
    show (if nm' s = w then some s else slK nm' w (s + 1) c) = (if nm s = w then some s else slK nm w (s + 1) c)
    rw [h s (by omega) (by omega), slK_cg c (s + 1) (fun x h1 h2 => h x (by omega) (by omega))]
theorem slG_cg {nm nm' : Nat → List Nat} {m m' : Nat → Nat} {w : List Nat} : ∀ (r k : Nat), (∀ x, k ≤ x → x < k + r → m' x = m x ∧ ∀ s, bsN x ≤ s → s < bsN x + m x → nm' s = nm s) → slG nm' m' w k r = slG nm m w k r
  | 0, _, _ => rfl
  | r + 1, k, h => by
    obtain ⟨a, b⟩ := h k (by omega) (by omega)
    show (match slK nm' w (bsN k) (m' k) with
      | some s => some s
      | none => slG nm' m' w (k + 1) r) = (match slK nm w (bsN k) (m k) with
      | some s => some s
      | none => slG nm m w (k + 1) r)
    rw [a, slK_cg (m k) (bsN k) b, slG_cg r (k + 1) (fun x h1 h2 => h x (by omega) (by omega))]
theorem slF_4 (nm : Nat → List Nat) (m : Nat → Nat) (w : List Nat) : slF nm m w = match slG nm m w 0 4 with
    | some s => some s
    | none => slK nm w 9 (m 4) := by
  unfold slF
  have e : ∀ k r, slG nm m w k (r + 1) = match slK nm w (bsN k) (m k) with
    | some s => some s
    | none => slG nm m w (k + 1) r := fun _ _ => rfl
  rw [e 0 4, e 0 3]
  cases slK nm w (bsN 0) (m 0) with
  | some s => rfl
  | none =>
    dsimp only
    rw [e 1 3, e 1 2]
    cases slK nm w (bsN 1) (m 1) with
    | some s => rfl
    | none =>
      dsimp only
      rw [e 2 2, e 2 1]
      cases slK nm w (bsN 2) (m 2) with
      | some s => rfl
      | none =>
        dsimp only
        rw [e 3 1, e 3 0]
        cases slK nm w (bsN 3) (m 3) with
        | some s => rfl
        | none =>
          dsimp only
          rw [e 4 0]
          show (match slK nm w 9 (m 4) with
            | some s => some s
            | none => slG nm m w 5 0) = slK nm w 9 (m 4)
          cases slK nm w 9 (m 4) <;> rfl
theorem fcP_sight {T : Nat → Nat} {n : Nat} {nm nm' : Nat → List Nat} {m m' : Nat → Nat} (hm : ∀ k, k < 4 → m' k = m k) (hs : ∀ k, k < 4 → ∀ s, bsN k ≤ s → s < bsN k + m k → nm' s = nm s) (k nf : Nat) : fcP T n nm' m' 9 k nf = fcP T n nm m 9 k nf := by
  unfold fcP
  by_cases q2 : (tokS T n k).1 = 2
  · rw [if_pos q2, if_pos q2]
  · rw [if_neg q2, if_neg q2]
    by_cases q1 : (tokS T n k).1 = 1 ∧ rsO (tkW T (tokS T n k)) = none
    · rw [if_pos q1, if_pos q1, slF_4, slF_4, slG_cg 4 0 (fun x _ h2 => ⟨hm x (by omega), hs x (by omega)⟩)]
      cases slG nm m (tkW T (tokS T n k)) 0 4 with
      | some s => rfl
      | none =>
        dsimp only
        have key : ∀ (nm : Nat → List Nat) (m : Nat → Nat), (match slK nm (tkW T (tokS T n k)) 9 (m 4) with
          | none => (.inl 2 : Nat ⊕ (Int32 × Int32))
          | some s => if 9 ≤ s then .inl 2 else if 60 ≤ nf then .inl 5 else .inr (jI s, 0)) = .inl 2 := by
          intro nm m
          cases r : slK nm (tkW T (tokS T n k)) 9 (m 4) with
          | none => rfl
          | some s =>
            have := slK_lt _ _ _ r
            dsimp only
            rw [if_pos (by omega)]
        exact (key nm' m').trans (key nm m).symm
    · rw [if_neg q1, if_neg q1]
theorem smP_sight {T : Nat → Nat} {n : Nat} {nm nm' : Nat → List Nat} {m m' : Nat → Nat} (h : ∀ k nf, fcP T n nm' m' 9 k nf = fcP T n nm m 9 k nf) : ∀ (r : Nat) (j : Int32) (k nf : Nat), smP T n nm' m' 9 r j k nf = smP T n nm m 9 r j k nf
  | 0, _, _, _ => rfl
  | r + 1, j, k, nf => by
    have e0 : smP T n nm' m' 9 (r + 1) j k nf = match fcP T n nm' m' 9 k nf with
      | .inl f => .inl (f, k)
      | .inr sw => match jnO (tokS T n (k + 1)).1 with
        | none => .inr ([(j, sw.1, sw.2)], k + 1)
        | some j' => match smP T n nm' m' 9 r j' (k + 2) (nf + 1) with
          | .inl e => .inl e
          | .inr x => .inr ((j, sw.1, sw.2) :: x.1, x.2) := rfl
    have e1 : smP T n nm m 9 (r + 1) j k nf = match fcP T n nm m 9 k nf with
      | .inl f => .inl (f, k)
      | .inr sw => match jnO (tokS T n (k + 1)).1 with
        | none => .inr ([(j, sw.1, sw.2)], k + 1)
        | some j' => match smP T n nm m 9 r j' (k + 2) (nf + 1) with
          | .inl e => .inl e
          | .inr x => .inr ((j, sw.1, sw.2) :: x.1, x.2) := rfl
    rw [e0, e1, h]
    cases fcP T n nm m 9 k nf with
    | inl f => rfl
    | inr sw =>
      dsimp only
      cases jnO (tokS T n (k + 1)).1 with
      | none => rfl
      | some j' => dsimp only; rw [smP_sight h r j' (k + 2) (nf + 1)]
theorem suP_sight {T : Nat → Nat} {n : Nat} {nm nm' : Nat → List Nat} {m m' : Nat → Nat} (hm : ∀ k, k < 4 → m' k = m k) (hs : ∀ k, k < 4 → ∀ s, bsN k ≤ s → s < bsN k + m k → nm' s = nm s) (k nf : Nat) : suP T n nm' m' 9 k nf = suP T n nm m 9 k nf := by
  unfold suP
  rw [smP_sight (fcP_sight hm hs), smP_sight (fcP_sight hm hs)]
section
variable {h : aH} {T : Nat → Nat} {n e k : Nat} {wh : Int32} {A : Nat → Nat → Int32} {N : Nat → Int64} {F : Nat → Nat} {σ : pTh}
theorem pass_at (X : CLw h T n e k wh A N F) (hS : okS (A 14)) {c : Nat} (hc : c < 256) (hc0 : c ≠ 0) :
    ((tokS T n k).1 ≠ c → ∃ h', s_X6_pass 51 (jI c) h = some (.inl (some (.int 0)), h') ∧ FaL h h' T n (1, k)) ∧ ((tokS T n k).1 = c → ∃ h', s_X6_pass 51 (jI c) h = some (.inl (some (.int 1)), h') ∧ CLw h' T n e (k + 1) wh A N F ∧ FrL h h') := by
  constructor
  · intro q
    obtain ⟨h', a, b⟩ := X.failL hS 1
    refine ⟨h', ?_, b⟩
    have a' : s_X6_fail 51 1 h = _ := a
    unfold s_X6_pass
    rw [X.kO, X.kind]
    simp only [cI]
    rw [if_neg (fun z => q ((X.kd c hc).mp z)), X.kO, a']
    rfl
  · intro q
    obtain ⟨h1, x, g1, p1, X1, f1, -⟩ := X.adv (by omega)
    refine ⟨h1, ?_, X1, f1⟩
    unfold s_X6_pass
    rw [X.kO, X.kind]
    simp only [cI]
    rw [if_pos ((X.kd c hc).mpr q), g1, Option.bind_some, p1, Option.bind_some]
    rfl
/-- a sight more, once its factors stand -/
theorem cD.sight (D : cD A N F σ) {A' : Nat → Nat → Int32} {N' : Nat → Int64} (hl : thM σ 4 < mxK 4) {w : List Nat} (hw : okWo w) {l : List pFa} {a b : Nat} (h1 : A' 1 = upd (A 1) 4 (jI (thM σ 4 + 1))) (h10 : A' 10 = upd (A 10) (thM σ 4) (jI a)) (h11 : A' 11 = upd (A 11) (thM σ 4) (jI (a + b))) (hr : ∀ k, k ≠ 1 → k ≠ 10 → k ≠ 11 → A' k = A k) (hN : N' = vp_updL N (bsN 4 + thM σ 4) (wL 27 w)) (hab : a + b ≤ thF σ) (hsl : seg3 (A 13) (A 14) (A 15) a b = l) (hok : okFc (thM σ) 9 l) :
    cD A' N' F ((adN σ 4 w).1, (adN σ 4 w).2, thL σ, thH σ, thS σ, thG σ ++ [l], thF σ) := by
  obtain ⟨d1, d2, d3, d4, d5, d6, d7, d8⟩ := D
  have hm : ∀ k, k < 5 → thM σ k ≤ mxK k := fun k hk => (d1 k hk).2
  have mono : ∀ s, dcl5 (thM σ) s → dcl5 (upd2 (thM σ) 4 (thM σ 4 + 1)) s := fun s z => (dcl_new hm (by decide) hl s).1.mpr (Or.inr z)
  have r3 : A' 13 = A 13 ∧ A' 14 = A 14 ∧ A' 15 = A 15 := ⟨hr 13 (by decide) (by decide) (by decide), hr 14 (by decide) (by decide) (by decide), hr 15 (by decide) (by decide) (by decide)⟩
  have r4 : A' 16 = A 16 ∧ A' 17 = A 17 ∧ A' 18 = A 18 ∧ A' 19 = A 19 := ⟨hr 16 (by decide) (by decide) (by decide), hr 17 (by decide) (by decide) (by decide), hr 18 (by decide) (by decide) (by decide), hr 19 (by decide) (by decide) (by decide)⟩
  have gl : (thG σ).length = thM σ 4 := d4.2.2.2.2.2
  refine ⟨fun k hk => ?_, fun s z => ?_, fun s z => ?_, ⟨d4.1, d4.2.1, d4.2.2.1, d4.2.2.2.1, d4.2.2.2.2.1, ?_⟩, by rw [r3.2.1]; exact d5, fun i hi => ?_, fun i x hx => ?_, fun i l' hl' => ?_⟩
  · show A' 1 k = jI (upd2 (thM σ) 4 (thM σ 4 + 1) k) ∧ upd2 (thM σ) 4 (thM σ 4 + 1) k ≤ mxK k
    rw [h1]
    by_cases u : k = 4
    · subst u; rw [upd_eq, upd2_eq]; exact ⟨rfl, hl⟩
    · rw [upd_ne u, upd2_ne u]; exact d1 k hk
  · show N' s = wL 27 (upd2 (thN σ) (bsN 4 + thM σ 4) w s) ∧ okWo (upd2 (thN σ) (bsN 4 + thM σ 4) w s)
    rw [hN]
    rcases (dcl_new hm (by decide) hl s).1.mp z with u | u
    · rw [u, updL_eq, upd2_eq]; exact ⟨rfl, hw⟩
    · have := (dcl_new hm (by decide) hl s).2 u
      rw [updL_ne this, upd2_ne this]; exact d2 s u
  · rw [hr 3 (by decide) (by decide) (by decide), hr 4 (by decide) (by decide) (by decide)]
    refine d3 s ?_
    have z : decl (upd2 (thM σ) 4 (thM σ 4 + 1)) s := z
    unfold decl at z ⊢
    rw [upd2_ne (by decide), upd2_ne (by decide), upd2_ne (by decide), upd2_ne (by decide)] at z
    exact z
  · show (thG σ ++ [l]).length = upd2 (thM σ) 4 (thM σ 4 + 1) 4
    rw [upd2_eq, List.length_append, gl]
    rfl
  · rw [r4.1, r4.2.1, r4.2.2.1]; exact d6 i hi
  · obtain ⟨e1, e2, e3, e4, e5, e6, e7, e8⟩ := d7 i x hx
    refine ⟨by rw [hr 5 (by decide) (by decide) (by decide)]; exact e1, ?_, okP2_cg (by rw [hr 6 (by decide) (by decide) (by decide)]) (by rw [hr 7 (by decide) (by decide) (by decide)]) (Nat.le_refl _) e3, by rw [sgm_cg (hr 6 (by decide) (by decide) (by decide)) (hr 7 (by decide) (by decide) (by decide)) r3]; exact e4, okP2_cg (by rw [hr 8 (by decide) (by decide) (by decide)]) (by rw [hr 9 (by decide) (by decide) (by decide)]) (Nat.le_refl _) e5, by rw [sgo_cg (hr 8 (by decide) (by decide) (by decide)) (hr 9 (by decide) (by decide) (by decide)) r3 r4]; exact e6, e7.mono mono, fun o ho => ⟨(e8 o ho).1.mono mono, (e8 o ho).2.mono mono⟩⟩
    show x.1 < upd2 (thM σ) 4 (thM σ 4 + 1) 0
    rw [upd2_ne (by decide)]; exact e2
  · have hl' : (thG σ ++ [l])[i]? = some l' := hl'
    have d60 : thF σ ≤ 60 := d4.2.2.2.1
    by_cases u : i < (thG σ).length
    · rw [List.getElem?_append_left u] at hl'
      obtain ⟨e1, e2, e3⟩ := d8 i l' hl'
      have n10 : A' 10 i = A 10 i := by rw [h10, upd_ne (by omega)]
      have n11 : A' 11 i = A 11 i := by rw [h11, upd_ne (by omega)]
      refine ⟨okP2_cg n10 n11 (Nat.le_refl _) e1, ?_, e3.mono mono⟩
      unfold sgm at e2 ⊢
      rw [n10, n11, r3.1, r3.2.1, r3.2.2]
      exact e2
    · rw [List.getElem?_append_right (by omega)] at hl'
      have ie : i = thM σ 4 := by
        have := (List.getElem?_eq_some_iff.mp hl').1
        simp at this
        omega
      rw [ie, gl, Nat.sub_self] at hl'
      cases hl'
      subst ie
      refine ⟨⟨a, b, by rw [h10, upd_eq], by rw [h11, upd_eq], hab⟩, ?_, hok.mono mono⟩
      unfold sgm
      rw [h10, h11, upd_eq, upd_eq, jI_cl (by omega), jI_cl (by omega), r3.1, r3.2.1, r3.2.2, show a + b - a = b by omega]
      exact hsl
end
