/-! the reference's thing, as far as it was read -/
def rD (B : Nat → Nat → Int32) (W : Nat → Int64) (G : Nat → Nat) (σ : pTh) : Prop :=
  (∀ k, k < 5 → B 1 k = jI (thM σ k) ∧ thM σ k ≤ mxK k) ∧ (∀ s, dcl5 (thM σ) s → W s = wL 32 (thN σ s) ∧ okWo (thN σ s)) ∧
  (∀ s, decl (thM σ) s → B 2 s = thL σ s ∧ B 3 s = thH σ s ∧ -20 ≤ (thL σ s).toInt ∧ (thL σ s).toInt ≤ (thH σ s).toInt ∧ (thH σ s).toInt ≤ 20) ∧
  (G 6 = (thS σ).length ∧ G 6 ≤ 8 ∧ (thG σ).length = thM σ 4) ∧
  (∀ i x, (thS σ)[i]? = some x → B 7 i = jI x.1 ∧ ∃ a b c : Nat, B 8 i = jI a ∧ B 9 i = jI (a + b) ∧ B 10 i = jI (a + b + c) ∧ a + b + c ≤ G 7 ∧ seg2 (B 11) (B 12) a b = postV x.2.1 ∧ seg2 (B 11) (B 12) (a + b) c = testI x.2.2) ∧
  ∀ i l, (thG σ)[i]? = some l → ∃ a b : Nat, B 4 (9 + i) = jI a ∧ B 5 (9 + i) = jI (a + b) ∧ a + b ≤ G 7 ∧ seg2 (B 11) (B 12) a b = postV l
theorem rD.nm {B : Nat → Nat → Int32} {W : Nat → Int64} {G : Nat → Nat} {σ : pTh} (D : rD B W G σ) : NmR B W (thM σ) (thN σ) := ⟨fun k hk => ⟨(D.1 k hk).1, mxK_bs (fun k hk => (D.1 k hk).2) k hk⟩, D.2.1⟩
section
variable {B B' : Nat → Nat → Int32} {W : Nat → Int64} {G G' : Nat → Nat} {σ : pTh}
/-- rows that a text has not reached yet may change; items are laid behind -/
theorem rD.ext (D : rD B W G σ) (h1 : B' 1 = B 1) (h2 : ∀ s, decl (thM σ) s → B' 2 s = B 2 s ∧ B' 3 s = B 3 s) (hs : ∀ i, i < G 6 → B' 7 i = B 7 i ∧ B' 8 i = B 8 i ∧ B' 9 i = B 9 i ∧ B' 10 i = B 10 i) (hg : ∀ i, i < thM σ 4 → B' 4 (9 + i) = B 4 (9 + i) ∧ B' 5 (9 + i) = B 5 (9 + i)) (hi : ∀ j, j < G 7 → B' 11 j = B 11 j ∧ B' 12 j = B 12 j) (g6 : G' 6 = G 6) (g7 : G 7 ≤ G' 7) : rD B' W G' σ := by
  obtain ⟨d1, d2, d3, d4, d5, d6⟩ := D
  refine ⟨fun k hk => by rw [h1]; exact d1 k hk, d2, fun s z => by rw [(h2 s z).1, (h2 s z).2]; exact d3 s z, by rw [g6]; exact d4, fun i x hx => ?_, fun i l hl => ?_⟩
  · have il : i < G 6 := by rw [d4.1]; exact (List.getElem?_eq_some_iff.mp hx).1
    obtain ⟨p1, p2, p3, p4⟩ := hs i il
    obtain ⟨e1, a, b, c, e2, e3, e4, e5, e6, e7⟩ := d5 i x hx
    exact ⟨p1.trans e1, a, b, c, p2.trans e2, p3.trans e3, p4.trans e4, by omega, by rw [seg2_keep (f := B 11) (g := B 12) _ _ (fun j j1 j2 => hi j (by omega))]; exact e6, by rw [seg2_keep (f := B 11) (g := B 12) _ _ (fun j j1 j2 => hi j (by omega))]; exact e7⟩
  · have il : i < thM σ 4 := by rw [← d4.2.2]; exact (List.getElem?_eq_some_iff.mp hl).1
    obtain ⟨p1, p2⟩ := hg i il
    obtain ⟨a, b, e1, e2, e3, e4⟩ := d6 i l hl
    exact ⟨a, b, p1.trans e1, p2.trans e2, by omega, by rw [seg2_keep (f := B 11) (g := B 12) _ _ (fun j j1 j2 => hi j (by omega))]; exact e4⟩
theorem rD.app (D : rD B W G σ) {L : List (Int32 × Int32)} (A : apB L (G 7) B B') (g6 : G' 6 = G 6) (g7 : G 7 ≤ G' 7) : rD B' W G' σ :=
  D.ext (A.1 1 (by decide) (by decide)) (fun s _ => by rw [A.1 2 (by decide) (by decide), A.1 3 (by decide) (by decide)]; exact ⟨rfl, rfl⟩) (fun i _ => by rw [A.1 7 (by decide) (by decide), A.1 8 (by decide) (by decide), A.1 9 (by decide) (by decide), A.1 10 (by decide) (by decide)]; exact ⟨rfl, rfl, rfl, rfl⟩) (fun i _ => by rw [A.1 4 (by decide) (by decide), A.1 5 (by decide) (by decide)]; exact ⟨rfl, rfl⟩) (fun j hj => A.2.1 j hj) g6 g7
/-- a name more; the text of a sight may be new too -/
theorem rD.name (D : rD B W G σ) {W' : Nat → Int64} {kd : Nat} (hkd : kd < 5) (hl : thM σ kd < mxK kd) {w : List Nat} (hw : okWo w) {lo hi : Nat → Int32} {gs : List (List pFa)} {nf : Nat} (h1 : B' 1 = upd (B 1) kd (jI (thM σ kd + 1))) (hr : ∀ k, 5 < k → B' k = B k) (hW : W' = vp_updL W (bsN kd + thM σ kd) (wL 32 w))
    (hs : ∀ s, decl (upd2 (thM σ) kd (thM σ kd + 1)) s → B' 2 s = lo s ∧ B' 3 s = hi s ∧ -20 ≤ (lo s).toInt ∧ (lo s).toInt ≤ (hi s).toInt ∧ (hi s).toInt ≤ 20) (hgl : gs.length = upd2 (thM σ) kd (thM σ kd + 1) 4)
    (hg : ∀ i l, gs[i]? = some l → ∃ a b : Nat, B' 4 (9 + i) = jI a ∧ B' 5 (9 + i) = jI (a + b) ∧ a + b ≤ G 7 ∧ seg2 (B 11) (B 12) a b = postV l) : rD B' W' G ((adN σ kd w).1, (adN σ kd w).2, lo, hi, thS σ, gs, nf) := by
  obtain ⟨d1, d2, d3, d4, d5, d6⟩ := D
  have hm : ∀ k, k < 5 → thM σ k ≤ mxK k := fun k hk => (d1 k hk).2
  refine ⟨fun k hk => ?_, fun s z => ?_, hs, ⟨d4.1, d4.2.1, hgl⟩, fun i x hx => ?_, fun i l hl => ?_⟩
  · show B' 1 k = jI (upd2 (thM σ) kd (thM σ kd + 1) k) ∧ upd2 (thM σ) kd (thM σ kd + 1) k ≤ mxK k
    rw [h1]
    by_cases u : k = kd
    · subst u; rw [upd_eq, upd2_eq]; exact ⟨rfl, hl⟩
    · rw [upd_ne u, upd2_ne u]; exact d1 k hk
  · show W' s = wL 32 (upd2 (thN σ) (bsN kd + thM σ kd) w s) ∧ okWo (upd2 (thN σ) (bsN kd + thM σ kd) w s)
    rw [hW]
    rcases (dcl_new hm hkd hl s).1.mp z with u | u
    · rw [u, updL_eq, upd2_eq]; exact ⟨rfl, hw⟩
    · have := (dcl_new hm hkd hl s).2 u
      rw [updL_ne this, upd2_ne this]; exact d2 s u
  · rw [hr 7 (by decide), hr 8 (by decide), hr 9 (by decide), hr 10 (by decide), hr 11 (by decide), hr 12 (by decide)]
    exact d5 i x hx
  · rw [hr 11 (by decide), hr 12 (by decide)]
    exact hg i l hl
/-- a step more -/
theorem rD.step (D : rD B W G σ) {s a b c : Nat} {l : List pFa} {os : List pOne} {nf : Nat} (h8 : G 6 < 8) (h7 : B' 7 = upd (B 7) (G 6) (jI s)) (h8' : B' 8 = upd (B 8) (G 6) (jI a)) (h9 : B' 9 = upd (B 9) (G 6) (jI (a + b))) (h10 : B' 10 = upd (B 10) (G 6) (jI (a + b + c))) (hr : ∀ k, (k < 7 ∨ 10 < k) → B' k = B k) (hab : a + b + c ≤ G 7) (e1 : seg2 (B 11) (B 12) a b = postV l) (e2 : seg2 (B 11) (B 12) (a + b) c = testI os) :
    rD B' W (upd2 G 6 (G 6 + 1)) (thM σ, thN σ, thL σ, thH σ, thS σ ++ [(s, l, os)], thG σ, nf) := by
  obtain ⟨d1, d2, d3, d4, d5, d6⟩ := D
  have g7 : upd2 G 6 (G 6 + 1) 7 = G 7 := upd2_ne (by decide)
  refine ⟨fun k hk => by rw [hr 1 (by omega)]; exact d1 k hk, d2, fun s z => by rw [hr 2 (by omega), hr 3 (by omega)]; exact d3 s z, ⟨?_, by rw [upd2_eq]; omega, d4.2.2⟩, fun i x hx => ?_, fun i l' hl => ?_⟩
  · rw [upd2_eq]
    show G 6 + 1 = (thS σ ++ [(s, l, os)]).length
    rw [List.length_append, ← d4.1]
    rfl
  · have hx : (thS σ ++ [(s, l, os)])[i]? = some x := hx
    rw [g7, hr 11 (by omega), hr 12 (by omega)]
    have sl := d4.1
    by_cases u : i < (thS σ).length
    · rw [List.getElem?_append_left u] at hx
      rw [h7, h8', h9, h10, upd_ne (by omega), upd_ne (by omega), upd_ne (by omega), upd_ne (by omega)]
      exact d5 i x hx
    · rw [List.getElem?_append_right (by omega)] at hx
      have ie : i = G 6 := by
        have := (List.getElem?_eq_some_iff.mp hx).1
        simp at this
        omega
      rw [ie, sl, Nat.sub_self] at hx
      cases hx
      rw [ie, h7, h8', h9, h10, upd_eq, upd_eq, upd_eq, upd_eq]
      exact ⟨rfl, a, b, c, rfl, rfl, rfl, hab, e1, e2⟩
  · rw [g7, hr 4 (by omega), hr 5 (by omega), hr 11 (by omega), hr 12 (by omega)]
    exact d6 i l' hl
end
section
variable {h : aH} {S : Nat → Int32} {wd : Int64} {tv fv : Value} {t : Nat} {V : Nat → Nat → Int32} {Z : Nat → Nat → Int64} {T : Nat → Nat} {n k : Nat} {B : Nat → Nat → Int32} {W : Nat → Int64} {G : Nat → Nat}
/-- a whole number with its sign: the reader stands at it -/
theorem readInt_at (X : RPw h S wd tv fv t V Z T n k) (HT : isT h t B W G) :
    (∀ e, itP T n k = .inl e → ∃ h', s_X14_readInt 104 h = some (.inr (RX12, 118), h') ∧ FaR h h' S tv fv t V Z T n e) ∧
    (∀ x, itP T n k = .inr x → ∃ h' S' wd' k9, s_X14_readInt 104 h = some (.inl (some (.int x.1)), h') ∧ RPw h' S' wd' tv fv t V Z T n k9 ∧ x.2 = k9 + 1 ∧ (tokS T n k9).1 = 2 ∧ h'.length = h.length ∧ (∀ i, i ≠ 104 → h'[i]? = h[i]?) ∧ ∀ j, (j < 11 ∨ 15 < j) → S' j = S j) := by
  have i45 : s_X14_is 104 45 h = _ := is_R X (c := 45) (by decide) (by decide)
  have qn := okt2_ne X.2.2.2.2.2.2.1
  have r15 : ∀ {h : aH} {S : Nat → Int32} {wd : Int64} {k : Nat} (q : Bool), RPw h S wd tv fv t V Z T n k → isT h t B W G → ((tokS T n k).1 = 2 → s_X14_readInt_15 104 (b01 q) h = some (.inl (some (.int (if q = true then -(jI (tkN T (tokS T n k))) else jI (tkN T (tokS T n k))))), h)) ∧ ((tokS T n k).1 ≠ 2 → ∃ h', s_X14_readInt_15 104 (b01 q) h = some (.inr (RX12, 118), h') ∧ FaR h h' S tv fv t V Z T n (1, k)) := by
    intro h S wd k q X HT
    constructor
    · intro u
      obtain ⟨-, -, w3⟩ := tok_whole u
      have s15 : S 15 = jI (tkN T (tokS T n k)) := (X.2.2.2.2.2.1.2.2.2.2.1 u).trans w3
      unfold s_X14_readInt_15
      rw [X.s12, Option.bind_some, if_pos (srt_3.mpr u), X.1.gS (k := 15) rfl, Option.bind_some, Option.bind_some, s15]
      cases q with
      | false => rw [if_pos (show b01 false = 0 by decide), if_neg Bool.false_ne_true]
      | true => rw [if_neg (show ¬ b01 true = 0 by decide), if_pos rfl]
    · intro u
      obtain ⟨h', e, F⟩ := throw_at X HT 1
      refine ⟨h', ?_, F⟩
      unfold s_X14_readInt_15
      rw [X.s12, Option.bind_some, if_neg (fun z => u (srt_3.mp z))]
      exact e
  unfold itP
  by_cases q : (tokS T n k).1 = 45
  · rw [if_pos q]
    obtain ⟨h1, S1, wd1, e1, X1, l1, o1, s1⟩ := X.next (by omega)
    have T1 := HT.of (h' := h1) (fun i i1 i2 => o1 i (by omega))
    obtain ⟨c1, c2⟩ := r15 true X1 T1
    have head : ∀ {y : aO}, s_X14_readInt_15 104 (b01 true) h1 = y → s_X14_readInt 104 h = y := by
      intro y hy
      unfold s_X14_readInt
      rw [X.kO, i45, show decide ((tokS T n k).1 = 45) = true from decide_eq_true q]
      simp only [cI]
      rw [if_neg (show ¬ b01 true = 0 by decide), X.kO, e1]
      exact hy
    by_cases u : (tokS T n (k + 1)).1 = 2
    · rw [if_pos u]
      refine ⟨fun e he => (by cases he), fun x hx => ?_⟩
      cases hx
      exact ⟨h1, S1, wd1, k + 1, head (c1 u), X1, rfl, u, l1, o1, s1⟩
    · rw [if_neg u]
      refine ⟨fun e he => ?_, fun x hx => by cases hx⟩
      cases he
      obtain ⟨h', a, b⟩ := c2 u
      exact ⟨h', head a, FaR.trans (show FrR t h h1 from ⟨l1, fun i i1 _ _ => o1 i i1⟩) (fun j hj => s1 j (by omega)) b⟩
  · rw [if_neg q]
    obtain ⟨c1, c2⟩ := r15 false X HT
    have head : ∀ {y : aO}, s_X14_readInt_15 104 (b01 false) h = y → s_X14_readInt 104 h = y := by
      intro y hy
      unfold s_X14_readInt
      rw [X.kO, i45, show decide ((tokS T n k).1 = 45) = false from decide_eq_false q]
      simp only [cI]
      rw [if_pos (show b01 false = 0 by decide)]
      exact hy
    by_cases u : (tokS T n k).1 = 2
    · rw [if_pos u]
      refine ⟨fun e he => (by cases he), fun x hx => ?_⟩
      cases hx
      exact ⟨h, S, wd, k, head (c1 u), X, rfl, u, rfl, fun _ _ => rfl, fun _ _ => rfl⟩
    · rw [if_neg u]
      refine ⟨fun e he => ?_, fun x hx => by cases hx⟩
      cases he
      obtain ⟨h', a, b⟩ := c2 u
      exact ⟨h', head a, b⟩
end
