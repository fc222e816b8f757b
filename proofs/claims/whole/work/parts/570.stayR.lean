/-! the reference's side: what it needs, what may change -/
section
variable {h h' : aH} {γ : gSt} {S S' : Nat → Int32} {wd wd' : Int64} {tv fv nv nv' : Value} {V V' : Nat → Nat → Int32} {Z Z' : Nat → Nat → Int64}
/-- which scalars may change -/
def smS (S S' : Nat → Int32) : Prop := ∀ j, j ≠ 0 → (j < 10 ∨ 17 < j) → j ≠ 50 → S' j = S j
theorem smS.refl : smS S S := fun _ _ _ _ => rfl
theorem RG.t (R : RG h S wd tv fv nv V Z γ) (X : RW h' S' wd' tv fv nv' V' Z') (O : Ou h h') (a : V' 119 = V 119) (b : Z' 169 = Z 169) (c : Z' 170 = Z 170) (hs : ∀ j, (j = 9 ∨ j = 1 ∨ j = 2 ∨ j = 3 ∨ j = 56) → S' j = S j) : RG h' S' wd' tv fv nv' V' Z' γ := by
  obtain ⟨-, x2, x3, x4, x5, x6, x7, x8, x9, ⟨B1, W1, G1, x10⟩, B2, W2, G2, x11⟩ := R
  refine ⟨X, x2.of (O.2 118 rfl), ?_, by rw [hs 9 (by decide)]; exact x4, by rw [hs 1 (by decide)]; exact x5, by rw [hs 2 (by decide)]; exact x6, by rw [hs 3 (by decide)]; exact x7, by rw [hs 56 (by decide)]; exact x8, ?_, ⟨B1, W1, G1, x10.ou O (Or.inr (Or.inl rfl))⟩, B2, W2, G2, x11.ou O (Or.inr (Or.inr (Or.inl rfl)))⟩
  · unfold TPr
    rw [a]
    exact x3
  · rw [b, c]
    exact x9
theorem RG.tw {w : Int32} (R : RG h S wd tv fv nv V Z γ) (X : RW h' (twS S' w) wd' tv fv nv' V' Z') (O : Ou h h') (a : V' 119 = V 119) (b : Z' 169 = Z 169) (c : Z' 170 = Z 170) (hs : ∀ j, (j = 9 ∨ j = 3 ∨ j = 56) → S' j = S j) : RG h' (twS S' w) wd' tv fv nv' V' Z' (qTw γ w) := by
  obtain ⟨-, x2, x3, x4, x5, x6, x7, x8, x9, ⟨B1, W1, G1, x10⟩, B2, W2, G2, x11⟩ := R
  refine ⟨X, x2.of (O.2 118 rfl), ?_, ?_, rfl, rfl, ?_, ?_, ?_, ⟨B1, W1, G1, x10.ou O (Or.inr (Or.inl rfl))⟩, B2, W2, G2, x11.ou O (Or.inr (Or.inr (Or.inl rfl)))⟩
  · unfold TPr
    rw [a]
    exact x3
  · show S' 9 = _
    rw [hs 9 (by decide)]
    exact x4
  · show S' 3 = _
    rw [hs 3 (by decide)]
    exact x7
  · show S' 56 = _
    rw [hs 56 (by decide)]
    exact x8
  · rw [b, c]
    exact x9
end
section
variable {h h' : aH} {t2 : Nat} {γ : gSt} {τ : tSt} {S S' : Nat → Int32} {wd wd' : Int64} {t f : Nat} {nv nv' : Value} {V V' : Nat → Nat → Int32} {Z Z' : Nat → Nat → Int64} {B : Nat → Nat → Int32} {W : Nat → Int64} {G : Nat → Nat}
theorem thP2.ok (H : thP2 t f t2) : okt t ∧ okt f ∧ okt2 f ∧ (f = 105 ∨ f = 120 ∨ f = 133 ∨ f = t2) ∧ (f + 12 < t ∨ t + 12 < f) ∧ (t + 12 < 120 ∨ 132 < t) := by
  obtain ⟨a, b, ⟨rfl, rfl⟩ | ⟨rfl, rfl⟩⟩ := H
  · exact ⟨Or.inl rfl, Or.inr (Or.inr (Or.inr a)), Or.inr (Or.inr ⟨a, b⟩), Or.inr (Or.inr (Or.inr rfl)), Or.inr (by omega), Or.inl (by decide)⟩
  · exact ⟨Or.inr (Or.inr (Or.inr a)), Or.inl rfl, Or.inl rfl, Or.inl rfl, Or.inl (by omega), Or.inr (by omega)⟩
theorem okFd.go (H : okFd V (uA τ) (uM τ) (uF τ) (uG τ) (uL τ) (uC τ)) (M : ∀ k, (k = 152 ∨ (155 ≤ k ∧ k ≤ 161)) → V' k = V k) : okFd V' (uA τ) (uM τ) (uF τ) (uG τ) (uL τ) (uC τ) := by
  unfold okFd okMb at *
  rw [M 152 (by decide), M 155 (by decide), M 156 (by decide), M 157 (by decide), M 158 (by decide), M 159 (by decide), M 160 (by decide), M 161 (by decide)]
  exact H
/-- rows that the state needs not -/
def frR : List Nat := [148, 149, 153, 154, 163, 164, 165, 166, 178, 179, 180, 182]
def frZ : List Nat := [162, 167, 168, 171, 172, 173, 174, 183]
theorem RTx.rest (R : RTx h t2 γ τ S wd t f nv V Z B W G) (γ' : gSt) (g : RG h' S' wd' (.ref t) (.ref f) nv' V' Z' γ') (C : RC h' S' wd' t (.ref f) nv' V' Z' (uA τ) (uM τ) (uF τ) B W G) (O : Ou h h') (M : Sm frR V V') (hs : ∀ j, (j = 24 ∨ j = 25 ∨ j = 32 ∨ j = 59 ∨ j = 67 ∨ j = 68) → S' j = S j) : RTx h' t2 γ' τ S' wd' t f nv' V' Z' B W G := by
  obtain ⟨-, tp, -, ⟨Bf, Wf, Gf, Tf⟩, d, l, gd, gl, cs, f1, f2, k1, k2, tr, cl, cn, cd⟩ := R
  refine ⟨g, tp, C, ⟨Bf, Wf, Gf, Tf.ou O tp.ok.2.1⟩, d, l.sm (M 151 (by decide)), ?_, ?_, ?_, ?_, ?_, ?_, ?_, tr.sm (M 177 (by decide)) (M 176 (by decide)), ?_, ?_, ?_⟩
  · unfold gdR
    rw [M 146 (by decide)]
    exact gd
  · unfold glR
    rw [M 147 (by decide)]
    exact gl
  · have q := cs.ou O
    unfold okCs at *
    rw [hs 24 (by decide)]
    exact q
  · rw [hs 25 (by decide)]
    exact f1
  · rw [hs 25 (by decide)]
    exact fun z => (f2 z).go (fun k hk => M k (by
      unfold frR
      rcases hk with rfl | ⟨a, b⟩
      · decide
      · have : k = 155 ∨ k = 156 ∨ k = 157 ∨ k = 158 ∨ k = 159 ∨ k = 160 ∨ k = 161 := by omega
        rcases this with rfl | rfl | rfl | rfl | rfl | rfl | rfl <;> decide))
  · rw [hs 59 (by decide)]
    exact k1
  · rw [M 175 (by decide)]
    exact k2
  · rw [M 150 (by decide)]
    exact cl
  · rw [hs 32 (by decide)]
    exact cn
  · obtain ⟨d1, d2, d3⟩ := cd
    refine ⟨?_, by rw [hs 67 (by decide)]; exact d2, by rw [hs 68 (by decide)]; exact d3⟩
    rw [M 181 (by decide)]
    exact d1
theorem RTx.scr (R : RTx h t2 γ τ S wd t f nv V Z B W G) (C : RC h' S' wd' t (.ref f) nv' V' Z' (uA τ) (uM τ) (uF τ) B W G) (O : Ou h h') (M : Sm frR V V') (MZ : SmZ frZ Z Z') (hs : smS S S') : RTx h' t2 γ τ S' wd' t f nv' V' Z' B W G :=
  R.rest γ (R.1.t C.1 O (M 119 (by decide)) (MZ 169 (by decide)) (MZ 170 (by decide)) (fun j hj => hs j (by omega) (by omega) (by omega))) C O M (fun j hj => hs j (by omega) (by omega) (by omega))
theorem RTx.tw (R : RTx h t2 γ τ S wd t f nv V Z B W G) {w : Int32} (C : RC h' (twS S' w) wd' t (.ref f) nv' V' Z' (uA τ) (uM τ) (uF τ) B W G) (O : Ou h h') (M : Sm frR V V') (MZ : SmZ frZ Z Z') (hs : smS S S') : RTx h' t2 (qTw γ w) τ (twS S' w) wd' t f nv' V' Z' B W G :=
  R.rest (qTw γ w) (R.1.tw C.1 O (M 119 (by decide)) (MZ 169 (by decide)) (MZ 170 (by decide)) (fun j hj => hs j (by omega) (by omega) (by omega))) C O M (fun j hj => by rw [twS_20 (by omega) (by omega)]; exact hs j (by omega) (by omega) (by omega))
/-- thrown := 0 -/
theorem RTx.th (R : RTx h t2 γ τ S wd t f nv V Z B W G) (x : Int32) : ∃ h', pF h (.ref 104) 14 0 (.int x) = some h' ∧ RTx h' t2 γ τ (upd S 0 x) wd t f nv V Z B W G ∧ Ou h h' := by
  obtain ⟨h1, e1, C1, O1⟩ := R.2.2.1.pS (k := 0) rfl (Or.inl (by decide)) x
  exact ⟨h1, e1, R.scr C1 O1 Sm.refl SmZ.refl (fun j j0 _ _ => upd_ne j0), O1⟩
theorem RTx.done (R : RTx h t2 γ τ S wd t f nv V Z B W G) (x : Int32) : ∃ h' S', s_X14_done 104 x h = some (.inl (some (.int x)), h') ∧ RTx h' t2 (qTw γ 0) τ S' wd t f nv V Z B W G ∧ Ou h h' := by
  obtain ⟨h1, e1, X1, O1⟩ := R.1.1.done x
  exact ⟨h1, _, e1, R.tw (R.2.2.1.tw X1 O1) O1 Sm.refl SmZ.refl smS.refl, O1⟩
theorem RTx.refused (R : RTx h t2 γ τ S wd t f nv V Z B W G) (w : Int32) : ∃ h' S', s_X14_refused 104 w h = some (.inl (some (.int (-1))), h') ∧ RTx h' t2 (qTw γ w) τ S' wd t f nv V Z B W G ∧ Ou h h' := by
  obtain ⟨h1, e1, X1, O1⟩ := R.1.1.refused w
  exact ⟨h1, _, e1, R.tw (R.2.2.1.tw X1 O1) O1 Sm.refl SmZ.refl smS.refl, O1⟩
theorem RTx.lost (R : RTx h t2 γ τ S wd t f nv V Z B W G) (w : Int32) : ∃ h' S', s_X14_lost 104 w h = some (.inl (some (.int (-2147483648))), h') ∧ RTx h' t2 (qTw γ w) τ S' wd t f nv V Z B W G ∧ Ou h h' := by
  obtain ⟨h1, e1, X1, O1⟩ := R.1.1.lost w
  exact ⟨h1, _, e1, R.tw (R.2.2.1.tw X1 O1) O1 Sm.refl SmZ.refl smS.refl, O1⟩
theorem RTx.denied (R : RTx h t2 γ τ S wd t f nv V Z B W G) (w : Int32) : ∃ h' S', s_X14_denied 104 w h = some (.inl (some (.int 0)), h') ∧ RTx h' t2 (qTw γ w) τ S' wd t f nv V Z B W G ∧ Ou h h' := by
  obtain ⟨h1, e1, X1, O1⟩ := R.1.1.denied w
  exact ⟨h1, _, e1, R.tw (R.2.2.1.tw X1 O1) O1 Sm.refl SmZ.refl smS.refl, O1⟩
theorem RTx.granted (R : RTx h t2 γ τ S wd t f nv V Z B W G) : ∃ h' S', s_X14_granted 104 h = some (.inl (some (.int 1)), h') ∧ RTx h' t2 (qTw γ 0) τ S' wd t f nv V Z B W G ∧ Ou h h' := by
  obtain ⟨h1, e1, X1, O1⟩ := R.1.1.granted
  exact ⟨h1, _, e1, R.tw (R.2.2.1.tw X1 O1) O1 Sm.refl SmZ.refl smS.refl, O1⟩
theorem RTx.finds (R : RTx h t2 γ τ S wd t f nv V Z B W G) (ok : okτ τ) : ∃ h' S' V', s_X14_finds 104 h = some (.inl none, h') ∧ RTx h' t2 γ τ S' wd t f nv V' Z B W G ∧ okFd V' (uA τ) (uM τ) (uF τ) (uG τ) (uL τ) (uC τ) ∧ Ou h h' := by
  obtain ⟨g, tp, C, ⟨Bf, Wf, Gf, Tf⟩, d, l, gd, gl, cs, f1, f2, k1, k2, tr, cl, cn, cd⟩ := id R
  obtain ⟨h1, V1, e1, C1, O1, M, fd⟩ := C.finds ok.1 gd gl cs l f1 f2
  refine ⟨h1, _, V1, e1, ⟨g.t C1.1 O1 (M 119 (by decide)) rfl rfl (fun j hj => upd_ne (by omega)), tp, C1, ⟨Bf, Wf, Gf, Tf.ou O1 tp.ok.2.1⟩, d, l.sm (M 151 (by decide)), ?_, ?_, ?_, Or.inr rfl, fun _ => fd, k1, ?_, tr.sm (M 177 (by decide)) (M 176 (by decide)), ?_, cn, ?_⟩, fd, O1⟩
  · unfold gdR
    rw [M 146 (by decide)]
    exact gd
  · unfold glR
    rw [M 147 (by decide)]
    exact gl
  · have q := cs.ou O1
    unfold okCs at *
    rw [upd_ne (by decide)]
    exact q
  · rw [M 175 (by decide)]
    exact k2
  · rw [M 150 (by decide)]
    exact cl
  · obtain ⟨d1, d2, d3⟩ := cd
    refine ⟨?_, d2, d3⟩
    rw [M 181 (by decide)]
    exact d1
theorem RTx.g4 (R : RTx h t2 γ τ S wd t f nv V Z B W G) : gW h (.ref 104) 14 4 = some (.ref t) := gW_ref (ltE (by decide)) R.1.1.1 rfl
theorem RTx.k0 {β : Type} {y : Option β} (R : RTx h t2 γ τ S wd t f nv V Z B W G) : kO h 104 14 y = y := R.1.1.kO
theorem RTx.lim (R : RTx h t2 γ τ S wd t f nv V Z B W G) : uF τ 12 ≤ 400 ∧ uF τ 13 ≤ 9 ∧ uF τ 14 ≤ 27 ∧ okm (uM τ) ∧ (0 < uF τ 12 ∧ 0 < uF τ 13 ∧ 0 < uF τ 15 ∧ 0 < uF τ 14 ∧ uF τ 15 ≤ 27) ∧ 0 < uM τ 0 := by
  have C := R.2.2.1
  have c := C.2.2.2.2.2.1
  obtain ⟨-, -, -, -, c5, c6, c7, c8⟩ := id c
  exact ⟨c5, c6, c7, C.2.2.2.2.1.1.1, c.pos, c8⟩
end
theorem RN.tw {h : aH} {γ : gSt} (R : RN h γ) : gW h (.ref 104) 14 4 = some .null := by
  obtain ⟨S, wd, nv, V, Z, g, -⟩ := R
  exact gW_null (ltE (by decide)) g.1.1 rfl
/-! in a span -/
theorem inR_in {c n : Nat} (hc : c < n) (hn : n < 2147483648) (h : aH) : s_X14_in (jI c) 0 (jI n - 1) h = some (.inl (some (.int 1)), h) := by
  unfold s_X14_in
  rw [if_neg (jI_neg (by omega)), jI_dec (by omega), if_neg (fun z => by have := (jI_lt (by omega) (by omega)).mp z; omega)]
  rfl
theorem inR_out {x : Int32} {n : Nat} (hx : x < 0 ∨ jI n ≤ x) (hn : n < 2147483648) (h : aH) : s_X14_in x 0 (jI n - 1) h = some (.inl (some (.int 0)), h) := by
  unfold s_X14_in
  by_cases q : x < 0
  · rw [if_pos q]
    rfl
  · rw [if_neg q]
    have e := jI_of q
    have hb : x.toNatClampNeg < 2147483648 := by
      have := Int32.toInt_lt x
      unfold Int32.toNatClampNeg
      omega
    have hle : jI n ≤ x := hx.resolve_left q
    rw [e] at hle ⊢
    have hle := (jI_le hn hb).mp hle
    rw [if_pos]
    · rfl
    · by_cases z : n = 0
      · rw [z]
        exact Int32.lt_iff_toInt_lt.mpr (by rw [jI_int hb]; exact Int.lt_of_lt_of_le (by decide) (Int.natCast_nonneg _))
      · rw [jI_dec (by omega)]
        exact (jI_lt (by omega) hb).mpr (by omega)
theorem inR_span {x lo hi : Int32} (h1 : lo ≤ x) (h2 : x ≤ hi) (h : aH) : s_X14_in x lo hi h = some (.inl (some (.int 1)), h) := by
  unfold s_X14_in
  rw [if_neg (i32_nlt.mpr h1), if_neg (i32_nlt.mpr h2)]
  rfl
theorem inR_spanN {x lo hi : Int32} (h1 : x < lo ∨ hi < x) (h : aH) : s_X14_in x lo hi h = some (.inl (some (.int 0)), h) := by
  unfold s_X14_in
  by_cases q : x < lo
  · rw [if_pos q]
    rfl
  · rw [if_neg q, if_pos (h1.resolve_left q)]
    rfl
section
variable {h : aH} {t2 : Nat} {γ : gSt} {τ : tSt} {S : Nat → Int32} {wd : Int64} {t f : Nat} {nv : Value} {V : Nat → Nat → Int32} {Z : Nat → Nat → Int64} {B : Nat → Nat → Int32} {W : Nat → Int64} {G : Nat → Nat}
theorem isCell_in (R : RTx h t2 γ τ S wd t f nv V Z B W G) {c : Nat} (hc : c < uF τ 12) : s_X14_isCell 104 (jI c) h = some (.inl (some (.int 1)), h) := by
  have l := R.lim
  unfold s_X14_isCell
  rw [R.g4, Option.bind_some]
  show ((gI h (.ref 104) 14 20).bind fun x10 => cI (s_X14_in (jI c) 0 (x10 - 1) h) fun x15 h15 => if x15 = 0 then (rtZ 0 h15) else (rtZ 1 h15)) = _
  rw [R.2.2.1.g20, Option.bind_some, cI_of (inR_in hc (by omega) h), if_neg (by decide)]
  rfl
theorem isCell_out (R : RTx h t2 γ τ S wd t f nv V Z B W G) {x : Int32} (hx : x < 0 ∨ jI (uF τ 12) ≤ x) : s_X14_isCell 104 x h = some (.inl (some (.int 0)), h) := by
  have l := R.lim
  unfold s_X14_isCell
  rw [R.g4, Option.bind_some]
  show ((gI h (.ref 104) 14 20).bind fun x10 => cI (s_X14_in x 0 (x10 - 1) h) fun x15 h15 => if x15 = 0 then (rtZ 0 h15) else (rtZ 1 h15)) = _
  rw [R.2.2.1.g20, Option.bind_some, cI_of (inR_out hx (by omega) h), if_pos rfl]
  rfl
theorem isPush_in (R : RTx h t2 γ τ S wd t f nv V Z B W G) {c : Nat} (hc : c < uF τ 13) : s_X14_isPush 104 (jI c) h = some (.inl (some (.int 1)), h) := by
  have l := R.lim
  unfold s_X14_isPush
  rw [R.g4, Option.bind_some]
  show ((gI h (.ref 104) 14 21).bind fun x10 => cI (s_X14_in (jI c) 0 (x10 - 1) h) fun x15 h15 => if x15 = 0 then (rtZ 0 h15) else (rtZ 1 h15)) = _
  rw [R.2.2.1.g21, Option.bind_some, cI_of (inR_in hc (by omega) h), if_neg (by decide)]
  rfl
theorem isPush_out (R : RTx h t2 γ τ S wd t f nv V Z B W G) {x : Int32} (hx : x < 0 ∨ jI (uF τ 13) ≤ x) : s_X14_isPush 104 x h = some (.inl (some (.int 0)), h) := by
  have l := R.lim
  unfold s_X14_isPush
  rw [R.g4, Option.bind_some]
  show ((gI h (.ref 104) 14 21).bind fun x10 => cI (s_X14_in x 0 (x10 - 1) h) fun x15 h15 => if x15 = 0 then (rtZ 0 h15) else (rtZ 1 h15)) = _
  rw [R.2.2.1.g21, Option.bind_some, cI_of (inR_out hx (by omega) h), if_pos rfl]
  rfl
theorem isWorld_in (R : RTx h t2 γ τ S wd t f nv V Z B W G) {c : Nat} (hc : c < uF τ 14) : s_X14_isWorld 104 (jI c) h = some (.inl (some (.int 1)), h) := by
  have l := R.lim
  unfold s_X14_isWorld
  rw [R.g4, Option.bind_some]
  show ((gI h (.ref 104) 14 22).bind fun x10 => cI (s_X14_in (jI c) 0 (x10 - 1) h) fun x15 h15 => if x15 = 0 then (rtZ 0 h15) else (rtZ 1 h15)) = _
  rw [R.2.2.1.g22, Option.bind_some, cI_of (inR_in hc (by omega) h), if_neg (by decide)]
  rfl
theorem isWorld_out (R : RTx h t2 γ τ S wd t f nv V Z B W G) {x : Int32} (hx : x < 0 ∨ jI (uF τ 14) ≤ x) : s_X14_isWorld 104 x h = some (.inl (some (.int 0)), h) := by
  have l := R.lim
  unfold s_X14_isWorld
  rw [R.g4, Option.bind_some]
  show ((gI h (.ref 104) 14 22).bind fun x10 => cI (s_X14_in x 0 (x10 - 1) h) fun x15 h15 => if x15 = 0 then (rtZ 0 h15) else (rtZ 1 h15)) = _
  rw [R.2.2.1.g22, Option.bind_some, cI_of (inR_out hx (by omega) h), if_pos rfl]
  rfl
theorem RTx.ldm (R : RTx h t2 γ τ S wd t f nv V Z B W G) {k : Nat} (hk : k < 5) : gO h (.ref 104) 14 4 = some t ∧ gO h (.ref t) 13 0 = some (t + 1) ∧ ldI .int h (.ref (t + 1)) (jI k) = some (jI (uM τ k)) := R.2.2.1.ldm hk
theorem isSight_in (R : RTx h t2 γ τ S wd t f nv V Z B W G) {c : Nat} (hc : c < uM τ 4) : s_X14_isSight 104 (jI c) h = some (.inl (some (.int 1)), h) := by
  obtain ⟨m0, m1, m2, m3, m4⟩ := R.lim.2.2.2.1
  obtain ⟨l1, l2, l3⟩ := R.ldm (k := 4) (by decide)
  have l3' : ldI .int h (.ref (t + 1)) 4 = some (jI (uM τ 4)) := l3
  unfold s_X14_isSight
  rw [R.g4, Option.bind_some]
  show ((gO h (.ref 104) 14 4).bind fun x10 => (gO h (.ref x10) 13 0).bind fun x13 => (ldI .int h (.ref x13) 4).bind fun x17 => cI (s_X14_in (jI c) 0 (x17 - 1) h) fun x20 h20 => if x20 = 0 then (rtZ 0 h20) else (rtZ 1 h20)) = _
  rw [l1, Option.bind_some, l2, Option.bind_some, l3', Option.bind_some, cI_of (inR_in hc (by omega) h), if_neg (by decide)]
  rfl
theorem isSight_out (R : RTx h t2 γ τ S wd t f nv V Z B W G) {x : Int32} (hx : x < 0 ∨ jI (uM τ 4) ≤ x) : s_X14_isSight 104 x h = some (.inl (some (.int 0)), h) := by
  obtain ⟨m0, m1, m2, m3, m4⟩ := R.lim.2.2.2.1
  obtain ⟨l1, l2, l3⟩ := R.ldm (k := 4) (by decide)
  have l3' : ldI .int h (.ref (t + 1)) 4 = some (jI (uM τ 4)) := l3
  unfold s_X14_isSight
  rw [R.g4, Option.bind_some]
  show ((gO h (.ref 104) 14 4).bind fun x10 => (gO h (.ref x10) 13 0).bind fun x13 => (ldI .int h (.ref x13) 4).bind fun x17 => cI (s_X14_in x 0 (x17 - 1) h) fun x20 h20 => if x20 = 0 then (rtZ 0 h20) else (rtZ 1 h20)) = _
  rw [l1, Option.bind_some, l2, Option.bind_some, l3', Option.bind_some, cI_of (inR_out hx (by omega) h), if_pos rfl]
  rfl
theorem isOne_at (R : RTx h t2 γ τ S wd t f nv V Z B W G) : s_X14_isOne 104 h = some (.inl (some (.int (b01 (decide (uM τ 1 = 1))))), h) := by
  obtain ⟨m0, m1, m2, m3, m4⟩ := R.lim.2.2.2.1
  obtain ⟨l1, l2, l3⟩ := R.ldm (k := 1) (by decide)
  have l3' : ldI .int h (.ref (t + 1)) 1 = some (jI (uM τ 1)) := l3
  unfold s_X14_isOne
  rw [l1, Option.bind_some, l2, Option.bind_some, l3', Option.bind_some]
  by_cases q : uM τ 1 = 1
  · rw [q, if_pos (show jI 1 = 1 from rfl)]
    rfl
  · rw [if_neg (show ¬ jI (uM τ 1) = 1 from fun z => q ((jI_inj (j := uM τ 1) (k := 1) (by omega) (by decide)).mp z)), decide_eq_false q]
    rfl
end
