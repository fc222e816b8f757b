/-- of the cells behind the class's own, only its rows are touched -/
def Oa (D : Nat → Nat) (h h' : aH) : Prop := h.length ≤ h'.length ∧ ∀ k, k < h.length → 103 < k → (∀ i, dyC i = true → k ≠ D i) → h'[k]? = h[k]?
theorem Oa.trans {D : Nat → Nat} {h1 h2 h3 : aH} (a : Oa D h1 h2) (b : Oa D h2 h3) : Oa D h1 h3 := ⟨Nat.le_trans a.1 b.1, fun k hk h1 h2 => (b.2 k (Nat.lt_of_lt_of_le hk a.1) h1 h2).trans (a.2 k hk h1 h2)⟩
theorem Oa.of {D : Nat → Nat} {h h' : aH} (O : Oc D h h') : Oa D h h' := ⟨O.1, fun k hk q1 q2 => O.2 k hk (decide_eq_false (by omega)) q2⟩
theorem Oa.fr {D : Nat → Nat} {h h' : aH} (hl : h'.length = h.length) (f : ∀ i, 103 < i → h'[i]? = h[i]?) : Oa D h h' := ⟨by omega, fun k _ q _ => f k q⟩
theorem Oa.trans2 {D D' : Nat → Nat} {h1 h2 h3 : aH} (a : Oa D h1 h2) (g : Gr h1 D D') (b : Oa D' h2 h3) : Oa D h1 h3 := ⟨Nat.le_trans a.1 b.1, fun k hk q1 q2 => (b.2 k (Nat.lt_of_lt_of_le hk a.1) q1 (fun i hi => by
  rcases g i hi with z | z
  · rw [z]; exact q2 i hi
  · omega)).trans (a.2 k hk q1 q2)⟩
theorem PSh.fr {h h' : aH} (P : PSh h) (f : ∀ i, 23 ≤ i → i ≤ 55 → h'[i]? = h[i]?) : PSh h' := by
  obtain ⟨⟨fa, pl, at', wh, per, mo, fo, R⟩, ⟨cnt, K, P, M, TT⟩, ⟨A, N, F, H, hS⟩, s43⟩ := P
  refine ⟨⟨fa, pl, at', wh, per, mo, fo, by unfold RdW; rw [f 51 (by decide) (by decide)]; exact R⟩, ⟨cnt, K, P, M, TT.of (fun i i1 i2 => f i (by omega) (by omega))⟩, ⟨A, N, F, H.of (fun i i1 i2 => f i (by omega) (by omega)), hS⟩, ?_⟩
  obtain ⟨nf, jn, sl, ww, no, st, mi, en, re, FF, q⟩ := s43
  exact ⟨nf, jn, sl, ww, no, st, mi, en, re, FF.of (fun i i1 i2 => f i (by omega) (by omega)), q⟩
theorem CW.frm {h h' : aH} {S : Nat → Nat → Int32} {V : Nat → Nat → Int32} {Z : Nat → Nat → Int64} {D Ln : Nat → Nat} {b : Nat} (X : CW h S V Z D Ln b) (hl : h'.length = h.length) (f : ∀ i, (i < 3 ∨ 55 < i) → h'[i]? = h[i]?) : CW h' S V Z D Ln b := by
  refine ⟨fun a ha => ?_, fun k hk => ?_, fun k hk => ?_, fun i hi => ?_, ?_⟩
  · have q := of_decide_eq_true ha
    rw [f a (by omega)]
    exact X.1 a ha
  · have q := of_decide_eq_true hk
    rw [f k (by omega)]
    exact X.2.1 k hk
  · have q := of_decide_eq_true hk
    rw [f k (by omega)]
    exact X.2.2.1 k hk
  · have q := of_decide_eq_true hi
    rw [f (D i) (by rcases X.2.2.2.2.1 i hi with z | z <;> omega)]
    exact X.2.2.2.1 i hi
  · obtain ⟨a1, a2, a3, a4, a5, a6⟩ := X.2.2.2.2
    exact ⟨a1, a2, a3, a4, by omega, by omega⟩
section
variable {h : aH} {S : Nat → Nat → Int32} {V : Nat → Nat → Int32} {Z : Nat → Nat → Int64} {D Ln : Nat → Nat} {b : Nat}
theorem PSh.oc {h' : aH} (P : PSh h) (X : CW h S V Z D Ln b) (O : Oc D h h') : PSh h' := by
  have l := X.2.2.2.2.2.2.2.2.1
  have f : ∀ i, 23 ≤ i → i ≤ 55 → h'[i]? = h[i]? := fun i i1 i2 => O.2 i (by omega) (decide_eq_false (by omega)) (fun j hj => (X.notD (by omega) (decide_eq_false (by omega)) hj).symm)
  obtain ⟨⟨fa, pl, at', wh, per, mo, fo, R⟩, ⟨cnt, K, P, M, TT⟩, ⟨A, N, F, H, hS⟩, s43⟩ := P
  refine ⟨⟨fa, pl, at', wh, per, mo, fo, by unfold RdW; rw [f 51 (by decide) (by decide)]; exact R⟩, ⟨cnt, K, P, M, TT.of (fun i i1 i2 => f i (by omega) (by omega))⟩, ⟨A, N, F, H.of (fun i i1 i2 => f i (by omega) (by omega)), hS⟩, ?_⟩
  obtain ⟨nf, jn, sl, ww, no, st, mi, en, re, FF, q⟩ := s43
  exact ⟨nf, jn, sl, ww, no, st, mi, en, re, FF.of (fun i i1 i2 => f i (by omega) (by omega)), q⟩
theorem forget3_at (X : CW h S V Z D Ln b) {A : Nat → Nat → Int32} {N : Nat → Int64} {F : Nat → Nat} (H : isM h 3 A N F) (h12 : F 12 < 2147483648) : ∃ h', s_X3_forget 56 h = some (.inl none, h') ∧ CW h' (upd2 S 56 (upd (upd (S 56) 2 0) 3 (jI (F 12 / 32 + 1)))) V Z D Ln b ∧ Oc D h h' := by
  obtain ⟨h1, e1, X1, O1⟩ := X.pz (a := 56) (ci := 3) (k := 2) (x := 0) (Or.inl rfl) rfl rfl (Nat.le_of_ble_eq_true rfl) rfl rfl
  have H1 := H.oc X O1 (Or.inl rfl)
  have g0 : gO h1 (.ref 56) 3 0 = some 3 := gO_of (ltE (by decide)) (X1.1 56 rfl) rfl
  have g1 : gI h1 (.ref 3) 2 12 = some (jI (F 12)) := gI_of (ltE (by decide)) H1.2.1 rfl
  obtain ⟨h2, e2, X2, O2⟩ := X1.pn (a := 56) (ci := 3) (k := 3) (x := jI (F 12 / 32 + 1)) rfl rfl (Nat.le_of_ble_eq_true rfl) rfl rfl
  simp only [upd2_2, upd2_eq] at X2
  refine ⟨h2, ?_, X2, O1.trans O2⟩
  unfold s_X3_forget
  rw [e1, Option.bind_some, g0, Option.bind_some, g1, Option.bind_some, nz_of (by decide), (dm32 h12).1, jI_inc, e2, Option.bind_some]
theorem thingC_no (X : CW h S V Z D Ln b) {n : Int32} (hn : n < 0 ∨ ¬ n ≤ S 0 1) : ∃ h', s_X11_thing 0 n h = some (.inl (some (.int (-1))), h', 0, 0) ∧ CW h' (upd2 S 0 (upd (S 0) 3 2)) V Z D Ln b ∧ Oc D h h' := by
  obtain ⟨h1, e1, X1, O1⟩ := X.pn (a := 0) (ci := 11) (k := 3) (x := 2) rfl rfl (Nat.le_of_ble_eq_true rfl) rfl rfl
  have k0 : ∀ {β : Type} {y : Option β}, kO h 0 11 y = y := kO_of (ltE (by decide)) (X.1 0 rfl)
  have g1 : gI h (.ref 0) 11 1 = some (S 0 1) := gI_of (ltE (by decide)) (X.1 0 rfl) rfl
  have r : s_X11_refused 0 2 h = some (.inl (some (.int (-1))), h1) := by
    unfold s_X11_refused
    rw [e1, Option.bind_some]
  have t : s_X11_thing_12 0 h 0 0 = some (.inl (some (.int (-1))), h1, 0, 0) := by
    unfold s_X11_thing_12
    rw [k0, cI_of r]
    rfl
  refine ⟨h1, ?_, X1, O1⟩
  unfold s_X11_thing
  by_cases q : n < 0
  · rw [if_pos q]
    exact t
  · rw [if_neg q, g1, Option.bind_some, if_neg (hn.resolve_left q)]
    exact t
theorem thingC_bad {T : Nat → Nat} {n t : Nat} (hT : okTp T) (ht : t ≤ 400) (hn : n ≤ t) (X : CW h S V Z D Ln b) (P : PSh h) (XT : TPw h T) (h1 : S 0 1 = jI t) {x : Nat × Nat} (hx : thP T n 401 th0 0 = .inl x) :
    ∃ h', s_X11_thing 0 (jI n) h = some (.inl (some (.int (-1))), h', 0, 0) ∧ CW h' (upd2 S 0 (upd (upd (upd (upd (S 0) 1 0) 4 (jI x.1)) 5 (jI (tokS T n x.2).2.1)) 3 4)) V Z D Ln b ∧ PSh h' ∧ Oa D h h' ∧ ∀ A0 N0 F0, isM h 3 A0 N0 F0 → isM h' 3 A0 N0 F0 := by
  obtain ⟨h2, e2, P2, ⟨at', wh, R2⟩, f2⟩ := (readThing_at hT (show n ≤ 400 by omega) P XT).1 x hx
  have X2 := X.frm f2.1 (fun i hi => f2.2 i (by omega))
  obtain ⟨h3, e3, X3, O3⟩ := settled_at X2 R2 (q := 0) (Or.inl rfl)
  rw [if_pos rfl, if_pos rfl, if_pos rfl] at X3
  have g1 : gI h (.ref 0) 11 1 = some (jI t) := by rw [← h1]; exact gI_of (ltE (by decide)) (X.1 0 rfl) rfl
  have g10 : gO h (.ref 0) 11 10 = some 51 := gO_of (ltE (by decide)) (X.1 0 rfl) rfl
  have g0 : gO h (.ref 0) 11 0 = some 1 := gO_of (ltE (by decide)) (X.1 0 rfl) rfl
  have g8 : gO h (.ref 0) 11 8 = some 23 := gO_of (ltE (by decide)) (X.1 0 rfl) rfl
  have k51 : ∀ {β : Type} {y : Option β}, kO h 51 6 y = y := by
    obtain ⟨⟨fa, pl, a, w, per, mo, fo, R⟩, -⟩ := P
    exact kO_of (ltE (by decide)) R
  have k2 : ∀ {β : Type} {y : Option β}, kO h2 0 11 y = y := kO_of (ltE (by decide)) (X2.1 0 rfl)
  refine ⟨h3, ?_, X3, P2.oc X2 O3, (Oa.fr f2.1 (fun i hi => f2.2 i (by omega))).trans (Oa.of O3), fun A0 N0 F0 H => (H.of (fun i i1 i2 => f2.2 i (by omega))).oc X2 O3 (Or.inl rfl)⟩
  unfold s_X11_thing
  rw [if_neg (jI_neg (by omega)), g1, Option.bind_some, if_pos ((jI_le (by omega) (by omega)).mpr hn), g10, Option.bind_some, g0, Option.bind_some, g8, Option.bind_some, k51, cI_of e2, k2, cI_of e3, if_pos rfl]
  rfl
end
