/-! the class cuts a text into tokens -/
theorem isLt_at {c : Nat} (hc : c < 256) (h : aH) : s_X8_isLetter (jI c) h = some (.inl (some (.int (b01 (isLt c)))), h) := by
  unfold s_X8_isLetter isLt
  by_cases q : c < 97
  · rw [if_pos (show jI c < 97 from (jI_lt (k := 97) (by omega) (by omega)).mpr q), show decide (97 ≤ c) = false from decide_eq_false (by omega)]
    rfl
  · rw [if_neg (show ¬ jI c < 97 from fun z => q ((jI_lt (k := 97) (by omega) (by omega)).mp z)), show decide (97 ≤ c) = true from decide_eq_true (by omega)]
    by_cases q2 : 122 < c
    · rw [if_pos (show (122 : Int32) < jI c from (jI_lt (j := 122) (by omega) (by omega)).mpr q2), show decide (c ≤ 122) = false from decide_eq_false (by omega)]
      rfl
    · rw [if_neg (show ¬ (122 : Int32) < jI c from fun z => q2 ((jI_lt (j := 122) (by omega) (by omega)).mp z)), show decide (c ≤ 122) = true from decide_eq_true (by omega)]
      rfl
theorem isDg_at {c : Nat} (hc : c < 256) (h : aH) : s_X8_isDigit (jI c) h = some (.inl (some (.int (b01 (isDg c)))), h) := by
  unfold s_X8_isDigit isDg
  by_cases q : c < 48
  · rw [if_pos (show jI c < 48 from (jI_lt (k := 48) (by omega) (by omega)).mpr q), show decide (48 ≤ c) = false from decide_eq_false (by omega)]
    rfl
  · rw [if_neg (show ¬ jI c < 48 from fun z => q ((jI_lt (k := 48) (by omega) (by omega)).mp z)), show decide (48 ≤ c) = true from decide_eq_true (by omega)]
    by_cases q2 : 57 < c
    · rw [if_pos (show (57 : Int32) < jI c from (jI_lt (j := 57) (by omega) (by omega)).mpr q2), show decide (c ≤ 57) = false from decide_eq_false (by omega)]
      rfl
    · rw [if_neg (show ¬ (57 : Int32) < jI c from fun z => q2 ((jI_lt (j := 57) (by omega) (by omega)).mp z)), show decide (c ≤ 57) = true from decide_eq_true (by omega)]
      rfl
theorem isSg_go {c : Nat} (hc : c < 256) (h : aH) : (if jI c = 60 then (rtZ 1 h) else (if jI c = 62 then (rtZ 1 h) else (if jI c = 61 then (rtZ 1 h) else (if jI c = 43 then (rtZ 1 h) else (if jI c = 45 then (rtZ 1 h) else (if jI c = 42 then (rtZ 1 h) else (if jI c = 59 then (rtZ 1 h) else (rtZ 0 h)))))))) = some (.inl (some (.int (b01 (isSg c)))), h) := by
  have e : ∀ k : Nat, k < 256 → (jI c = jI k ↔ c = k) := fun k hk => jI_inj (by omega) (by omega)
  have s1 : ∀ k : Nat, k < 256 → c = k → isSg k = true → rtZ 1 h = some (.inl (some (.int (b01 (isSg c)))), h) := fun k _ q r => by rw [q, r]; rfl
  by_cases q1 : c = 60
  · rw [if_pos (show jI c = 60 from (e 60 (by decide)).mpr q1)]; exact s1 60 (by decide) q1 rfl
  rw [if_neg (show ¬ jI c = 60 from fun z => q1 ((e 60 (by decide)).mp z))]
  by_cases q2 : c = 62
  · rw [if_pos (show jI c = 62 from (e 62 (by decide)).mpr q2)]; exact s1 62 (by decide) q2 rfl
  rw [if_neg (show ¬ jI c = 62 from fun z => q2 ((e 62 (by decide)).mp z))]
  by_cases q3 : c = 61
  · rw [if_pos (show jI c = 61 from (e 61 (by decide)).mpr q3)]; exact s1 61 (by decide) q3 rfl
  rw [if_neg (show ¬ jI c = 61 from fun z => q3 ((e 61 (by decide)).mp z))]
  by_cases q4 : c = 43
  · rw [if_pos (show jI c = 43 from (e 43 (by decide)).mpr q4)]; exact s1 43 (by decide) q4 rfl
  rw [if_neg (show ¬ jI c = 43 from fun z => q4 ((e 43 (by decide)).mp z))]
  by_cases q5 : c = 45
  · rw [if_pos (show jI c = 45 from (e 45 (by decide)).mpr q5)]; exact s1 45 (by decide) q5 rfl
  rw [if_neg (show ¬ jI c = 45 from fun z => q5 ((e 45 (by decide)).mp z))]
  by_cases q6 : c = 42
  · rw [if_pos (show jI c = 42 from (e 42 (by decide)).mpr q6)]; exact s1 42 (by decide) q6 rfl
  rw [if_neg (show ¬ jI c = 42 from fun z => q6 ((e 42 (by decide)).mp z))]
  by_cases q7 : c = 59
  · rw [if_pos (show jI c = 59 from (e 59 (by decide)).mpr q7)]; exact s1 59 (by decide) q7 rfl
  rw [if_neg (show ¬ jI c = 59 from fun z => q7 ((e 59 (by decide)).mp z)), show isSg c = false from decide_eq_false (by omega)]
  rfl
/-- a tape of bytes -/
def okTp (T : Nat → Nat) : Prop := ∀ j, T j < 256
def TPw (h : aH) (T : Nat → Nat) : Prop := ∃ g, h[1]? = some (.inl (.int, 400, .inl g)) ∧ ∀ j, j < 400 → g j = jI (T j)
theorem TPw.fr {h h' : aH} {T : Nat → Nat} {a b : Nat} (X : TPw h T) (f : Fr a b h h') (ha : 1 < a) : TPw h' T := by
  obtain ⟨g, e, v⟩ := X
  exact ⟨g, by rw [f.2 1 (by omega)]; exact e, v⟩
theorem TPw.ld {h : aH} {T : Nat → Nat} (X : TPw h T) {j : Nat} (hj : j < 400) : ldI .int h (.ref 1) (jI j) = some (jI (T j)) := by
  obtain ⟨g, e, v⟩ := X
  rw [ldI_of (ltE (by decide)) e hj (by decide), v j hj]
section
variable {T : Nat → Nat}
theorem cw6_go (hT : okTp T) {n i0 : Nat} (hn : n ≤ 400) : ∀ (r i f : Nat) (acc : Int64) (h : aH) (cnt : Nat) (K P : Nat → Int32) (M : Nat → Int64), i + r = n → r < f → i0 ≤ i → TW h cnt K P M → TPw h T → cnt ≤ 400 →
    ∃ h', s_X8_cutWord_6 f 52 1 (jI i0) (jI n) (jI i) acc h = some (.inl (some (.int (jI (i + spN isLt T i r)))), h') ∧ TW h' (cnt + 1) (upd K cnt (if i + spN isLt T i r - i0 ≤ 8 then 1 else 3)) (upd P cnt (jI i0)) (vp_updL M cnt (wdI T i (spN isLt T i r) acc)) ∧ Fr 52 55 h h'
  | _, _, 0, _, _, _, _, _, _, _, hf, _, _, _, _ => by omega
  | r, i, f + 1, acc, h, cnt, K, P, M, hi, hf, h0, X, XT, hc => by
    have fin : ∃ h', s_X8_cutWord_48 52 (jI i0) (jI i) acc h = some (.inl (some (.int (jI i))), h') ∧ TW h' (cnt + 1) (upd K cnt (if i - i0 ≤ 8 then 1 else 3)) (upd P cnt (jI i0)) (vp_updL M cnt acc) ∧ Fr 52 55 h h' := by
      have sb : jI i - jI i0 = jI (i - i0) := by
        have : jI i = jI (i - i0) + jI i0 := by rw [jI_add]; congr 1; omega
        rw [this]
        exact Int32.add_sub_cancel _ _
      unfold s_X8_cutWord_48
      rw [sb]
      by_cases q : i - i0 ≤ 8
      · rw [if_neg (show ¬ (8 : Int32) < jI (i - i0) from fun z => by have := (jI_lt (j := 8) (by omega) (by omega)).mp z; omega), if_pos q]
        obtain ⟨h', e, X', f'⟩ := add_at X hc 1 (jI i0) acc
        refine ⟨h', ?_, X', f'⟩
        unfold s_X8_cutWord_63
        rw [X.kO, e]
        rfl
      · rw [if_pos (show (8 : Int32) < jI (i - i0) from (jI_lt (j := 8) (by omega) (by omega)).mpr (by omega)), if_neg q]
        obtain ⟨h', e, X', f'⟩ := add_at X hc 3 (jI i0) acc
        refine ⟨h', ?_, X', f'⟩
        unfold s_X8_cutWord_63
        rw [X.kO, e]
        rfl
    match r, hi, hf with
    | 0, hi, hf =>
      obtain ⟨h', e, X', f'⟩ := fin
      refine ⟨h', ?_, X', f'⟩
      show s_X8_cutWord_6_b (s_X8_cutWord_6 f) 52 1 (jI i0) (jI n) (jI i) acc h = _
      unfold s_X8_cutWord_6_b
      rw [if_pos ((jI_le (by omega) (by omega)).mpr (by omega))]
      exact e
    | r + 1, hi, hf =>
      have ld := XT.ld (j := i) (by omega)
      have il := isLt_at (hT i) h
      have e0 : spN isLt T i (r + 1) = if isLt (T i) = true then spN isLt T (i + 1) r + 1 else 0 := rfl
      by_cases q : isLt (T i) = true
      · obtain ⟨h', e, X', f'⟩ := cw6_go hT (n := n) (i0 := i0) hn r (i + 1) f ((((acc * 27) + (jI (T i)).toInt64) - 97) + 1) h cnt K P M (by omega) (by omega) (by omega) X XT hc
        rw [e0, if_pos q]
        refine ⟨h', ?_, ?_, f'⟩
        · show s_X8_cutWord_6_b (s_X8_cutWord_6 f) 52 1 (jI i0) (jI n) (jI i) acc h = _
          unfold s_X8_cutWord_6_b
          rw [if_neg (fun u => by have := (jI_le (by omega) (by omega)).mp u; omega), ld, Option.bind_some, il, q]
          simp only [cI]
          rw [if_neg (show ¬ b01 true = 0 by decide), ld, Option.bind_some, jI_inc, e, show i + 1 + spN isLt T (i + 1) r = i + (spN isLt T (i + 1) r + 1) by omega]
        · rw [show i + 1 + spN isLt T (i + 1) r = i + (spN isLt T (i + 1) r + 1) by omega] at X'
          exact X'
      · obtain ⟨h', e, X', f'⟩ := fin
        rw [e0, if_neg q]
        refine ⟨h', ?_, X', f'⟩
        show s_X8_cutWord_6_b (s_X8_cutWord_6 f) 52 1 (jI i0) (jI n) (jI i) acc h = _
        unfold s_X8_cutWord_6_b
        rw [if_neg (fun u => by have := (jI_le (by omega) (by omega)).mp u; omega), ld, Option.bind_some, il]
        simp only [cI]
        rw [if_pos (b01_0.mpr (Bool.eq_false_iff.mpr q))]
        exact e
theorem ch6_go (hT : okTp T) {n i0 : Nat} (hn : n ≤ 400) : ∀ (r i f : Nat) (acc : Int64) (h : aH) (cnt : Nat) (K P : Nat → Int32) (M : Nat → Int64), i + r = n → r < f → i0 ≤ i → TW h cnt K P M → TPw h T → cnt ≤ 400 →
    ∃ h', s_X8_cutWhole_6 f 52 1 (jI i0) (jI n) (jI i) acc h = some (.inl (some (.int (jI (i + spN isDg T i r)))), h') ∧ TW h' (cnt + 1) (upd K cnt (if i + spN isDg T i r - i0 ≤ 3 then 2 else 3)) (upd P cnt (jI i0)) (vp_updL M cnt (whI T i (spN isDg T i r) acc)) ∧ Fr 52 55 h h'
  | _, _, 0, _, _, _, _, _, _, _, hf, _, _, _, _ => by omega
  | r, i, f + 1, acc, h, cnt, K, P, M, hi, hf, h0, X, XT, hc => by
    have fin : ∃ h', s_X8_cutWhole_46 52 (jI i0) (jI i) acc h = some (.inl (some (.int (jI i))), h') ∧ TW h' (cnt + 1) (upd K cnt (if i - i0 ≤ 3 then 2 else 3)) (upd P cnt (jI i0)) (vp_updL M cnt acc) ∧ Fr 52 55 h h' := by
      have sb : jI i - jI i0 = jI (i - i0) := by
        have : jI i = jI (i - i0) + jI i0 := by rw [jI_add]; congr 1; omega
        rw [this]
        exact Int32.add_sub_cancel _ _
      unfold s_X8_cutWhole_46
      rw [sb]
      by_cases q : i - i0 ≤ 3
      · rw [if_neg (show ¬ (3 : Int32) < jI (i - i0) from fun z => by have := (jI_lt (j := 3) (by omega) (by omega)).mp z; omega), if_pos q]
        obtain ⟨h', e, X', f'⟩ := add_at X hc 2 (jI i0) acc
        refine ⟨h', ?_, X', f'⟩
        unfold s_X8_cutWhole_60
        rw [X.kO, e]
        rfl
      · rw [if_pos (show (3 : Int32) < jI (i - i0) from (jI_lt (j := 3) (by omega) (by omega)).mpr (by omega)), if_neg q]
        obtain ⟨h', e, X', f'⟩ := add_at X hc 3 (jI i0) acc
        refine ⟨h', ?_, X', f'⟩
        unfold s_X8_cutWhole_60
        rw [X.kO, e]
        rfl
    match r, hi, hf with
    | 0, hi, hf =>
      obtain ⟨h', e, X', f'⟩ := fin
      refine ⟨h', ?_, X', f'⟩
      show s_X8_cutWhole_6_b (s_X8_cutWhole_6 f) 52 1 (jI i0) (jI n) (jI i) acc h = _
      unfold s_X8_cutWhole_6_b
      rw [if_pos ((jI_le (by omega) (by omega)).mpr (by omega))]
      exact e
    | r + 1, hi, hf =>
      have ld := XT.ld (j := i) (by omega)
      have il := isDg_at (hT i) h
      have e0 : spN isDg T i (r + 1) = if isDg (T i) = true then spN isDg T (i + 1) r + 1 else 0 := rfl
      by_cases q : isDg (T i) = true
      · obtain ⟨h', e, X', f'⟩ := ch6_go hT (n := n) (i0 := i0) hn r (i + 1) f (((acc * 10) + (jI (T i)).toInt64) - 48) h cnt K P M (by omega) (by omega) (by omega) X XT hc
        rw [e0, if_pos q]
        refine ⟨h', ?_, ?_, f'⟩
        · show s_X8_cutWhole_6_b (s_X8_cutWhole_6 f) 52 1 (jI i0) (jI n) (jI i) acc h = _
          unfold s_X8_cutWhole_6_b
          rw [if_neg (fun u => by have := (jI_le (by omega) (by omega)).mp u; omega), ld, Option.bind_some, il, q]
          simp only [cI]
          rw [if_neg (show ¬ b01 true = 0 by decide), ld, Option.bind_some, jI_inc, e, show i + 1 + spN isDg T (i + 1) r = i + (spN isDg T (i + 1) r + 1) by omega]
        · rw [show i + 1 + spN isDg T (i + 1) r = i + (spN isDg T (i + 1) r + 1) by omega] at X'
          exact X'
      · obtain ⟨h', e, X', f'⟩ := fin
        rw [e0, if_neg q]
        refine ⟨h', ?_, X', f'⟩
        show s_X8_cutWhole_6_b (s_X8_cutWhole_6 f) 52 1 (jI i0) (jI n) (jI i) acc h = _
        unfold s_X8_cutWhole_6_b
        rw [if_neg (fun u => by have := (jI_le (by omega) (by omega)).mp u; omega), ld, Option.bind_some, il]
        simp only [cI]
        rw [if_pos (b01_0.mpr (Bool.eq_false_iff.mpr q))]
        exact e
/-- the tokens that stand: the first cnt, and the next one will be read from at -/
def tkOk (T : Nat → Nat) (n cnt : Nat) (K P : Nat → Int32) (M : Nat → Int64) : Prop := ∀ k, k < cnt → K k = jI (tokS T n k).1 ∧ P k = jI (tokS T n k).2.1 ∧ M k = mnI T (tokS T n k)
theorem tkOk.add {n cnt : Nat} {K P : Nat → Int32} {M : Nat → Int64} (H : tkOk T n cnt K P M) {a1 a2 : Int32} {a3 : Int64} (h1 : a1 = jI (tokS T n cnt).1) (h2 : a2 = jI (tokS T n cnt).2.1) (h3 : a3 = mnI T (tokS T n cnt)) : tkOk T n (cnt + 1) (upd K cnt a1) (upd P cnt a2) (vp_updL M cnt a3) := fun k hk => by
  by_cases u : k = cnt
  · rw [u, upd_eq, upd_eq, updL_eq]
    exact ⟨h1, h2, h3⟩
  · rw [upd_ne u, upd_ne u, updL_ne u]
    exact H k (by omega)
/-- all tokens stand -/
def TKs (h : aH) (T : Nat → Nat) (n e : Nat) : Prop := ∃ K P M, TW h (e + 1) K P M ∧ tkOk T n (e + 1) K P M ∧ (tokS T n e).1 = 0 ∧ (∀ k, k < e → (tokS T n k).1 ≠ 0) ∧ e ≤ 400
theorem cut10_go (hT : okTp T) {n : Nat} (hn : n ≤ 400) : ∀ (r at' i f cnt : Nat) (h : aH) (K P : Nat → Int32) (M : Nat → Int64), at' + r = n → r < f → i ≤ at' → cnt ≤ at' → TW h cnt K P M → TPw h T → tkOk T n cnt K P M → (∀ k, k < cnt → (tokS T n k).1 ≠ 0) → lexR T at' r = tokS T n cnt →
    ∃ h' e, s_X8_cut_10 f 52 1 (jI n) (jI at') (jI i) h = some (.inl none, h') ∧ TKs h' T n e ∧ Fr 52 55 h h' := by
  intro r
  induction r using Nat.strongRecOn with
  | ind r ih =>
    intro at' i f cnt h K P M hat hf hi hcnt X XT H hne hlex
    match f, hf with
    | f + 1, hf =>
      match r, hat, hf, hlex, ih with
      | 0, hat, hf, hlex, ih =>
        obtain ⟨h', e, X', f'⟩ := add_at X (by omega) 0 (jI n) 0
        have t : tokS T n cnt = (0, at', 0) := hlex.symm
        refine ⟨h', cnt, ?_, ⟨_, _, _, X', H.add (by rw [t]; rfl) (by rw [t]; show jI n = jI at'; congr 1; omega) (by rw [t]; rfl), by rw [t], hne, by omega⟩, f'⟩
        show s_X8_cut_10_b (s_X8_cut_10 f) 52 1 (jI n) (jI at') (jI i) h = _
        have e2 : s_X8_cut_106 52 (jI n) h = some (.inl none, h') := by
          unfold s_X8_cut_106
          rw [X.kO, e]
          rfl
        unfold s_X8_cut_10_b
        by_cases q : n ≤ i
        · rw [if_pos ((jI_le (by omega) (by omega)).mpr q)]
          exact e2
        · rw [if_neg (fun u => q ((jI_le (by omega) (by omega)).mp u)), if_pos ((jI_le (by omega) (by omega)).mpr (by omega))]
          exact e2
      | r + 1, hat, hf, hlex, ih =>
        have ld := XT.ld (j := at') (by omega)
        have hc := hT at'
        have e0 : lexR T at' (r + 1) = if T at' = 32 then lexR T (at' + 1) r else if isLt (T at') = true then (if spN isLt T at' (r + 1) ≤ 8 then 1 else 3, at', spN isLt T at' (r + 1)) else if isDg (T at') = true then (if spN isDg T at' (r + 1) ≤ 3 then 2 else 3, at', spN isDg T at' (r + 1)) else (if isSg (T at') = true then T at' else 3, at', 1) := rfl
        rw [e0] at hlex
        have head : ∀ {y : aO}, (if jI (T at') = 32 then (s_X8_cut_10 f 52 1 (jI n) (jI at' + 1) (jI i + 1) h) else (cI (s_X8_isLetter (jI (T at')) h) fun x41 h41 => if x41 = 0 then (cI (s_X8_isDigit (jI (T at')) h41) fun x60 h60 => if x60 = 0 then (cI (s_X8_isSign (jI (T at')) h60) fun x80 h80 => if x80 = 0 then (s_X8_cut_92 (s_X8_cut_10 f) 52 1 (jI n) (jI at') (jI i) 3 52 h80) else (s_X8_cut_92 (s_X8_cut_10 f) 52 1 (jI n) (jI at') (jI i) (jI (T at')) 52 h80)) else (kO h60 52 8 (cI (s_X8_cutWhole 52 1 (jI at') (jI n) h60) fun x70 h70 => s_X8_cut_10 f 52 1 (jI n) x70 (jI i + 1) h70))) else (kO h41 52 8 (cI (s_X8_cutWord 52 1 (jI at') (jI n) h41) fun x51 h51 => s_X8_cut_10 f 52 1 (jI n) x51 (jI i + 1) h51)))) = y → s_X8_cut_10 (f + 1) 52 1 (jI n) (jI at') (jI i) h = y := by
          intro y hy
          show s_X8_cut_10_b (s_X8_cut_10 f) 52 1 (jI n) (jI at') (jI i) h = _
          unfold s_X8_cut_10_b
          rw [if_neg (fun u => by have := (jI_le (by omega) (by omega)).mp u; omega), if_neg (fun u => by have := (jI_le (by omega) (by omega)).mp u; omega), ld, Option.bind_some]
          exact hy
        by_cases q : T at' = 32
        · rw [if_pos q] at hlex
          obtain ⟨h', e, i1, i2, i3⟩ := ih r (by omega) (at' + 1) (i + 1) f cnt h K P M (by omega) (by omega) (by omega) (by omega) X XT H hne hlex
          refine ⟨h', e, head ?_, i2, i3⟩
          rw [if_pos (show jI (T at') = 32 by rw [q]; rfl), jI_inc, jI_inc]
          exact i1
        · have n32 : ¬ jI (T at') = 32 := fun z => q ((jI_inj (k := 32) (by omega) (by omega)).mp z)
          rw [if_neg q] at hlex
          -- what is read next, once a token of length l stands
          have go : ∀ (l : Nat) (h1 : aH) (K1 P1 : Nat → Int32) (M1 : Nat → Int64), 0 < l → l ≤ r + 1 → tkE (tokS T n cnt) = at' + l → (tokS T n cnt).1 ≠ 0 → TW h1 (cnt + 1) K1 P1 M1 → tkOk T n (cnt + 1) K1 P1 M1 → Fr 52 55 h h1 → ∃ h' e, s_X8_cut_10 f 52 1 (jI n) (jI (at' + l)) (jI (i + 1)) h1 = some (.inl none, h') ∧ TKs h' T n e ∧ Fr 52 55 h h' := by
            intro l h1 K1 P1 M1 hl hl2 hE hk X1 H1 f1
            obtain ⟨h', e, i1, i2, i3⟩ := ih (r + 1 - l) (by omega) (at' + l) (i + 1) f (cnt + 1) h1 K1 P1 M1 (by omega) (by omega) (by omega) (by omega) X1 (XT.fr f1 (by decide)) H1 (fun k hk' => by
              by_cases u : k = cnt
              · rw [u]; exact hk
              · exact hne k (by omega)) (by
              show _ = lexR T (tkE (tokS T n cnt)) (n - tkE (tokS T n cnt))
              rw [hE, show n - (at' + l) = r + 1 - l by omega])
            exact ⟨h', e, i1, i2, f1.trans i3⟩
          by_cases q1 : isLt (T at') = true
          · rw [if_pos q1] at hlex
            obtain ⟨h1, e1, X1, f1⟩ := cw6_go hT (i0 := at') hn (r + 1) at' FU 0 h cnt K P M (by omega) (by show r + 1 < 1000000; omega) (by omega) X XT (by omega)
            have sl := spN_le (p := isLt) (T := T) (r + 1) at'
            have sp : 0 < spN isLt T at' (r + 1) := by
              show 0 < if isLt (T at') = true then _ else _
              rw [if_pos q1]; omega
            rw [show at' + spN isLt T at' (r + 1) - at' = spN isLt T at' (r + 1) by omega] at X1
            obtain ⟨h', e, i1, i2, i3⟩ := go (spN isLt T at' (r + 1)) h1 _ _ _ sp sl (by rw [← hlex]; rfl) (by rw [← hlex]; dsimp only; split <;> decide) X1 (H.add (by rw [← hlex]; dsimp only; split <;> rfl) (by rw [← hlex]) (by rw [← hlex]; unfold mnI; dsimp only; rw [if_neg (by omega), if_pos q1])) f1
            refine ⟨h', e, head ?_, i2, i3⟩
            rw [if_neg n32, isLt_at hc, q1]
            simp only [cI]
            rw [if_neg (show ¬ b01 true = 0 by decide), X.kO]
            unfold s_X8_cutWord
            rw [e1]
            simp only []
            rw [jI_inc]
            exact i1
          · rw [if_neg q1] at hlex
            by_cases q2 : isDg (T at') = true
            · rw [if_pos q2] at hlex
              obtain ⟨h1, e1, X1, f1⟩ := ch6_go hT (i0 := at') hn (r + 1) at' FU 0 h cnt K P M (by omega) (by show r + 1 < 1000000; omega) (by omega) X XT (by omega)
              have sl := spN_le (p := isDg) (T := T) (r + 1) at'
              have sp : 0 < spN isDg T at' (r + 1) := by
                show 0 < if isDg (T at') = true then _ else _
                rw [if_pos q2]; omega
              rw [show at' + spN isDg T at' (r + 1) - at' = spN isDg T at' (r + 1) by omega] at X1
              obtain ⟨h', e, i1, i2, i3⟩ := go (spN isDg T at' (r + 1)) h1 _ _ _ sp sl (by rw [← hlex]; rfl) (by rw [← hlex]; dsimp only; split <;> decide) X1 (H.add (by rw [← hlex]; dsimp only; split <;> rfl) (by rw [← hlex]) (by rw [← hlex]; unfold mnI; dsimp only; rw [if_neg (by omega), if_neg q1, if_pos q2])) f1
              refine ⟨h', e, head ?_, i2, i3⟩
              rw [if_neg n32, isLt_at hc, Bool.eq_false_iff.mpr q1]
              simp only [cI]
              rw [if_pos (show b01 false = 0 by decide), isDg_at hc, q2]
              simp only []
              rw [if_neg (show ¬ b01 true = 0 by decide), X.kO]
              unfold s_X8_cutWhole
              rw [e1]
              simp only []
              rw [jI_inc]
              exact i1
            · rw [if_neg q2] at hlex
              have pre : ∀ {y : aO}, (if b01 (isSg (T at')) = 0 then (s_X8_cut_92 (s_X8_cut_10 f) 52 1 (jI n) (jI at') (jI i) 3 52 h) else (s_X8_cut_92 (s_X8_cut_10 f) 52 1 (jI n) (jI at') (jI i) (jI (T at')) 52 h)) = y → s_X8_cut_10 (f + 1) 52 1 (jI n) (jI at') (jI i) h = y := by
                intro y hy
                refine head ?_
                rw [if_neg n32, isLt_at hc, Bool.eq_false_iff.mpr q1]
                simp only [cI]
                rw [if_pos (show b01 false = 0 by decide), isDg_at hc, Bool.eq_false_iff.mpr q2]
                simp only []
                rw [if_pos (show b01 false = 0 by decide)]
                unfold s_X8_isSign
                rw [isSg_go hc]
                simp only []
                exact hy
              have one : ∀ k : Nat, (tokS T n cnt).1 = k → k ≠ 0 → ∃ h' e, s_X8_cut_92 (s_X8_cut_10 f) 52 1 (jI n) (jI at') (jI i) (jI k) 52 h = some (.inl none, h') ∧ TKs h' T n e ∧ Fr 52 55 h h' := by
                intro k hk k0
                obtain ⟨h1, e1, X1, f1⟩ := add_at X (by omega) (jI k) (jI at') 0
                obtain ⟨h', e, i1, i2, i3⟩ := go 1 h1 _ _ _ (by decide) (by omega) (by rw [← hlex]; rfl) (by rw [hk]; exact k0) X1 (H.add (by rw [hk]) (by rw [← hlex]) (by rw [← hlex]; unfold mnI; dsimp only; rw [if_neg (by decide), if_neg q1, if_neg q2])) f1
                refine ⟨h', e, ?_, i2, i3⟩
                unfold s_X8_cut_92
                rw [X.kO, e1]
                simp only [cN]
                rw [jI_inc, jI_inc]
                exact i1
              by_cases q3 : isSg (T at') = true
              · have q4 := of_decide_eq_true q3
                obtain ⟨h', e, i1, i2, i3⟩ := one (T at') (by rw [← hlex]; dsimp only; rw [if_pos q3]) (by omega)
                refine ⟨h', e, pre ?_, i2, i3⟩
                rw [q3, if_neg (show ¬ b01 true = 0 by decide)]
                exact i1
              · obtain ⟨h', e, i1, i2, i3⟩ := one 3 (by rw [← hlex]; dsimp only; rw [if_neg q3]) (by decide)
                refine ⟨h', e, pre ?_, i2, i3⟩
                rw [Bool.eq_false_iff.mpr q3, if_pos (show b01 false = 0 by decide)]
                exact i1
theorem cut_at (hT : okTp T) {h : aH} {n cnt : Nat} {K P : Nat → Int32} {M : Nat → Int64} (hn : n ≤ 400) (X : TW h cnt K P M) (XT : TPw h T) : ∃ h' e, s_X8_cut 52 1 (jI n) h = some (.inl none, h') ∧ TKs h' T n e ∧ Fr 52 55 h h' := by
  obtain ⟨x0, x1, x2, x3⟩ := X
  have e1 : pF h (.ref 52) 8 0 (.int 0) = some (h.set 52 (.inr (8, [.int (jI 0), .ref 53, .ref 54, .ref 55]))) := by
    rw [pF_of (ltE (by decide)) x0 (show 0 < 4 by decide)]
    rfl
  have f1 : Fr 52 55 h (h.set 52 (.inr (8, [.int (jI 0), .ref 53, .ref 54, .ref 55]))) := Fr.set (by decide) (by decide)
  have X1 : TW (h.set 52 (.inr (8, [.int (jI 0), .ref 53, .ref 54, .ref 55]))) 0 K P M := ⟨set_eq x0, by rw [set_ne (by decide)]; exact x1, by rw [set_ne (by decide)]; exact x2, by rw [set_ne (by decide)]; exact x3⟩
  obtain ⟨h', e, i1, i2, i3⟩ := cut10_go hT hn n 0 0 FU 0 _ K P M (by omega) (by show n < 1000000; omega) (by omega) (by omega) X1 (XT.fr f1 (by decide)) (fun k hk => absurd hk (Nat.not_lt_zero k)) (fun k hk => absurd hk (Nat.not_lt_zero k)) rfl
  refine ⟨h', e, ?_, i2, f1.trans i3⟩
  unfold s_X8_cut
  rw [e1, Option.bind_some]
  exact i1
end
