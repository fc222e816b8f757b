/-! texts read: what is meant -/
def slK (nm : Nat → List Nat) (w : List Nat) : Nat → Nat → Option Nat
  | _, 0 => none
  | s, c + 1 => if nm s = w then some s else slK nm w (s + 1) c
def bsN (k : Nat) : Nat := if k = 0 then 0 else 2 * k + 1
def slG (nm : Nat → List Nat) (m : Nat → Nat) (w : List Nat) : Nat → Nat → Option Nat
  | _, 0 => none
  | k, r + 1 => match slK nm w (bsN k) (m k) with
    | some s => some s
    | none => slG nm m w (k + 1) r
/-- the slot of a name -/
def slF (nm : Nat → List Nat) (m : Nat → Nat) (w : List Nat) : Option Nat := slG nm m w 0 5
section
variable (T : Nat → Nat) (n : Nat) (nm : Nat → List Nat) (m : Nat → Nat) (per : Nat)
/-- a factor: its fault, or its slot and whole -/
def fcP (k nf : Nat) : Nat ⊕ (Int32 × Int32) :=
  if (tokS T n k).1 = 2 then (if 60 ≤ nf then .inl 5 else .inr (-1, jI (tkN T (tokS T n k))))
  else if (tokS T n k).1 = 1 ∧ rsO (tkW T (tokS T n k)) = none then (match slF nm m (tkW T (tokS T n k)) with
    | none => .inl 2
    | some s => if per ≤ s then .inl 2 else if 60 ≤ nf then .inl 5 else .inr (jI s, 0))
  else .inl 1
def jnO (c : Nat) : Option Int32 := if c = 43 then some 0 else if c = 45 then some 1 else if c = 42 then some 2 else none
def smP : Nat → Int32 → Nat → Nat → (Nat × Nat) ⊕ (List pFa × Nat)
  | 0, _, k, _ => .inl (1, k)
  | r + 1, j, k, nf => match fcP T n nm m per k nf with
    | .inl f => .inl (f, k)
    | .inr sw => match jnO (tokS T n (k + 1)).1 with
      | none => .inr ([(j, sw.1, sw.2)], k + 1)
      | some j' => match smP r j' (k + 2) (nf + 1) with
        | .inl e => .inl e
        | .inr x => .inr ((j, sw.1, sw.2) :: x.1, x.2)
def suP (k nf : Nat) : (Nat × Nat) ⊕ (List pFa × Nat) := if (tokS T n k).1 = 45 then smP T n nm m per 61 1 (k + 1) nf else smP T n nm m per 61 0 k nf
def isRl (c : Nat) : Bool := decide (c = 60 ∨ c = 62 ∨ c = 61)
def isWd (i k : Nat) : Bool := decide ((tokS T n k).1 = 1 ∧ rsO (tkW T (tokS T n k)) = some i)
def onP (k nf : Nat) : (Nat × Nat) ⊕ (pOne × Nat) := match suP T n nm m per k nf with
  | .inl e => .inl e
  | .inr x => if isRl (tokS T n x.2).1 = true then (match suP T n nm m per (x.2 + 1) (nf + x.1.length) with
    | .inl e => .inl e
    | .inr y => .inr ((x.1, y.1, jI (tokS T n x.2).1), y.2)) else .inl (1, x.2)
def oLn (o : pOne) : Nat := o.1.length + o.2.1.length
def teP : Nat → Nat → Nat → (Nat × Nat) ⊕ (List pOne × Nat)
  | 0, k, _ => .inl (1, k)
  | r + 1, k, nf => match onP T n nm m per k nf with
    | .inl e => .inl e
    | .inr x => if isWd T n 7 x.2 = true then (match teP r (x.2 + 1) (nf + oLn x.1) with
      | .inl e => .inl e
      | .inr y => .inr (x.1 :: y.1, y.2)) else .inr ([x.1], x.2)
end
theorem rsG_lt {w : List Nat} : ∀ (n i s : Nat), rsG w i n = some s → i ≤ s ∧ s < i + n
  | 0, _, _, h => by cases h
  | n + 1, i, s, h => by
    have e0 : rsG w i (n + 1) = if resA i = w then some i else rsG w (i + 1) n := rfl
    rw [e0] at h
    by_cases q : resA i = w
    · rw [if_pos q] at h
      cases h
      omega
    · rw [if_neg q] at h
      have := rsG_lt n (i + 1) s h
      omega
theorem rsO_lt {w : List Nat} {s : Nat} (h : rsO w = some s) : s < 8 := by
  have := rsG_lt 8 0 s h
  omega
theorem oI_eq {x : Option Nat} {i : Nat} (hx : ∀ s, x = some s → s < 2147483648) (hi : i < 2147483648) : oI x = jI i ↔ x = some i := by
  match x, hx with
  | none, _ =>
    refine ⟨fun h => ?_, fun h => by cases h⟩
    have e : (-1 : Int32) = jI i := h
    have := jI_neg hi
    rw [← e] at this
    exact absurd (by decide) this
  | some s, hx =>
    have hs := hx s rfl
    refine ⟨fun h => ?_, fun h => by cases h; rfl⟩
    rw [(jI_inj hs hi).mp h]
theorem oI_neg {x : Option Nat} (hx : ∀ s, x = some s → s < 2147483648) : oI x < 0 ↔ x = none := by
  match x, hx with
  | none, _ => exact ⟨fun _ => rfl, fun _ => by show (-1 : Int32) < 0; decide⟩
  | some s, hx => exact ⟨fun h => absurd h (jI_neg (hx s rfl)), fun h => by cases h⟩
theorem lexR_kd {T : Nat → Nat} (hT : okTp T) : ∀ (r i : Nat), (lexR T i r).1 < 256
  | 0, i => by show 0 < 256; decide
  | r + 1, i => by
    have e : lexR T i (r + 1) = if T i = 32 then lexR T (i + 1) r else if isLt (T i) = true then (if spN isLt T i (r + 1) ≤ 8 then 1 else 3, i, spN isLt T i (r + 1)) else if isDg (T i) = true then (if spN isDg T i (r + 1) ≤ 3 then 2 else 3, i, spN isDg T i (r + 1)) else (if isSg (T i) = true then T i else 3, i, 1) := rfl
    have := hT i
    rw [e]
    by_cases q : T i = 32
    · rw [if_pos q]; exact lexR_kd hT r (i + 1)
    · rw [if_neg q]
      by_cases q1 : isLt (T i) = true
      · rw [if_pos q1]; dsimp only; split <;> decide
      · rw [if_neg q1]
        by_cases q2 : isDg (T i) = true
        · rw [if_pos q2]; dsimp only; split <;> decide
        · rw [if_neg q2]; dsimp only; split <;> omega
theorem tok_kd {T : Nat → Nat} (hT : okTp T) (n k : Nat) : (tokS T n k).1 < 256 := by
  rw [tokS_P]
  exact lexR_kd hT _ _
/-! the class's reader -/
def RdW (h : aH) (fa pl at' wh per : Int32) (mo fo : Nat) : Prop := h[51]? = some (.inr (6, [.int fa, .int pl, .int at', .int wh, .int per, .ref mo, .ref fo, .ref 52]))
def PCw (h : aH) (T : Nat → Nat) (n e : Nat) (fa pl : Int32) (k : Nat) (wh per : Int32) (mo fo : Nat) : Prop := RdW h fa pl (jI k) wh per mo fo ∧ TKs h T n e ∧ k ≤ e ∧ okTp T ∧ n ≤ 400
def okFo (mo fo : Nat) : Prop := (mo = 23 ∧ fo = 35) ∨ (mo = 3 ∧ fo = 43)
/-- only the reader and the formulas are touched -/
def FrS (fo : Nat) (h h' : aH) : Prop := h'.length = h.length ∧ ∀ k, k ≠ 51 → (k < fo ∨ fo + 7 < k) → h'[k]? = h[k]?
theorem FrS.refl {fo : Nat} {h : aH} : FrS fo h h := ⟨rfl, fun _ _ _ => rfl⟩
theorem FrS.trans {fo : Nat} {h1 h2 h3 : aH} (p : FrS fo h1 h2) (q : FrS fo h2 h3) : FrS fo h1 h3 := ⟨q.1.trans p.1, fun k a b => (q.2 k a b).trans (p.2 k a b)⟩
theorem FrS.set {fo k : Nat} {h : aH} {c : aC} (hk : k = 51 ∨ (fo ≤ k ∧ k ≤ fo + 7)) : FrS fo h (h.set k c) := ⟨List.length_set .., fun j a b => set_ne (by omega)⟩
theorem TW.of {h h' : aH} {cnt : Nat} {K P : Nat → Int32} {M : Nat → Int64} (X : TW h cnt K P M) (f : ∀ k, 52 ≤ k → k ≤ 55 → h'[k]? = h[k]?) : TW h' cnt K P M := ⟨by rw [f 52 (by decide) (by decide)]; exact X.1, by rw [f 53 (by decide) (by decide)]; exact X.2.1, by rw [f 54 (by decide) (by decide)]; exact X.2.2.1, by rw [f 55 (by decide) (by decide)]; exact X.2.2.2⟩
theorem TKs.of {h h' : aH} {T : Nat → Nat} {n e : Nat} (X : TKs h T n e) (f : ∀ k, 52 ≤ k → k ≤ 55 → h'[k]? = h[k]?) : TKs h' T n e := by
  obtain ⟨K, P, M, a, b⟩ := X
  exact ⟨K, P, M, a.of f, b⟩
section
variable {h : aH} {T : Nat → Nat} {n e k mo fo : Nat} {fa pl wh per : Int32}
theorem PCw.kO {β : Type} {y : Option β} (X : PCw h T n e fa pl k wh per mo fo) : kO h 51 6 y = y := kO_of (ltE (by decide)) X.1
theorem PCw.tok (X : PCw h T n e fa pl k wh per mo fo) : ∃ K P M, TW h (e + 1) K P M ∧ K k = jI (tokS T n k).1 ∧ P k = jI (tokS T n k).2.1 ∧ M k = mnI T (tokS T n k) ∧ e ≤ 400 := by
  obtain ⟨-, ⟨K, P, M, a, b, -, -, c⟩, hk, -, -⟩ := X
  obtain ⟨b1, b2, b3⟩ := b k (by omega)
  exact ⟨K, P, M, a, b1, b2, b3, c⟩
theorem kind_at (X : PCw h T n e fa pl k wh per mo fo) : s_X6_kind 51 h = some (.inl (some (.int (jI (tokS T n k).1))), h) := by
  obtain ⟨K, P, M, a, b1, b2, b3, c⟩ := X.tok
  have hk := X.2.2.1
  have r := X.1
  unfold s_X6_kind
  rw [gI_of (x := jI k) (k := 2) (ltE (by decide)) r rfl, Option.bind_some, gO_of (x := 52) (k := 7) (ltE (by decide)) r rfl, Option.bind_some, gI_of (x := jI (e + 1)) (k := 0) (ltE (by decide)) a.1 rfl, Option.bind_some, if_neg (fun z => by have := (jI_le (by omega) (by omega)).mp z; omega), Option.bind_some, gO_of (x := 53) (k := 1) (ltE (by decide)) a.1 rfl, Option.bind_some, Option.bind_some, ldI_of (ltE (by decide)) a.2.1 (by omega) (by decide), Option.bind_some, b1]
theorem meaning_at (X : PCw h T n e fa pl k wh per mo fo) : s_X6_meaning 51 h = some (.inl (some (.long (mnI T (tokS T n k)))), h) := by
  obtain ⟨K, P, M, a, b1, b2, b3, c⟩ := X.tok
  have hk := X.2.2.1
  have r := X.1
  unfold s_X6_meaning
  rw [gI_of (x := jI k) (k := 2) (ltE (by decide)) r rfl, Option.bind_some, gO_of (x := 52) (k := 7) (ltE (by decide)) r rfl, Option.bind_some, gI_of (x := jI (e + 1)) (k := 0) (ltE (by decide)) a.1 rfl, Option.bind_some, if_neg (fun z => by have := (jI_le (by omega) (by omega)).mp z; omega), Option.bind_some, gO_of (x := 55) (k := 3) (ltE (by decide)) a.1 rfl, Option.bind_some, Option.bind_some, ldJ_of (ltE (by decide)) a.2.2.2 (by omega) (by decide), Option.bind_some, b3]
theorem reserved_at (X : PCw h T n e fa pl k wh per mo fo) (hw : (tokS T n k).1 = 1) : s_X6_reserved 51 h = some (.inl (some (.int (oI (rsO (tkW T (tokS T n k)))))), h) := by
  obtain ⟨K, P, M, a, b1, b2, b3, c⟩ := X.tok
  have hk := X.2.2.1
  have r := X.1
  obtain ⟨w1, w2, -⟩ := tok_word hw
  unfold s_X6_reserved
  rw [gI_of (x := jI k) (k := 2) (ltE (by decide)) r rfl, Option.bind_some, gO_of (x := 52) (k := 7) (ltE (by decide)) r rfl, Option.bind_some, gI_of (x := jI (e + 1)) (k := 0) (ltE (by decide)) a.1 rfl, Option.bind_some, if_neg (fun z => by have := (jI_le (by omega) (by omega)).mp z; omega), Option.bind_some, gO_of (x := 55) (k := 3) (ltE (by decide)) a.1 rfl, Option.bind_some, Option.bind_some, ldJ_of (ltE (by decide)) a.2.2.2 (by omega) (by decide), Option.bind_some, b3, w2]
  exact rs33_go w1 h 8 0 FU rfl (by decide)
theorem RdW.set {i : Nat} {x : Int32} {at' : Int32} (r : RdW h fa pl at' wh per mo fo) (hi : i < 5) : pF h (.ref 51) 6 i (.int x) = some (h.set 51 (.inr (6, [.int (if i = 0 then x else fa), .int (if i = 1 then x else pl), .int (if i = 2 then x else at'), .int (if i = 3 then x else wh), .int (if i = 4 then x else per), .ref mo, .ref fo, .ref 52]))) := by
  match i, hi with
  | 0, _ => rw [pF_of (ltE (by decide)) r (show 0 < 8 by decide)]; rfl
  | 1, _ => rw [pF_of (ltE (by decide)) r (show 1 < 8 by decide)]; rfl
  | 2, _ => rw [pF_of (ltE (by decide)) r (show 2 < 8 by decide)]; rfl
  | 3, _ => rw [pF_of (ltE (by decide)) r (show 3 < 8 by decide)]; rfl
  | 4, _ => rw [pF_of (ltE (by decide)) r (show 4 < 8 by decide)]; rfl
/-- one token further -/
theorem PCw.adv (X : PCw h T n e fa pl k wh per mo fo) (hne : (tokS T n k).1 ≠ 0) : ∃ h', ((gI h (.ref 51) 6 2).bind fun x => pF h (.ref 51) 6 2 (.int (x + 1))) = some h' ∧ PCw h' T n e fa pl (k + 1) wh per mo fo ∧ (∀ i, i ≠ 51 → h'[i]? = h[i]?) ∧ h'.length = h.length := by
  obtain ⟨r, t, hk, hT, hn⟩ := X
  have lt : k < e := by
    obtain ⟨K, P, M, a, b, c, d, -⟩ := t
    by_cases q : k = e
    · rw [q] at hne; exact absurd c hne
    · omega
  refine ⟨_, ?_, ⟨set_eq r, t.of (fun i h1 h2 => set_ne (by omega)), by omega, hT, hn⟩, fun i hi => set_ne (fun z => hi z.symm), List.length_set ..⟩
  rw [gI_of (x := jI k) (k := 2) (ltE (by decide)) r rfl, Option.bind_some, r.set (i := 2) (by decide), jI_inc]
  rfl
theorem fail_at (X : PCw h T n e fa pl k wh per mo fo) (f : Nat) : ∃ h', s_X6_fail 51 (jI f) h = some (.inl (some (.int 0)), h') ∧ RdW h' (jI f) (jI (tokS T n k).2.1) (jI k) wh per mo fo ∧ (∀ i, i ≠ 51 → h'[i]? = h[i]?) ∧ h'.length = h.length := by
  obtain ⟨K, P, M, a, b1, b2, b3, c⟩ := X.tok
  have hk := X.2.2.1
  have r := X.1
  have e1 := r.set (i := 0) (x := jI f) (by decide)
  obtain ⟨h1, hh1⟩ : ∃ h1, h1 = h.set 51 (.inr (6, [.int (if 0 = 0 then jI f else fa), .int (if 0 = 1 then jI f else pl), .int (if 0 = 2 then jI f else jI k), .int (if 0 = 3 then jI f else wh), .int (if 0 = 4 then jI f else per), .ref mo, .ref fo, .ref 52])) := ⟨_, rfl⟩
  rw [← hh1] at e1
  have r1 : RdW h1 (jI f) pl (jI k) wh per mo fo := by rw [hh1]; exact set_eq r
  have t1 := keepC (k := 52) hh1 (by decide) a.1
  have t3 := keepC (k := 54) hh1 (by decide) a.2.2.1
  have e2 := r1.set (i := 1) (x := jI (tokS T n k).2.1) (by decide)
  refine ⟨_, ?_, set_eq r1, fun i hi => ?_, ?_⟩
  · unfold s_X6_fail
    rw [e1, Option.bind_some, gI_of (x := jI k) (k := 2) (ltE (by decide)) r1 rfl, Option.bind_some, gO_of (x := 52) (k := 7) (ltE (by decide)) r1 rfl, Option.bind_some, gI_of (x := jI (e + 1)) (k := 0) (ltE (by decide)) t1 rfl, Option.bind_some, if_neg (fun z => by have := (jI_le (by omega) (by omega)).mp z; omega), Option.bind_some, gO_of (x := 54) (k := 2) (ltE (by decide)) t1 rfl, Option.bind_some, Option.bind_some, ldI_of (ltE (by decide)) t3 (by omega) (by decide), Option.bind_some, b2]
    unfold s_X6_fail_36
    rw [e2, Option.bind_some]
    rfl
  · rw [set_ne (fun z => hi z.symm), hh1, set_ne (fun z => hi z.symm)]
  · rw [List.length_set, hh1, List.length_set]
theorem PCw.kd (X : PCw h T n e fa pl k wh per mo fo) (c : Nat) (hc : c < 256) : jI (tokS T n k).1 = jI c ↔ (tokS T n k).1 = c := by
  have := tok_kd X.2.2.2.1 n k
  exact jI_inj (by omega) (by omega)
theorem isWord_at (X : PCw h T n e fa pl k wh per mo fo) {i : Nat} (hi : i < 8) : s_X6_isWord 51 (jI i) h = some (.inl (some (.int (b01 (isWd T n i k)))), h) := by
  unfold s_X6_isWord isWd
  rw [X.kO, kind_at X]
  simp only [cI]
  by_cases q : (tokS T n k).1 = 1
  · rw [if_pos (show jI (tokS T n k).1 = 1 from (X.kd 1 (by decide)).mpr q), X.kO, reserved_at X q]
    simp only []
    by_cases q2 : rsO (tkW T (tokS T n k)) = some i
    · rw [if_pos (by rw [q2]; rfl), show decide ((tokS T n k).1 = 1 ∧ rsO (tkW T (tokS T n k)) = some i) = true from decide_eq_true ⟨q, q2⟩]
      rfl
    · rw [if_neg (fun z => q2 ((oI_eq (fun s hs => Nat.lt_of_lt_of_le (rsO_lt hs) (by decide)) (by omega)).mp z)), show decide ((tokS T n k).1 = 1 ∧ rsO (tkW T (tokS T n k)) = some i) = false from decide_eq_false (fun z => q2 z.2)]
      rfl
  · rw [if_neg (show ¬ jI (tokS T n k).1 = 1 from fun z => q ((X.kd 1 (by decide)).mp z)), show decide ((tokS T n k).1 = 1 ∧ rsO (tkW T (tokS T n k)) = some i) = false from decide_eq_false (fun z => q z.1)]
    rfl
end
