/-! words and wholes, as numbers -/
def wvl (b : Nat) (l : List Nat) : Nat := l.foldl (fun v d => v * b + d) 0
def rvl (b : Nat) : List Nat → Nat
  | [] => 0
  | d :: r => rvl b r * b + d
theorem rvl_inj {b : Nat} : ∀ (l l' : List Nat), (∀ d ∈ l, 1 ≤ d ∧ d < b) → (∀ d ∈ l', 1 ≤ d ∧ d < b) → rvl b l = rvl b l' → l = l'
  | [], [], _, _, _ => rfl
  | [], d :: r, _, h', e => by
    have := h' d (List.mem_cons_self ..)
    have e : 0 = rvl b r * b + d := e
    omega
  | d :: r, [], h, _, e => by
    have := h d (List.mem_cons_self ..)
    have e : rvl b r * b + d = 0 := e
    omega
  | d :: r, d' :: r', h, h', e => by
    have a := h d (List.mem_cons_self ..)
    have a' := h' d' (List.mem_cons_self ..)
    have e : rvl b r * b + d = rvl b r' * b + d' := e
    have e1 : d = d' := by
      have := congrArg (· % b) e
      rw [Nat.add_comm, Nat.add_mul_mod_self_right, Nat.add_comm, Nat.add_mul_mod_self_right, Nat.mod_eq_of_lt a.2, Nat.mod_eq_of_lt a'.2] at this
      exact this
    subst e1
    have e2 : rvl b r = rvl b r' := Nat.eq_of_mul_eq_mul_right (by omega) (Nat.add_right_cancel e)
    rw [rvl_inj r r' (fun x hx => h x (List.mem_cons_of_mem _ hx)) (fun x hx => h' x (List.mem_cons_of_mem _ hx)) e2]
theorem fold_rvl {b : Nat} : ∀ (l : List Nat) (acc : List Nat), l.foldl (fun v d => v * b + d) (rvl b acc) = rvl b (l.reverse ++ acc)
  | [], _ => rfl
  | d :: r, acc => by
    rw [List.foldl_cons, List.reverse_cons, List.append_assoc]
    exact fold_rvl r (d :: acc)
theorem wvl_rvl {b : Nat} (l : List Nat) : wvl b l = rvl b l.reverse := by
  have := fold_rvl (b := b) l []
  rw [List.append_nil] at this
  exact this
/-- a word: letters as 1 .. 26, at most eight -/
def okWo (l : List Nat) : Prop := (∀ d ∈ l, 1 ≤ d ∧ d < 27) ∧ l.length ≤ 8
theorem wvl_lt {b : Nat} : ∀ (l : List Nat) (k acc : Nat), (∀ d ∈ l, d < b) → acc < b ^ k → l.foldl (fun v d => v * b + d) acc < b ^ (k + l.length)
  | [], _, _, _, h => h
  | d :: r, k, acc, hd, h => by
    rw [List.foldl_cons]
    have q := hd d (List.mem_cons_self ..)
    have := wvl_lt r (k + 1) (acc * b + d) (fun x hx => hd x (List.mem_cons_of_mem _ hx)) (by
      have h1 : acc + 1 ≤ b ^ k := h
      have h2 : (acc + 1) * b ≤ b ^ k * b := Nat.mul_le_mul_right b h1
      rw [Nat.add_mul, Nat.one_mul] at h2
      rw [Nat.pow_succ]
      omega)
    rw [List.length_cons, show k + (r.length + 1) = k + 1 + r.length by omega]
    exact this
theorem wvl_b {b : Nat} (hb : b = 27 ∨ b = 32) {l : List Nat} (h : okWo l) : wvl b l < 2 ^ 40 := by
  have := wvl_lt (b := b) l 0 0 (fun d hd => by have := h.1 d hd; omega) (by simp)
  have h8 := h.2
  have : wvl b l < b ^ l.length := by
    rw [Nat.zero_add] at this
    exact this
  have p : b ^ l.length ≤ b ^ 8 := Nat.pow_le_pow_right (by omega) h8
  have q : b ^ 8 ≤ 2 ^ 40 := by rcases hb with rfl | rfl <;> decide
  omega
theorem wvl_inj {b : Nat} (hb : b = 27 ∨ b = 32) {l l' : List Nat} (h : okWo l) (h' : okWo l') : wvl b l = wvl b l' ↔ l = l' := by
  constructor
  · intro e
    rw [wvl_rvl, wvl_rvl] at e
    have := rvl_inj l.reverse l'.reverse (fun d hd => by have := h.1 d (List.mem_reverse.mp hd); omega) (fun d hd => by have := h'.1 d (List.mem_reverse.mp hd); omega) e
    exact List.reverse_inj.mp this
  · rintro rfl; rfl
theorem jL_inj {a b : Nat} (ha : a < 2 ^ 40) (hb : b < 2 ^ 40) : jL a = jL b ↔ a = b := by
  constructor
  · intro h
    have := congrArg Int64.toInt h
    rw [jL_int (by omega), jL_int (by omega)] at this
    omega
  · rintro rfl; rfl
/-- a word's number -/
def wL (b : Nat) (l : List Nat) : Int64 := jL (wvl b l)
theorem wL_inj {b : Nat} (hb : b = 27 ∨ b = 32) {l l' : List Nat} (h : okWo l) (h' : okWo l') : wL b l = wL b l' ↔ l = l' := by
  unfold wL
  rw [jL_inj (wvl_b hb h) (wvl_b hb h'), wvl_inj hb h h']
theorem cmp_eq {x y : Int64} : lg_cmp x y = 0 ↔ x = y := by
  unfold lg_cmp
  constructor
  · intro h
    by_cases q : x > y
    · rw [if_pos q] at h
      exact absurd h (by decide)
    · rw [if_neg q] at h
      by_cases q2 : x = y
      · exact q2
      · rw [if_neg q2] at h
        exact absurd h (by decide)
  · rintro rfl
    rw [if_neg (show ¬ x > x from fun z => Int64.lt_irrefl z), if_pos rfl]
/-- the letters of a piece of the tape; its digits as a number -/
def ltr (T : Nat → Nat) : Nat → Nat → List Nat
  | _, 0 => []
  | i, k + 1 => (T i - 96) :: ltr T (i + 1) k
def dgt (T : Nat → Nat) : Nat → Nat → List Nat
  | _, 0 => []
  | i, k + 1 => (T i - 48) :: dgt T (i + 1) k
theorem ltr_len (T : Nat → Nat) : ∀ (k i : Nat), (ltr T i k).length = k
  | 0, _ => rfl
  | k + 1, i => by
    show (ltr T (i + 1) k).length + 1 = k + 1
    rw [ltr_len T k]
theorem ltr_ok {T : Nat → Nat} : ∀ (k i : Nat), (∀ j, j < k → isLt (T (i + j)) = true) → ∀ d ∈ ltr T i k, 1 ≤ d ∧ d < 27
  | 0, _, _, d, hd => absurd hd List.not_mem_nil
  | k + 1, i, h, d, hd => by
    rcases List.mem_cons.mp hd with q | q
    · have := h 0 (by omega)
      unfold isLt at this
      rw [Bool.and_eq_true] at this
      have a := of_decide_eq_true this.1
      have b := of_decide_eq_true this.2
      rw [Nat.add_zero] at a b
      omega
    · exact ltr_ok k (i + 1) (fun j hj => by have := h (j + 1) (by omega); rw [show i + (j + 1) = i + 1 + j by omega] at this; exact this) d q
theorem dgt_len (T : Nat → Nat) : ∀ (k i : Nat), (dgt T i k).length = k
  | 0, _ => rfl
  | k + 1, i => by
    show (dgt T (i + 1) k).length + 1 = k + 1
    rw [dgt_len T k]
theorem dgt_ok {T : Nat → Nat} : ∀ (k i : Nat), (∀ j, j < k → isDg (T (i + j)) = true) → ∀ d ∈ dgt T i k, d < 10
  | 0, _, _, d, hd => absurd hd List.not_mem_nil
  | k + 1, i, h, d, hd => by
    rcases List.mem_cons.mp hd with q | q
    · have := h 0 (by omega)
      unfold isDg at this
      rw [Bool.and_eq_true] at this
      have a := of_decide_eq_true this.1
      have b := of_decide_eq_true this.2
      rw [Nat.add_zero] at a b
      omega
    · exact dgt_ok k (i + 1) (fun j hj => by have := h (j + 1) (by omega); rw [show i + (j + 1) = i + 1 + j by omega] at this; exact this) d q
theorem jL_add (a b : Nat) : jL a + jL b = jL (a + b) := by unfold jL; rw [Int64.ofNat_add]
theorem jL_mul (a b : Nat) : jL a * jL b = jL (a * b) := by unfold jL; rw [Int64.ofNat_mul]
theorem jI_L {a : Nat} (h : a < 2147483648) : (jI a).toInt64 = jL a := by
  apply Int64.toInt_inj.mp
  rw [Int32.toInt_toInt64, jI_int h, jL_int (by omega)]
theorem wdI_at {T : Nat → Nat} : ∀ (k i acc : Nat), (∀ j, j < k → isLt (T (i + j)) = true) → wdI T i k (jL acc) = jL ((ltr T i k).foldl (fun v d => v * 27 + d) acc)
  | 0, _, _, _ => rfl
  | k + 1, i, acc, h => by
    have q := h 0 (by omega)
    unfold isLt at q
    rw [Bool.and_eq_true, Nat.add_zero] at q
    have a := of_decide_eq_true q.1
    have b := of_decide_eq_true q.2
    have e : (((jL acc * 27) + (jI (T i)).toInt64) - 97) + 1 = jL (acc * 27 + (T i - 96)) := by
      rw [jI_L (by omega), show (27 : Int64) = jL 27 from rfl, jL_mul, jL_add, show acc * 27 + T i = (acc * 27 + (T i - 97)) + 97 by omega, ← jL_add, show (97 : Int64) = jL 97 from rfl, Int64.add_sub_cancel, show (1 : Int64) = jL 1 from rfl, jL_add]
      congr 1
      omega
    show wdI T (i + 1) k ((((jL acc * 27) + (jI (T i)).toInt64) - 97) + 1) = _
    rw [e, wdI_at k (i + 1) _ (fun j hj => by have := h (j + 1) (by omega); rw [show i + (j + 1) = i + 1 + j by omega] at this; exact this)]
    rfl
theorem w32I_at {T : Nat → Nat} : ∀ (k i acc : Nat), (∀ j, j < k → isLt (T (i + j)) = true) → w32I T i k (jL acc) = jL ((ltr T i k).foldl (fun v d => v * 32 + d) acc)
  | 0, _, _, _ => rfl
  | k + 1, i, acc, h => by
    have q := h 0 (by omega)
    unfold isLt at q
    rw [Bool.and_eq_true, Nat.add_zero] at q
    have a := of_decide_eq_true q.1
    have b := of_decide_eq_true q.2
    have e0 : (jI (T i) - 97) + 1 = jI (T i - 96) := by
      rw [show T i = (T i - 97) + 97 by omega, ← jI_add, show (97 : Int32) = jI 97 from rfl, Int32.add_sub_cancel, show (1 : Int32) = jI 1 from rfl, jI_add]
      congr 1
    have e : (32 * jL acc) + (((jI (T i) - 97) + 1).toInt64) = jL (acc * 32 + (T i - 96)) := by
      rw [e0, jI_L (by omega), show (32 : Int64) = jL 32 from rfl, jL_mul, jL_add, Nat.mul_comm]
    show w32I T (i + 1) k ((32 * jL acc) + (((jI (T i) - 97) + 1).toInt64)) = _
    rw [e, w32I_at k (i + 1) _ (fun j hj => by have := h (j + 1) (by omega); rw [show i + (j + 1) = i + 1 + j by omega] at this; exact this)]
    rfl
theorem whI_at {T : Nat → Nat} : ∀ (k i acc : Nat), (∀ j, j < k → isDg (T (i + j)) = true) → whI T i k (jL acc) = jL ((dgt T i k).foldl (fun v d => v * 10 + d) acc)
  | 0, _, _, _ => rfl
  | k + 1, i, acc, h => by
    have q := h 0 (by omega)
    unfold isDg at q
    rw [Bool.and_eq_true, Nat.add_zero] at q
    have a := of_decide_eq_true q.1
    have b := of_decide_eq_true q.2
    have e : ((jL acc * 10) + (jI (T i)).toInt64) - 48 = jL (acc * 10 + (T i - 48)) := by
      rw [jI_L (by omega), show (10 : Int64) = jL 10 from rfl, jL_mul, jL_add, show acc * 10 + T i = (acc * 10 + (T i - 48)) + 48 by omega, ← jL_add, show (48 : Int64) = jL 48 from rfl, Int64.add_sub_cancel]
    show whI T (i + 1) k (((jL acc * 10) + (jI (T i)).toInt64) - 48) = _
    rw [e, whI_at k (i + 1) _ (fun j hj => by have := h (j + 1) (by omega); rw [show i + (j + 1) = i + 1 + j by omega] at this; exact this)]
    rfl
theorem nuI_at {T : Nat → Nat} : ∀ (k i acc : Nat), (∀ j, j < k → isDg (T (i + j)) = true) → nuI T i k (jI acc) = jI ((dgt T i k).foldl (fun v d => v * 10 + d) acc)
  | 0, _, _, _ => rfl
  | k + 1, i, acc, h => by
    have q := h 0 (by omega)
    unfold isDg at q
    rw [Bool.and_eq_true, Nat.add_zero] at q
    have a := of_decide_eq_true q.1
    have b := of_decide_eq_true q.2
    have e : ((10 * jI acc) + jI (T i)) - 48 = jI (acc * 10 + (T i - 48)) := by
      rw [show (10 : Int32) = jI 10 from rfl, jI_mul, jI_add, show 10 * acc + T i = (acc * 10 + (T i - 48)) + 48 by omega, ← jI_add, show (48 : Int32) = jI 48 from rfl, Int32.add_sub_cancel]
    show nuI T (i + 1) k (((10 * jI acc) + jI (T i)) - 48) = _
    rw [e, nuI_at k (i + 1) _ (fun j hj => by have := h (j + 1) (by omega); rw [show i + (j + 1) = i + 1 + j by omega] at this; exact this)]
    rfl
/-- what a token means -/
def tkW (T : Nat → Nat) (x : Nat × Nat × Nat) : List Nat := ltr T x.2.1 x.2.2
def tkN (T : Nat → Nat) (x : Nat × Nat × Nat) : Nat := wvl 10 (dgt T x.2.1 x.2.2)
theorem lexR_mean (T : Nat → Nat) : ∀ (r i : Nat), ((lexR T i r).1 = 1 → (∀ j, j < (lexR T i r).2.2 → isLt (T ((lexR T i r).2.1 + j)) = true) ∧ 0 < (lexR T i r).2.2 ∧ (lexR T i r).2.2 ≤ 8) ∧ ((lexR T i r).1 = 2 → (∀ j, j < (lexR T i r).2.2 → isDg (T ((lexR T i r).2.1 + j)) = true) ∧ 0 < (lexR T i r).2.2 ∧ (lexR T i r).2.2 ≤ 3)
  | 0, i => ⟨fun h => absurd h (by show ¬ (0 : Nat) = 1; decide), fun h => absurd h (by show ¬ (0 : Nat) = 2; decide)⟩
  | r + 1, i => by
    have e : lexR T i (r + 1) = if T i = 32 then lexR T (i + 1) r else if isLt (T i) = true then (if spN isLt T i (r + 1) ≤ 8 then 1 else 3, i, spN isLt T i (r + 1)) else if isDg (T i) = true then (if spN isDg T i (r + 1) ≤ 3 then 2 else 3, i, spN isDg T i (r + 1)) else (if isSg (T i) = true then T i else 3, i, 1) := rfl
    rw [e]
    by_cases q : T i = 32
    · rw [if_pos q]
      exact lexR_mean T r (i + 1)
    · rw [if_neg q]
      by_cases q1 : isLt (T i) = true
      · rw [if_pos q1]
        have p : 0 < spN isLt T i (r + 1) := by
          show 0 < if isLt (T i) = true then _ else _
          rw [if_pos q1]; omega
        constructor
        · intro h
          dsimp only at h ⊢
          by_cases q8 : spN isLt T i (r + 1) ≤ 8
          · exact ⟨fun j hj => spN_all (r + 1) i j hj, p, q8⟩
          · rw [if_neg q8] at h; exact absurd h (by decide)
        · intro h
          dsimp only at h
          split at h <;> exact absurd h (by decide)
      · rw [if_neg q1]
        by_cases q2 : isDg (T i) = true
        · rw [if_pos q2]
          have p : 0 < spN isDg T i (r + 1) := by
            show 0 < if isDg (T i) = true then _ else _
            rw [if_pos q2]; omega
          constructor
          · intro h
            dsimp only at h
            split at h <;> exact absurd h (by decide)
          · intro h
            dsimp only at h ⊢
            by_cases q8 : spN isDg T i (r + 1) ≤ 3
            · exact ⟨fun j hj => spN_all (r + 1) i j hj, p, q8⟩
            · rw [if_neg q8] at h; exact absurd h (by decide)
        · rw [if_neg q2]
          constructor
          · intro h
            dsimp only at h
            by_cases q3 : isSg (T i) = true
            · rw [if_pos q3] at h
              have := of_decide_eq_true q3
              omega
            · rw [if_neg q3] at h; exact absurd h (by decide)
          · intro h
            dsimp only at h
            by_cases q3 : isSg (T i) = true
            · rw [if_pos q3] at h
              have := of_decide_eq_true q3
              omega
            · rw [if_neg q3] at h; exact absurd h (by decide)
theorem tok_word {T : Nat → Nat} {n k : Nat} (h : (tokS T n k).1 = 1) : okWo (tkW T (tokS T n k)) ∧ mnI T (tokS T n k) = wL 27 (tkW T (tokS T n k)) ∧ w32I T (tokS T n k).2.1 (tokS T n k).2.2 0 = wL 32 (tkW T (tokS T n k)) := by
  have q := (lexR_mean T (n - tkP T n k) (tkP T n k)).1
  rw [← tokS_P] at q
  obtain ⟨a, b, c⟩ := q h
  refine ⟨⟨ltr_ok _ _ a, by show (ltr T _ _).length ≤ 8; rw [ltr_len]; exact c⟩, ?_, w32I_at _ _ 0 a⟩
  unfold mnI
  have a0 := a 0 b
  rw [Nat.add_zero] at a0
  rw [if_neg (by omega), if_pos a0]
  exact wdI_at _ _ 0 a
theorem tok_whole {T : Nat → Nat} {n k : Nat} (h : (tokS T n k).1 = 2) : tkN T (tokS T n k) < 1000 ∧ mnI T (tokS T n k) = jL (tkN T (tokS T n k)) ∧ nuI T (tokS T n k).2.1 (tokS T n k).2.2 0 = jI (tkN T (tokS T n k)) := by
  have q := (lexR_mean T (n - tkP T n k) (tkP T n k)).2
  rw [← tokS_P] at q
  obtain ⟨a, b, c⟩ := q h
  refine ⟨?_, ?_, nuI_at _ _ 0 a⟩
  · have w := wvl_lt (b := 10) (dgt T (tokS T n k).2.1 (tokS T n k).2.2) 0 0 (fun d hd => dgt_ok _ _ a d hd) (by simp)
    rw [dgt_len, Nat.zero_add] at w
    have p : 10 ^ (tokS T n k).2.2 ≤ 10 ^ 3 := Nat.pow_le_pow_right (by omega) c
    have : tkN T (tokS T n k) < 10 ^ (tokS T n k).2.2 := w
    omega
  · unfold mnI
    have a0 := a 0 b
    rw [Nat.add_zero] at a0
    have nl : ¬ isLt (T (tokS T n k).2.1) = true := fun z => by
      unfold isLt at z
      unfold isDg at a0
      rw [Bool.and_eq_true] at z a0
      have z1 := of_decide_eq_true z.1
      have z2 := of_decide_eq_true a0.2
      omega
    rw [if_neg (by omega), if_neg nl, if_pos a0]
    exact whI_at _ _ 0 a
/-! the words that are kept -/
def resW : List (List Nat) := [[19, 20, 1, 20, 5], [16, 21, 19, 8], [23, 15, 18, 12, 4], [14, 21, 13], [19, 9, 7, 8, 20], [20, 15], [9, 6], [1, 14, 4]]
def resA (i : Nat) : List Nat := resW.getD i []
/-- which of the eight -/
def rsG (w : List Nat) : Nat → Nat → Option Nat
  | _, 0 => none
  | i, n + 1 => if resA i = w then some i else rsG w (i + 1) n
def rsO (w : List Nat) : Option Nat := rsG w 0 8
def oI (x : Option Nat) : Int32 := match x with
  | none => -1
  | some s => jI s
theorem res_27 : ∀ i, i < 8 → aRES i = wL 27 (resA i) := by decide
theorem res_ok : ∀ i, i < 8 → okWo (resA i) := by
  unfold okWo
  decide
theorem rs33_go {w : List Nat} (hw : okWo w) (h : aH) : ∀ (n i f : Nat), i + n = 8 → n < f → s_X6_reserved_33 f (wL 27 w) (jI i) h = some (.inl (some (.int (oI (rsG w i n)))), h)
  | _, _, 0, _, hf => by omega
  | 0, i, f + 1, hi, hf => by
    show s_X6_reserved_33_b (s_X6_reserved_33 f) (wL 27 w) (jI i) h = _
    unfold s_X6_reserved_33_b
    have l : lnA h (.ref (aE + 3)) = some 8 := rfl
    rw [l, Option.bind_some, if_pos (show (8 : Int32) ≤ jI i from (jI_le (j := 8) (by omega) (by omega)).mpr (by omega))]
    rfl
  | n + 1, i, f + 1, hi, hf => by
    show s_X6_reserved_33_b (s_X6_reserved_33 f) (wL 27 w) (jI i) h = _
    unfold s_X6_reserved_33_b
    have l : lnA h (.ref (aE + 3)) = some 8 := rfl
    have e0 : rsG w i (n + 1) = if resA i = w then some i else rsG w (i + 1) n := rfl
    rw [l, Option.bind_some, if_neg (show ¬ (8 : Int32) ≤ jI i from fun z => by have := (jI_le (j := 8) (by omega) (by omega)).mp z; omega), RES_of (by omega), Option.bind_some, res_27 i (by omega), e0]
    by_cases q : resA i = w
    · rw [if_pos (cmp_eq.mpr (by rw [q])), if_pos q]
      rfl
    · rw [if_neg (fun z => q ((wL_inj (Or.inl rfl) (res_ok i (by omega)) hw).mp (cmp_eq.mp z))), if_neg q, jI_inc]
      exact rs33_go hw h n (i + 1) f (by omega) (by omega)
