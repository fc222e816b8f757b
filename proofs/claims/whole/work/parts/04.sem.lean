def aE : Nat := 1000000000000
def aA (B0 : Nat) : Nat → Prop := fun q => B0 ≤ q
abbrev aC : Type := (FieldType × vp_A) ⊕ (Nat × List Value)
abbrev aH : Type := List aC
abbrev aR : Type := Option Value ⊕ (String × Nat)
abbrev aO : Type := Option (aR × aH)
abbrev aP : Type := Option (aR × aH × Nat × Nat)
def aTB : List Cond := lw_tbl.filter goodWord
theorem aTB_of {w : Cond} (h : w ∈ lw_tbl) (g : goodWord w = true) : w ∈ aTB := List.mem_filter.mpr ⟨h, g⟩
theorem aTB_good : GoodIn aTB aTB := fun w h => ⟨h, good_of_word (List.mem_filter.mp h).2⟩
theorem aTB_ws {w : Cond} (h : w ∈ aTB) : GoodIn aTB (w :: aTB) := fun v hv => (List.mem_cons.mp hv).elim (fun e => by rw [e]; exact aTB_good w h) (aTB_good v)
def aNs (w : Cond) : Bool := match w with
  | .fieldLinkNest .. => true
  | .methodLinkNest .. => true
  | .castable .. => true
  | _ => false
/-- values: a reference by its number in the world, or an outer one -/
def aV (X : Nat → Nat) (ws : va_W) (x v : Value) : Prop := match x with
  | .ref i => (i < aE ∧ ∃ (a : Nat) (e : va_E), ws[i]? = some (a, e) ∧ v = .ref a) ∨ (aE < i ∧ v = .ref (X i)) ∨ (i = aE ∧ ∃ q, v = .ref q)
  | y => v = y
def aVs (X : Nat → Nat) (ws : va_W) : List Value → List Value → Prop
  | [], vs => vs = []
  | x :: xs, vs => ∃ v vs', vs = v :: vs' ∧ aV X ws x v ∧ aVs X ws xs vs'
def aVo (X : Nat → Nat) (ws : va_W) : Option Value → Option Value → Prop
  | none, o => o = none
  | some x, o => ∃ v, o = some v ∧ aV X ws x v
def aXt (ws ws' : va_W) : Prop := ∀ (i a : Nat) (e : va_E), ws[i]? = some (a, e) → ∃ e' : va_E, ws'[i]? = some (a, e')
theorem aXt.refl {ws : va_W} : aXt ws ws := fun _ _ e h => ⟨e, h⟩
theorem aXt.trans {w1 w2 w3 : va_W} (h1 : aXt w1 w2) (h2 : aXt w2 w3) : aXt w1 w3 := fun i a e h => by
  obtain ⟨e', h'⟩ := h1 i a e h
  exact h2 i a e' h'
theorem aXt.set {ws : va_W} {k a : Nat} {e e2 : va_E} (h : ws[k]? = some (a, e)) : aXt ws (ws.set k (a, e2)) := fun i b e3 hi => by
  by_cases q : k = i
  · subst q
    have hk : k < ws.length := (List.getElem?_eq_some_iff.mp h).1
    rw [h] at hi
    cases hi
    exact ⟨e2, by simp [hk]⟩
  · exact ⟨e3, by rw [List.getElem?_set_ne q]; exact hi⟩
theorem aXt.app {ws : va_W} {w2 : va_W} : aXt ws (ws ++ w2) := fun i a e h => ⟨e, by
  rw [List.getElem?_append_left (List.getElem?_eq_some_iff.mp h).1]; exact h⟩
theorem aV.mono {X : Nat → Nat} {ws ws' : va_W} {x v : Value} (hx : aXt ws ws') (h : aV X ws x v) : aV X ws' x v := by
  cases x with
  | ref i =>
    rcases h with ⟨h0, a, e, h1, h2⟩ | h
    · obtain ⟨e', h'⟩ := hx i a e h1
      exact Or.inl ⟨h0, a, e', h', h2⟩
    · exact Or.inr h
  | _ => exact h
theorem aVs.mono {X : Nat → Nat} {ws ws' : va_W} (hx : aXt ws ws') : ∀ {xs vs : List Value}, aVs X ws xs vs → aVs X ws' xs vs
  | [], _, h => h
  | _ :: _, _, ⟨v, vs', e, h1, h2⟩ => ⟨v, vs', e, h1.mono hx, aVs.mono hx h2⟩
theorem aVo.mono {X : Nat → Nat} {ws ws' : va_W} (hx : aXt ws ws') : ∀ {o p : Option Value}, aVo X ws o p → aVo X ws' o p
  | none, _, h => h
  | some _, _, ⟨v, e, h⟩ => ⟨v, e, h.mono hx⟩
theorem aV.cat {X : Nat → Nat} {ws : va_W} {x v : Value} (h : aV X ws x v) : v.category = x.category := by
  cases x with
  | ref i => rcases h with ⟨-, a, e, -, rfl⟩ | ⟨-, rfl⟩ | ⟨-, q, rfl⟩ <;> rfl
  | _ => cases h; rfl
theorem aVs.len {X : Nat → Nat} {ws : va_W} : ∀ {xs vs : List Value}, aVs X ws xs vs → vs.length = xs.length
  | [], _, h => by cases h; rfl
  | _ :: _, _, ⟨v, vs', e, _, h2⟩ => by subst e; simp [h2.len]
theorem aVs.cats {X : Nat → Nat} {ws : va_W} : ∀ {xs vs : List Value}, aVs X ws xs vs → (vs.map fun v => v.category).sum = (xs.map fun v => v.category).sum
  | [], _, h => by cases h; rfl
  | _ :: _, _, ⟨v, vs', e, h1, h2⟩ => by subst e; simp only [List.map_cons, List.sum_cons]; rw [h2.cats, h1.cat]
theorem aVs.get {X : Nat → Nat} {ws : va_W} : ∀ {xs vs : List Value} {k : Nat} {x : Value}, aVs X ws xs vs → xs[k]? = some x → ∃ v, vs[k]? = some v ∧ aV X ws x v
  | [], _, _, _, _, hk => by simp at hk
  | y :: _, _, 0, x, ⟨v, vs', e, h1, _⟩, hk => by
    subst e
    simp at hk
    subst hk
    exact ⟨v, rfl, h1⟩
  | _ :: _, _, k + 1, x, ⟨v, vs', e, _, h2⟩, hk => by
    subst e
    simp at hk
    simpa using h2.get hk
theorem aVs.set {X : Nat → Nat} {ws : va_W} : ∀ {xs vs : List Value} {k : Nat} {x v : Value}, aVs X ws xs vs → aV X ws x v → aVs X ws (xs.set k x) (vs.set k v)
  | [], _, _, _, _, h, _ => by cases h; exact rfl
  | _ :: _, _, 0, x, v, ⟨w, vs', e, _, h2⟩, hv => by subst e; exact ⟨v, vs', rfl, hv, h2⟩
  | _ :: _, _, k + 1, x, v, ⟨w, vs', e, h1, h2⟩, hv => by subst e; exact ⟨w, vs'.set k v, rfl, h1, h2.set hv⟩
theorem aVs.app {X : Nat → Nat} {ws : va_W} : ∀ {xs vs ys us : List Value}, aVs X ws xs vs → aVs X ws ys us → aVs X ws (xs ++ ys) (vs ++ us)
  | [], _, _, _, h, h2 => by cases h; exact h2
  | _ :: _, _, _, _, ⟨w, vs', e, h1, h⟩, h2 => by subst e; exact ⟨w, _, rfl, h1, h.app h2⟩
theorem aVs.split {X : Nat → Nat} {ws : va_W} : ∀ {xs ys vs : List Value}, aVs X ws (xs ++ ys) vs → ∃ v1 v2, vs = v1 ++ v2 ∧ aVs X ws xs v1 ∧ aVs X ws ys v2
  | [], ys, vs, h => ⟨[], vs, rfl, rfl, h⟩
  | _ :: _, ys, vs, ⟨w, vs', e, h1, h⟩ => by
    obtain ⟨v1, v2, e2, a1, a2⟩ := h.split
    exact ⟨w :: v1, v2, by rw [e, e2]; rfl, ⟨w, v1, rfl, h1, a1⟩, a2⟩
theorem aVs.rev {X : Nat → Nat} {ws : va_W} : ∀ {xs vs : List Value}, aVs X ws xs vs → aVs X ws xs.reverse vs.reverse
  | [], _, h => by cases h; exact rfl
  | x :: _, _, ⟨w, vs', e, h1, h⟩ => by
    subst e
    rw [List.reverse_cons, List.reverse_cons]
    exact h.rev.app ⟨w, [], rfl, h1, rfl⟩
/-- a cell, and how the machine has it -/
def aMt (X : Nat → Nat) (ws : va_W) (tys : List (ClassId × FieldType)) (c : aC) (e : va_E) : Prop := match c, e with
  | .inl (ty, a), .inl (cA, a') => a' = a ∧ ∃ t0 : Nat, tys[t0]? = some (cA, ty)
  | .inr (ci, fs), .inr (ci', fs') => ci' = ci ∧ aVs X ws fs fs'
  | _, _ => False
theorem aMt.mono {X : Nat → Nat} {ws ws' : va_W} {tys t2 : List (ClassId × FieldType)} {c : aC} {e : va_E} (hx : aXt ws ws') (h : aMt X ws tys c e) : aMt X ws' (tys ++ t2) c e := by
  match c, e, h with
  | .inl (ty, a), .inl (cA, a'), ⟨h1, t0, h2⟩ => exact ⟨h1, t0, by rw [List.getElem?_append_left (List.getElem?_eq_some_iff.mp h2).1]; exact h2⟩
  | .inr (ci, fs), .inr (ci', fs'), ⟨h1, h2⟩ => exact ⟨h1, h2.mono hx⟩
/-- the world: every cell of h stands in the machine's heap -/
def aw (D : va_G) (B0 : Nat) (X : Nat → Nat) (h : aH) (ws : va_W) (U : State) (H : Heap) : Prop :=
  va_P D vwCl ws H ∧ va_D (aA B0) ws ∧ ws.length = h.length ∧ ∃ tys, va_K D vwCl tys U ∧ ∀ (i : Nat) (c : aC), h[i]? = some c → ∃ (a : Nat) (e : va_E), ws[i]? = some (a, e) ∧ aMt X ws tys c e
theorem aw.moved {D : va_G} {B0 : Nat} {X : Nat → Nat} {h : aH} {ws : va_W} {u U : State} {H : Heap} (hvm : u.vm.Alike U.vm) (w : aw D B0 X h ws u H) : aw D B0 X h ws U H := by
  obtain ⟨h1, h2, h3, tys, h4, h5⟩ := w
  exact ⟨h1, h2, h3, tys, va_K.moved hvm h4, h5⟩
def aBASE (j : Nat) : Int32 := if j = 0 then 0 else if j = 1 then 3 else if j = 2 then 5 else if j = 3 then 7 else 9
def aMOST (j : Nat) : Int32 := if j = 0 then 3 else 2
def aRES (j : Nat) : Int64 := if j = 0 then 10492313 else if j = 1 then 330758 else if j = 2 then 12531838 else if j = 3 then 10786 else if j = 4 then 10279865 else if j = 5 then 555 else if j = 6 then 249 else 1111
def aTxt : List (Nat × String) := [(223, "state"), (229, "push"), (231, "world"), (233, "num"), (235, "sight"), (240, "to"), (242, "if"), (244, "and")]
def aTxL : List Nat := [5, 4, 5, 3, 5, 2, 2, 3]
def aTxB : List (List Int32) := [[115, 116, 97, 116, 101], [112, 117, 115, 104], [119, 111, 114, 108, 100], [110, 117, 109], [115, 105, 103, 104, 116], [116, 111], [105, 102], [97, 110, 100]]
/-- what lies outside the world and is only read -/
def aX (B0 : Nat) (X : Nat → Nat) (U : State) (H : Heap) : Prop :=
  (∀ w ∈ lw_tbl, aNs w = true → va_Nw w U) ∧
  (va_Z "SteeringHouse" "BASE" "[I" (.ref (X (aE + 1))) (aA B0) U H ∧ va_T .int (X (aE + 1)) 5 (fun j => .int (aBASE j)) (aA B0) U H) ∧
  (va_Z "SteeringHouse" "MOST" "[I" (.ref (X (aE + 2))) (aA B0) U H ∧ va_T .int (X (aE + 2)) 5 (fun j => .int (aMOST j)) (aA B0) U H) ∧
  (va_Z "SteeringHouse$Reader" "RESERVED" "[J" (.ref (X (aE + 3))) (aA B0) U H ∧ va_T .long (X (aE + 3)) 8 (fun j => .long (aRES j)) (aA B0) U H) ∧
  (vx_Zq Bundle.tN "UNASSIGNED_STACK" Bundle.steD (aA B0) U H ∧ vx_Zq Bundle.tN "SUPPRESSED_SENTINEL" Bundle.listD (aA B0) U H) ∧
  (va_Z "java/lang/String" "COMPACT_STRINGS" "Z" (.int 1) (aA B0) U H ∧ vk_S 8 aTxL aTxB (fun i => X (aE + 10 + i)) (fun i => X (aE + 20 + i)) (aA B0) U H) ∧
  (∀ (k i : Nat) (t : String), aTxt[k]? = some (i, t) → vk_R "SteeringHouseModel" i t (X (aE + 10 + k)) U) ∧ vk_R "SteeringHouse" 266 "no such world" (X (aE + 9)) U ∧ va_Zq "jdk/internal/util/Preconditions" "SIOOBE_FORMATTER" "Ljava/util/function/BiFunction;" (aA B0) U H ∧ B0 ≤ H.size
theorem aX.warm {B0 : Nat} {X : Nat → Nat} {s U : State} {H : Heap} (hW : s.WarmedH U.vm) (h : aX B0 X s H) : aX B0 X U H := by
  obtain ⟨h1, ⟨a1, a2⟩, ⟨b1, b2⟩, ⟨c1, c2⟩, ⟨d1, d2⟩, ⟨e1, e2⟩, f1, f2, f4, f3⟩ := h
  have al := hW.alike
  refine ⟨fun w hw hn => ?_, ⟨a1.moved al, a2.moved al⟩, ⟨b1.moved al, b2.moved al⟩, ⟨c1.moved al, c2.moved al⟩, ⟨d1.moved al, d2.moved al⟩, ⟨e1.moved al, e2.moved al⟩, fun k i t hk => (f1 k i t hk).warm hW, f2.warm hW, f4.moved al, f3⟩
  have h9 := h1 w hw hn
  cases w <;> first | exact va_Nw.warmF hW h9 | exact va_Nw.warmM hW h9 | exact va_Nw.warmC hW h9 | (exact absurd hn (by simp [aNs]))
theorem aX.kept {B0 : Nat} {X : Nat → Nat} {s : State} {H H1 : Heap} (hz : H.size ≤ H1.size) (hq : ∀ a : Nat, a < H.size → ¬ aA B0 a → H1[a]? = H[a]?) (h : aX B0 X s H) : aX B0 X s H1 := by
  obtain ⟨h1, ⟨a1, a2⟩, ⟨b1, b2⟩, ⟨c1, c2⟩, ⟨d1, d2⟩, ⟨e1, e2⟩, f1, f2, f4, f3⟩ := h
  exact ⟨h1, ⟨a1.kept hq, a2.kept hq⟩, ⟨b1.kept hq, b2.kept hq⟩, ⟨c1.kept hq, c2.kept hq⟩, ⟨d1.kept hq, d2.kept hq⟩, ⟨e1.kept hq, e2.kept hq⟩, f1, f2, f4.kept hq, Nat.le_trans f3 hz⟩
theorem aX.call {B0 : Nat} {X : Nat → Nat} {U : State} {g : JFrame} {mk : MethodId} {a : Array Value} (h : aX B0 X U U.heap) : aX B0 X (U.calling g mk a) (U.calling g mk a).heap := aX.warm (s := U) (U := U.calling g mk a) (State.WarmedH.refl U) h
theorem aw.call {D : va_G} {B0 : Nat} {X : Nat → Nat} {h : aH} {ws : va_W} {U : State} {g : JFrame} {mk : MethodId} {a : Array Value} (w : aw D B0 X h ws U U.heap) : aw D B0 X h ws (U.calling g mk a) (U.calling g mk a).heap := aw.moved (u := U) (U := U.calling g mk a) (Vm.Alike.refl U.vm) w
/-- locals -/
def aL (X : Nat → Nat) (ws : va_W) (nL : Nat) (L : List (Option Value)) (ls : Array Slot) : Prop := ls.size = nL ∧ lv_wf ls ∧ ∀ (i : Nat) (x : Value), L[i]? = some (some x) → ∃ v : Value, ls[i]? = some (.val v) ∧ aV X ws x v
theorem aL.mono {X : Nat → Nat} {ws ws' : va_W} {nL : Nat} {L : List (Option Value)} {ls : Array Slot} (hx : aXt ws ws') (h : aL X ws nL L ls) : aL X ws' nL L ls := ⟨h.1, h.2.1, fun i x hi => by
  obtain ⟨v, h1, h2⟩ := h.2.2 i x hi
  exact ⟨v, h1, h2.mono hx⟩⟩
theorem aL.at {X : Nat → Nat} {ws : va_W} {nL : Nat} {L : List (Option Value)} {ls : Array Slot} (h : aL X ws nL L ls) {i : Nat} {x : Value} (hi : L[i]? = some (some x)) : ∃ v, ls[i]? = some (.val v) ∧ aV X ws x v := h.2.2 i x hi
def aLv (ls : Array Slot) : List (Nat × Value) := (List.range ls.size).filterMap fun i : Nat => match ls[i]? with
  | some (.val v) => some (i, v)
  | _ => none
theorem aLv_mem {ls : Array Slot} {i : Nat} {v : Value} (h : ls[i]? = some (.val v)) : (i, v) ∈ aLv ls := List.mem_filterMap.mpr ⟨i, List.mem_range.mpr (Array.getElem?_eq_some_iff.mp h).1, by rw [h]⟩
theorem aLv_has {ls : Array Slot} {nL : Nat} (h : ls.size = nL) (hw : lv_wf ls) : lv_has ls nL (aLv ls) := ⟨h, hw, fun q hq => by
  obtain ⟨i, -, hi⟩ := List.mem_filterMap.mp hq
  split at hi
  · rename_i v hv
    cases hi
    exact hv
  · cases hi⟩
def aPut : List (Option Value) → Nat → Value → List (Option Value)
  | [], _, _ => []
  | _ :: L, 0, x => some x :: L
  | o :: L, 1, x => (match o with | some (.long _) => none | some (.double _) => none | o => o) :: aPut L 0 x
  | o :: L, i + 2, x => o :: aPut L (i + 1) x
theorem aPut_at : ∀ {L : List (Option Value)} {i j : Nat} {x y : Value}, (aPut L i x)[j]? = some (some y) → (j = i ∧ y = x) ∨ (j ≠ i ∧ L[j]? = some (some y) ∧ ¬ (j + 1 = i ∧ y.category = 2))
  | [], _, _, _, _, h => by simp [aPut] at h
  | _ :: L, 0, 0, x, y, h => by
    simp [aPut] at h
    exact Or.inl ⟨rfl, h.symm⟩
  | _ :: L, 0, j + 1, x, y, h => by
    simp [aPut] at h
    exact Or.inr ⟨by omega, by simpa using h, by omega⟩
  | o :: L, 1, 0, x, y, h => by
    refine Or.inr ⟨by omega, ?_, ?_⟩
    · cases o with
      | none => simp [aPut] at h
      | some v => cases v <;> simp_all [aPut]
    · rintro ⟨-, hc⟩
      cases o with
      | none => simp [aPut] at h
      | some v =>
        cases v <;> simp [aPut] at h <;> (subst h; simp [Value.category] at hc)
  | o :: L, 1, j + 1, x, y, h => by
    have h' : (aPut L 0 x)[j]? = some (some y) := by simpa [aPut] using h
    rcases aPut_at h' with ⟨e1, e2⟩ | ⟨e1, e2, e3⟩
    · exact Or.inl ⟨by omega, e2⟩
    · exact Or.inr ⟨by omega, by simpa using e2, by omega⟩
  | o :: L, i + 2, 0, x, y, h => by
    simp [aPut] at h
    exact Or.inr ⟨by omega, by simp [h], by omega⟩
  | o :: L, i + 2, j + 1, x, y, h => by
    have h' : (aPut L (i + 1) x)[j]? = some (some y) := by simpa [aPut] using h
    rcases aPut_at h' with ⟨e1, e2⟩ | ⟨e1, e2, e3⟩
    · exact Or.inl ⟨by omega, e2⟩
    · exact Or.inr ⟨by omega, by simpa using e2, fun ⟨q1, q2⟩ => e3 ⟨by omega, q2⟩⟩
/-- a value of two words: the next place holds nothing any more -/
def aPut2 (L : List (Option Value)) (i : Nat) (x : Value) : List (Option Value) := (aPut L i x).set (i + 1) none
theorem aL.put {X : Nat → Nat} {ws : va_W} {nL i : Nat} {L : List (Option Value)} {ls ls' : Array Slot} {x v : Value} (h : aL X ws nL L ls) (hv : aV X ws x v)
    (h' : lv_has ls' nL ((i, v) :: (aLv ls).filter (fun q => !(q.1 == i) && !(q.1 + 1 == i && q.2.category == 2)))) : aL X ws nL (aPut L i x) ls' := by
  refine ⟨h'.1, h'.2.1, fun j y hj => ?_⟩
  rcases aPut_at hj with ⟨rfl, rfl⟩ | ⟨e1, e2, e3⟩
  · exact ⟨v, h'.2.2 (j, v) List.mem_cons_self, hv⟩
  · obtain ⟨w, g1, g2⟩ := h.2.2 j y e2
    refine ⟨w, h'.2.2 (j, w) (List.mem_cons_of_mem _ (List.mem_filter.mpr ⟨aLv_mem g1, ?_⟩)), g2⟩
    have hc : w.category = y.category := g2.cat
    simp only [Bool.and_eq_true, Bool.not_eq_true', beq_eq_false_iff_ne, Bool.and_eq_false_imp, beq_iff_eq]
    refine ⟨e1, fun q => ?_⟩
    rw [hc]
    exact fun q2 => e3 ⟨q, q2⟩
theorem aL.put2 {X : Nat → Nat} {ws : va_W} {nL i : Nat} {L : List (Option Value)} {ls ls' : Array Slot} {x v : Value} (h : aL X ws nL L ls) (hv : aV X ws x v)
    (h' : lv_has ls' nL ((i, v) :: (aLv ls).filter (fun q => !(q.1 == i) && (!(q.1 == i + 1) && !(q.1 + 1 == i && q.2.category == 2))))) : aL X ws nL (aPut2 L i x) ls' := by
  refine ⟨h'.1, h'.2.1, fun j y hj => ?_⟩
  have hne : j ≠ i + 1 := by
    rintro rfl
    unfold aPut2 at hj
    by_cases hl : i + 1 < (aPut L i x).length
    · rw [List.getElem?_set_self hl] at hj
      cases hj
    · rw [List.getElem?_eq_none (by simp; omega)] at hj
      cases hj
  have hj' : (aPut L i x)[j]? = some (some y) := by
    unfold aPut2 at hj
    rwa [List.getElem?_set_ne (fun q => hne q.symm)] at hj
  rcases aPut_at hj' with ⟨rfl, rfl⟩ | ⟨e1, e2, e3⟩
  · exact ⟨v, h'.2.2 (j, v) List.mem_cons_self, hv⟩
  · obtain ⟨w, g1, g2⟩ := h.2.2 j y e2
    refine ⟨w, h'.2.2 (j, w) (List.mem_cons_of_mem _ (List.mem_filter.mpr ⟨aLv_mem g1, ?_⟩)), g2⟩
    have hc : w.category = y.category := g2.cat
    simp only [Bool.and_eq_true, Bool.not_eq_true', beq_eq_false_iff_ne, Bool.and_eq_false_imp, beq_iff_eq]
    refine ⟨e1, hne, fun q => ?_⟩
    rw [hc]
    exact fun q2 => e3 ⟨q, q2⟩
