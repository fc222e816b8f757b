/-- what a method has ended with -/
def aQc (D : va_G) (B0 : Nat) (X : Nat → Nat) (ws0 : va_W) (r : aR) (h' : aH) : Array Value → State → Outcome → State → Prop := fun _ st o t =>
  va_F (aA B0) st t ∧ ∃ (v v' : Option Value) (ws' : va_W), r = .inl v ∧ o = .returned v' ∧ aVo X ws' v v' ∧ aXt ws0 ws' ∧ aw D B0 X h' ws' t t.heap
def aXc (D : va_G) (B0 : Nat) (X : Nat → Nat) (ws0 : va_W) (r : aR) (h' : aH) : String → Addr → State → State → Prop := fun E q st t =>
  va_F (aA B0) st t ∧ ∃ (i : Nat) (ws' : va_W), r = .inr (E, i) ∧ aV X ws' (.ref i) (.ref q) ∧ aXt ws0 ws' ∧ aw D B0 X h' ws' t t.heap
/-- a method's contract at these arguments and this world: it ends with r, the world is h' -/
def Mt (y : MethodName) (wy : List Cond) (fr lo mc ms : Nat) (xs : List Value) (h : aH) (r : aR) (h' : aH) : Prop :=
  ∀ (l : Launch) (D : va_G) (B0 : Nat) (X : Nat → Nat) (ws : va_W) (vs : List Value), l.stackTraces = false → aVs X ws xs vs →
    vx_Met l y wy { frames := fr, cells := mc, slots := ms, locals := lo } (fun a U => a = vs.toArray ∧ aw D B0 X h ws U U.heap ∧ aX B0 X U U.heap) (aQc D B0 X ws r h') (aXc D B0 X ws r h') mc ms (aA B0)
/-- what a body stands on -/
def Cx (p : Program) (l : Launch) (s : State) (m : MethodId) (args : Array Value) (meth : Method) (c : Code) (B0 : Nat) (X : Nat → Nat) (own nm : String) (cc : ByteArray) (nL : Nat) (ret : Option FieldType) (hh : List (Nat × Nat × Nat × Nat)) : Prop :=
  p.tables.exec = Jvm.exec ∧ c.code = cc ∧ c.maxLocals = nL ∧ s.vm.findClass own = some m.cls ∧ (∀ w ∈ aTB, w.before args s = true) ∧ meth.locks = false ∧ meth.sig.returnType = ret ∧ l.stackTraces = false ∧ aX B0 X s s.heap ∧ c.exceptionTable.toList = tableOf hh ∧ meth.name = nm
def Ev (p : Program) (l : Launch) (e : Env) (R : Room) (s : State) (m : MethodId) (args : Array Value) (below : List Frame) (meth : Method) (c : Code) (D : va_G) (B0 : Nat) (X : Nat → Nat) (ws0 : va_W) (r : aR) (h' : aH) (mc ms nL cells slots pc : Nat) (L : List (Option Value)) (st : List Value) (h : aH) : Prop :=
  ∀ (ws : va_W) (H : Heap) (locs : List Loc) (ls : Array Slot) (mst : List Value), aXt ws0 ws → aw D B0 X h ws s H → va_S (aA B0) s.heap H locs → aL X ws nL L ls → aVs X ws st mst →
    W p l e R s m args below meth c H locs cells slots (vx_MQ below (aQc D B0 X ws0 r h') (aXc D B0 X ws0 r h') args s mc ms (aA B0)) (F0 m pc ls mst)
def aArgs : List Value → List (Option Value)
  | [] => []
  | x :: xs => if x.category = 2 then some x :: none :: aArgs xs else some x :: aArgs xs
theorem aArgs_at {X : Nat → Nat} {ws : va_W} : ∀ {xs vs : List Value} {o i : Nat} {x : Value}, aVs X ws xs vs → (aArgs xs)[i]? = some (some x) → ∃ v, (o + i, v) ∈ lv_args o vs ∧ aV X ws x v
  | [], _, _, _, _, _, h => by simp [aArgs] at h
  | y :: ys, _, o, i, x, ⟨w, vs', e, h1, h2⟩, h => by
    subst e
    unfold aArgs at h
    unfold lv_args
    rw [h1.cat]
    split at h
    · rename_i hc
      rw [if_pos hc]
      match i, h with
      | 0, h =>
        simp at h
        subst h
        exact ⟨w, List.mem_cons_self, h1⟩
      | 1, h => simp at h
      | i + 2, h =>
        simp at h
        obtain ⟨v, g1, g2⟩ := aArgs_at (o := o + 2) h2 h
        exact ⟨v, List.mem_cons_of_mem _ (by rw [show o + (i + 2) = o + 2 + i by omega]; exact g1), g2⟩
    · rename_i hc
      rw [if_neg hc]
      match i, h with
      | 0, h =>
        simp at h
        subst h
        exact ⟨w, List.mem_cons_self, h1⟩
      | i + 1, h =>
        simp at h
        obtain ⟨v, g1, g2⟩ := aArgs_at (o := o + 1) h2 h
        exact ⟨v, List.mem_cons_of_mem _ (by rw [show o + (i + 1) = o + 1 + i by omega]; exact g1), g2⟩
theorem aArgs_len {X : Nat → Nat} {ws : va_W} : ∀ {xs vs : List Value}, aVs X ws xs vs → (lg_sl vs).length = (aArgs xs).length
  | [], _, h => by cases h; rfl
  | y :: ys, _, ⟨w, vs', e, h1, h2⟩ => by
    subst e
    have := aArgs_len h2
    unfold aArgs
    unfold lg_sl at this ⊢
    rw [List.flatMap_cons, List.length_append, this, h1.cat]
    split <;> simp <;> omega
/-- a contract out of a walk of its body -/
theorem Mt_of {y : MethodName} {cc : ByteArray} {nL fr lo mc ms : Nat} {ret : Option FieldType} {xs : List Value} {h h' : aH} {r : aR} {k : Nat} (hy : plainName y.cls = true) (hk : (aArgs xs).length + k = nL)
    (body : ∀ (p : Program) (l : Launch) (e : Env) (s : State) (m : MethodId) (args : Array Value) (below : List Frame) (meth : Method) (c : Code) (D : va_G) (B0 : Nat) (X : Nat → Nat) (ws0 : va_W), Cx p l s m args meth c B0 X y.cls y.name cc nL ret [] →
      Ev p l e { frames := fr, cells := mc, slots := ms, locals := lo } s m args below meth c D B0 X ws0 r h' mc ms nL 0 0 0 (aArgs xs ++ List.replicate k none) [] h) : Mt y (Cond.code y cc nL ret :: aTB) fr lo mc ms xs h r h' := by
  intro l D B0 X ws vs htr hvs
  refine vx_ofW (cc := cc) (maxL := nL) (ret := ret) hy rfl ?_
  intro p e s m args below meth c s₁ B hml ht hP
  obtain ⟨rfl, hw, hX⟩ := hP
  have hts := atoms_spec (ws := Cond.code y cc nL ret :: aTB) B.pre
  have hC : Cx p l s m vs.toArray meth c B0 X y.cls y.name cc nL ret [] := ⟨B.exec, B.bytes, hml, findClass_of_methodNamed B.named, fun w hw => hts w (List.mem_cons_of_mem _ hw), B.notSynchronized, B.returns, htr, hX, by
    cases ht2 : c.exceptionTable.toList with
    | nil => rfl
    | cons x t => exact absurd (by rw [ht2]; exact List.mem_cons_self) (ht x), (name_of_methodNamed B.named B.method).1⟩
  have hlen := aArgs_len hvs
  have hl := lv_entry vs (n := nL) (by omega)
  rw [lg_entry_eq]
  refine body p l e s m vs.toArray below meth c D B0 X ws hC ws s.heap [] _ [] aXt.refl hw va_S.rf ?_ rfl
  refine ⟨hl.1, hl.2.1, fun i x hi => ?_⟩
  have hlt : i < (aArgs xs).length := by
    rcases Nat.lt_or_ge i (aArgs xs).length with q | q
    · exact q
    · rw [List.getElem?_append_right q, List.getElem?_replicate] at hi
      split at hi <;> cases hi
  rw [List.getElem?_append_left hlt] at hi
  obtain ⟨v, g1, g2⟩ := aArgs_at (o := 0) hvs hi
  rw [Nat.zero_add] at g1
  exact ⟨v, hl.2.2 (i, v) g1, g2⟩
theorem Mt_ofH {y : MethodName} {cc : ByteArray} {nL fr lo mc ms : Nat} {ret : Option FieldType} {hh : List (Nat × Nat × Nat × Nat)} {xs : List Value} {h h' : aH} {r : aR} {k : Nat} (hy : plainName y.cls = true) (hk : (aArgs xs).length + k = nL)
    (body : ∀ (p : Program) (l : Launch) (e : Env) (s : State) (m : MethodId) (args : Array Value) (below : List Frame) (meth : Method) (c : Code) (D : va_G) (B0 : Nat) (X : Nat → Nat) (ws0 : va_W), Cx p l s m args meth c B0 X y.cls y.name cc nL ret hh →
      Ev p l e { frames := fr, cells := mc, slots := ms, locals := lo } s m args below meth c D B0 X ws0 r h' mc ms nL 0 0 0 (aArgs xs ++ List.replicate k none) [] h) : Mt y (Cond.codeWith y cc nL ret hh :: aTB) fr lo mc ms xs h r h' := by
  intro l D B0 X ws vs htr hvs
  refine vx_ofWH (cc := cc) (maxL := nL) (ret := ret) (hh := hh) hy rfl ?_
  intro p e s m args below meth c s₁ B hml hP
  obtain ⟨rfl, hw, hX⟩ := hP
  have hts := atoms_spec (ws := Cond.codeWith y cc nL ret hh :: aTB) B.pre
  have hC : Cx p l s m vs.toArray meth c B0 X y.cls y.name cc nL ret hh := ⟨B.exec, B.bytes, hml, findClass_of_methodNamed B.named, fun w hw => hts w (List.mem_cons_of_mem _ hw), B.notSynchronized, B.returns, htr, hX,
    vx_table (x := y) B (hts _ List.mem_cons_self), (name_of_methodNamed B.named B.method).1⟩
  have hlen := aArgs_len hvs
  have hl := lv_entry vs (n := nL) (by omega)
  rw [lg_entry_eq]
  refine body p l e s m vs.toArray below meth c D B0 X ws hC ws s.heap [] _ [] aXt.refl hw va_S.rf ?_ rfl
  refine ⟨hl.1, hl.2.1, fun i x hi => ?_⟩
  have hlt : i < (aArgs xs).length := by
    rcases Nat.lt_or_ge i (aArgs xs).length with q | q
    · exact q
    · rw [List.getElem?_append_right q, List.getElem?_replicate] at hi
      split at hi <;> cases hi
  rw [List.getElem?_append_left hlt] at hi
  obtain ⟨v, g1, g2⟩ := aArgs_at (o := 0) hvs hi
  rw [Nat.zero_add] at g1
  exact ⟨v, hl.2.2 (i, v) g1, g2⟩
