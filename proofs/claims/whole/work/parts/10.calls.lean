theorem Met_vx {l : Launch} {y : MethodName} {ws : List Cond} {rm : Room} {Pc : Array Value → State → Prop} {Qc : Array Value → State → Outcome → State → Prop} {XC : String → Addr → State → State → Prop} {mc ms : Nat} {free : Addr → Prop} (h : vx_Met l y ws rm Pc Qc XC mc ms free) (hn : ∀ E q st t, ¬ XC E q st t) : Met l y ws rm Pc Qc mc ms free := by
  intro p e ha hc hk s m args below hf happ hP hK
  obtain ⟨n, o, h1, h2, h3, hq⟩ := h p e ha hc hk s m args below hf happ hP hK
  refine ⟨n, o, h1, h2, h3, ?_⟩
  rcases hq with hq | ⟨q, -, E, ce, L, hx, -⟩
  · exact hq
  · exact (hn _ _ _ _ hx).elim
theorem aG_in {ws : List Cond} (h : ∀ w ∈ ws, w ∈ aTB) : GoodIn aTB ws := fun w hw => aTB_good w (h w hw)
theorem aWV {own C : String} {index : Nat} {y : MethodName} {w : Cond} (h1 : Cond.methodLink own index y ∈ aTB) (h2 : Cond.instanceMethod y ∈ aTB) (h3 : Cond.selects C y y ∈ aTB) (h4 : Cond.initialized C ∈ aTB) (h5 : w ∈ aTB) : GoodIn aTB (wsV own index C y (w :: aTB)) := by
  refine aG_in fun v hv => ?_
  unfold wsV at hv
  simp only [List.cons_append, List.nil_append, List.mem_cons] at hv
  rcases hv with rfl | rfl | rfl | rfl | rfl | hv <;> assumption
theorem aWS {own : String} {index : Nat} {y : MethodName} {w : Cond} (h1 : Cond.methodLink own index y ∈ aTB) (h2 : Cond.static y ∈ aTB) (h4 : Cond.initialized y.cls ∈ aTB) (h5 : w ∈ aTB) : GoodIn aTB (va_wsS own index y (w :: aTB)) := by
  refine aG_in fun v hv => ?_
  unfold va_wsS at hv
  simp only [List.cons_append, List.nil_append, List.mem_cons] at hv
  rcases hv with rfl | rfl | rfl | rfl | hv <;> assumption
def cO (h : aH) (v : Value) (ci : Nat) : Option Nat := match v with
  | .ref a => if a < aE then match h[a]? with
    | some (.inr (c, _)) => if c = ci then some a else none
    | _ => none else none
  | _ => none
theorem cO_at {h : aH} {v : Value} {ci a : Nat} (g : cO h v ci = some a) : ∃ fs : List Value, v = .ref a ∧ a < aE ∧ h[a]? = some (.inr (ci, fs)) := by
  unfold cO at g
  split at g
  · rename_i b
    split at g
    · rename_i hl
      split at g
      · rename_i c fs hc
        split at g
        · rename_i he
          cases g
          subst he
          exact ⟨fs, rfl, hl, hc⟩
        · cases g
      · cases g
    · cases g
  · cases g
section RC
variable {p : Program} {l : Launch} {e : Env} {R : Room} {s : State} {m : MethodId} {args : Array Value} {below : List Frame} {meth : Method} {c : Code} {D : va_G} {B0 : Nat} {X : Nat → Nat} {ws0 : va_W} {r : aR} {h' : aH} {mc ms nL cells slots pc : Nat} {L : List (Option Value)} {st : List Value} {h : aH}
variable {own nm : String} {cc : ByteArray} {ret : Option FieldType} {hh : List (Nat × Nat × Nat × Nat)}
theorem aXc_no {D : va_G} {B0 : Nat} {X : Nat → Nat} {ws : va_W} {v : Option Value} {h1 : aH} : ∀ E q st t, ¬ aXc D B0 X ws (.inl v) h1 E q st t := fun E q st t ⟨_, i, ws', e, _⟩ => by cases e
theorem ev_after {H : Heap} {locs : List Loc} {ls : Array Slot} {ws : va_W} {mc1 ms1 : Nat} {mst0 mrest rest : List Value} {v : Option Value} {h1 : aH} {a : Array Value} (hx : aXt ws0 ws) (hS : va_S (aA B0) s.heap H locs) (hl : aL X ws nL L ls) (hs : aVs X ws rest mrest)
    (hr : vx_Run p l e R s m args below meth c H locs cells slots mc1 ms1 (F0 m pc ls mst0) mrest (aQc D B0 X ws (.inl v) h1 a) (aXc D B0 X ws (.inl v) h1) (aA B0))
    (kk : Ev p l e R s m args below meth c D B0 X ws0 r h' mc ms nL (cells + mc1) (slots + ms1) (pc + 3) L (v.toList ++ rest) h1) :
    W p l e R s m args below meth c H locs cells slots (vx_MQ below (aQc D B0 X ws0 r h') (aXc D B0 X ws0 r h') args s mc ms (aA B0)) (F0 m pc ls mst0) := by
  intro T hT XT
  rcases hr T hT XT with ⟨v', st0, t, T', L', h0, X', hL, e1, e2, ⟨hF, v2, v3, ws', e3, e4, hvo, hxt, hw'⟩, go⟩ | ⟨q, st0, t, T', L', E, ce, h0, X', hL, e1, e2, hq, -⟩
  · cases e3
    cases e4
    have hal : s.vm.Alike t.vm := by rw [← e2]; exact X'.warmed.alike
    obtain ⟨-, -, hS1⟩ := vx_keep (A1 := aA B0) (free := aA B0) h0 e1 hS (fun _ _ q => q) (fun _ q => q) hL hF
    have hst : aVs X ws' (v.toList ++ rest) (v'.toList ++ mrest) := by
      cases v with
      | none =>
        cases hvo
        exact hs.mono hxt
      | some x =>
        obtain ⟨y, rfl, hy⟩ := hvo
        exact ⟨y, _, rfl, hy, hs.mono hxt⟩
    obtain ⟨t2, a1, b1⟩ := kk ws' T'.heap (locs ++ L') ls (v'.toList ++ mrest) (hx.trans hxt) (by rw [e1]; exact hw'.moved hal.symm) hS1 (hl.mono hxt) hst T' rfl X'
    exact ⟨t2, go t2 a1, b1⟩
  · exact (aXc_no _ _ _ _ hq).elim
theorem ev_preS (C : Cx p l s m args meth c B0 X own nm cc nL ret hh) {H : Heap} {locs : List Loc} {ws : va_W} (hw : aw D B0 X h ws s H) (hS : va_S (aA B0) s.heap H locs) {vs : List Value} : PreS s H (fun a U => a = vs.toArray ∧ aw D B0 X h ws U U.heap ∧ aX B0 X U U.heap) vs :=
  ⟨fun a U g mk q => ⟨q.1, q.2.1.call, q.2.2.call⟩, fun U hU hW => ⟨rfl, by rw [hU]; exact hw.moved hW.alike, by rw [hU]; exact (C.ext hS).warm hW⟩⟩
theorem ev_callS (C : Cx p l s m args meth c B0 X own nm cc nL ret hh) {index fr lo mc1 ms1 maxL : Nat} {y : MethodName} {bytes : ByteArray} {rt : Option FieldType} {xs rest : List Value} {v : Option Value} {h1 : aH} (hM : Mt y (Cond.code y bytes maxL rt :: aTB) fr lo mc1 ms1 xs h (.inl v) h1)
    (hco : Cond.code y bytes maxL rt ∈ aTB) (hlk : Cond.methodLink own index y ∈ aTB) (hst : Cond.static y ∈ aTB) (hini : Cond.initialized y.cls ∈ aTB) (hy : y.cls ≠ "java/lang/invoke/MethodHandle" ∧ y.cls ≠ "java/lang/invoke/VarHandle" ∧ (parseMethodDescriptor y.desc).map (fun d => d.parameters.length) = some xs.length)
    (hR : fr + 1 ≤ R.frames ∧ 8 + (maxL + 11) + lo ≤ R.locals) (hf : cells + mc1 ≤ R.cells ∧ slots + ms1 ≤ R.slots) (hrest : (rest.map fun v => v.category).sum ≤ 8) (hstk : st = xs.reverse ++ rest) (hd : decode cc pc = .ok (.invokestatic index, 3))
    (kk : Ev p l e R s m args below meth c D B0 X ws0 r h' mc ms nL (cells + mc1) (slots + ms1) (pc + 3) L (v.toList ++ rest) h1) : Ev p l e R s m args below meth c D B0 X ws0 r h' mc ms nL cells slots pc L st h := by
  intro ws H locs ls mst hx hw hS hl hs
  subst hstk
  obtain ⟨va, vb, rfl, h2, h3⟩ := hs.split
  have hv := h2.rev
  rw [List.reverse_reverse] at hv
  have hm := hM l D B0 X ws va.reverse C.2.2.2.2.2.2.2.1 hv
  have cb := callB_of (R := R) (rm := { frames := fr, cells := mc1, slots := ms1, locals := lo }) (mc := mc1) (ms := ms1) xs.length C.2.2.2.2.1 (aTB_ws hco) rfl rfl rfl (C.2.2.2.2.1 _ hini) (C.2.2.2.2.1 _ hlk) hy hR
  exact ev_after hx hS hl h3 (vx_runS (As := va.reverse) (rest := vb) ⟨C.1, C.2.1, C.2.2.1, C.2.2.2.1, C.2.2.2.2.1⟩ hm ⟨cb, C.2.2.2.2.1 _ hst⟩ (ev_preS C hw hS) rfl hv.len hl.1 (by rw [List.reverse_reverse]) (lv_room (by rw [h3.cats]; exact hrest)) hd hf) kk
theorem ev_callSN (C : Cx p l s m args meth c B0 X own nm cc nL ret hh) {index fr lo mc1 ms1 maxL : Nat} {y : MethodName} {host : String} {bytes : ByteArray} {rt : Option FieldType} {xs rest : List Value} {v : Option Value} {h1 : aH} (hM : Mt y (Cond.code y bytes maxL rt :: aTB) fr lo mc1 ms1 xs h (.inl v) h1)
    (hco : Cond.code y bytes maxL rt ∈ aTB) (hlk : Cond.methodLinkNest own index y host ∈ lw_tbl) (hst : Cond.static y ∈ aTB) (hini : Cond.initialized y.cls ∈ aTB) (hy : y.cls ≠ "java/lang/invoke/MethodHandle" ∧ y.cls ≠ "java/lang/invoke/VarHandle" ∧ (parseMethodDescriptor y.desc).map (fun d => d.parameters.length) = some xs.length)
    (hR : fr + 1 ≤ R.frames ∧ 8 + (maxL + 11) + lo ≤ R.locals) (hf : cells + mc1 ≤ R.cells ∧ slots + ms1 ≤ R.slots) (hrest : (rest.map fun v => v.category).sum ≤ 8) (hstk : st = xs.reverse ++ rest) (hd : decode cc pc = .ok (.invokestatic index, 3))
    (kk : Ev p l e R s m args below meth c D B0 X ws0 r h' mc ms nL (cells + mc1) (slots + ms1) (pc + 3) L (v.toList ++ rest) h1) : Ev p l e R s m args below meth c D B0 X ws0 r h' mc ms nL cells slots pc L st h := by
  intro ws H locs ls mst hx hw hS hl hs
  subst hstk
  obtain ⟨va, vb, rfl, h2, h3⟩ := hs.split
  have hv := h2.rev
  rw [List.reverse_reverse] at hv
  have hm := Met_vx (hM l D B0 X ws va.reverse C.2.2.2.2.2.2.2.1 hv) aXc_no
  have cb := va_cnB (R := R) (rm := { frames := fr, cells := mc1, slots := ms1, locals := lo }) (mc := mc1) (ms := ms1) xs.length C.2.2.2.2.1 (aTB_ws hco) rfl rfl rfl (C.2.2.2.2.2.2.2.2.1.1 _ hlk rfl) (C.2.2.2.2.1 _ hini) hy hR
  have hr := va_runSN (e := e) (below := below) (meth := meth) (As := va.reverse) (rest := vb) ⟨C.1, C.2.1, C.2.2.1, C.2.2.2.1, C.2.2.2.2.1⟩ hm ⟨cb, C.2.2.2.2.1 _ hst, trivial⟩ (ev_preS C hw hS) (g := F0 m pc ls (va ++ vb)) (locs := locs) rfl hv.len hl.1 (by rw [List.reverse_reverse]) (lv_room (by rw [h3.cats]; exact hrest)) hd hf
  exact ev_after hx hS hl h3 (fun T hT X => Or.inl (hr T hT X)) kk
theorem ev_preV (C : Cx p l s m args meth c B0 X own nm cc nL ret hh) {H : Heap} {locs : List Loc} {ws : va_W} (hw : aw D B0 X h ws s H) (hS : va_S (aA B0) s.heap H locs) {o ci b N : Nat} {Cn : String} {T : u_T} {fs fs' vs : List Value} (hc : vwCl[ci]? = some (Cn, T, N)) (hw1 : ws[o]? = some (b, .inr (ci, fs'))) : PreV s H Cn b (fun a U => a = (Value.ref b :: vs).toArray ∧ aw D B0 X h ws U U.heap ∧ aX B0 X U U.heap) vs := by
  obtain ⟨hP, hD, hlen, tys, hK, hM⟩ := id hw
  exact ⟨(ev_preS C hw hS (vs := Value.ref b :: vs)).1, va_recv hK hP hc hw1, (ev_preS C hw hS (vs := Value.ref b :: vs)).2⟩
theorem ev_callV (C : Cx p l s m args meth c B0 X own nm cc nL ret hh) {index fr lo mc1 ms1 maxL o ci N : Nat} {T : u_T} {y : MethodName} {bytes : ByteArray} {rt : Option FieldType} {xs rest : List Value} {v : Option Value} {h1 : aH} (hM : Mt y (Cond.code y bytes maxL rt :: aTB) fr lo mc1 ms1 (.ref o :: xs) h (.inl v) h1)
    (hc : vwCl[ci]? = some (y.cls, T, N)) (hcO : cO h (.ref o) ci = some o) (hco : Cond.code y bytes maxL rt ∈ aTB) (hlk : Cond.methodLink own index y ∈ aTB) (hst : Cond.instanceMethod y ∈ aTB) (hse : Cond.selects y.cls y y ∈ aTB) (hini : Cond.initialized y.cls ∈ aTB) (hy : y.cls ≠ "java/lang/invoke/MethodHandle" ∧ y.cls ≠ "java/lang/invoke/VarHandle" ∧ (parseMethodDescriptor y.desc).map (fun d => d.parameters.length) = some xs.length)
    (hR : fr + 1 ≤ R.frames ∧ 8 + (maxL + 11) + lo ≤ R.locals) (hf : cells + mc1 ≤ R.cells ∧ slots + ms1 ≤ R.slots) (hrest : (rest.map fun v => v.category).sum ≤ 8) (hstk : st = xs.reverse ++ .ref o :: rest) (hd : decode cc pc = .ok (.invokevirtual index, 3))
    (kk : Ev p l e R s m args below meth c D B0 X ws0 r h' mc ms nL (cells + mc1) (slots + ms1) (pc + 3) L (v.toList ++ rest) h1) : Ev p l e R s m args below meth c D B0 X ws0 r h' mc ms nL cells slots pc L st h := by
  intro ws H locs ls mst hx hw hS hl hs
  subst hstk
  obtain ⟨va, vb0, rfl, h2, mo, vb, rfl, ho, h3⟩ := hs.split
  obtain ⟨fs, -, hol, hoc⟩ := cO_at hcO
  obtain ⟨b, fs', rfl, hw1, hfs⟩ := hw.recv hol hoc ho
  have hv := h2.rev
  rw [List.reverse_reverse] at hv
  have hm := hM l D B0 X ws (.ref b :: va.reverse) C.2.2.2.2.2.2.2.1 ⟨_, _, rfl, ho, hv⟩
  have cb := callB_of (R := R) (rm := { frames := fr, cells := mc1, slots := ms1, locals := lo }) (mc := mc1) (ms := ms1) xs.length C.2.2.2.2.1 (aTB_ws hco) rfl rfl rfl (C.2.2.2.2.1 _ hini) (C.2.2.2.2.1 _ hlk) hy hR
  exact ev_after hx hS hl h3 (vx_runV (As := va.reverse) (rest := vb) ⟨C.1, C.2.1, C.2.2.1, C.2.2.2.1, C.2.2.2.2.1⟩ hm ⟨cb, C.2.2.2.2.1 _ hst, C.2.2.2.2.1 _ hse⟩ (ev_preV C hw hS (fs := fs) hc hw1) rfl hv.len hl.1 (by rw [List.reverse_reverse]) (lv_room (by rw [h3.cats]; exact hrest)) hd hf) kk
theorem ev_callVW (C : Cx p l s m args meth c B0 X own nm cc nL ret hh) {index fr lo mc1 ms1 maxL o ci N : Nat} {T : u_T} {y : MethodName} {bytes : ByteArray} {rt : Option FieldType} {hh1 : List (Nat × Nat × Nat × Nat)} {xs rest : List Value} {v : Option Value} {h1 : aH} (hM : Mt y (Cond.codeWith y bytes maxL rt hh1 :: aTB) fr lo mc1 ms1 (.ref o :: xs) h (.inl v) h1)
    (hc : vwCl[ci]? = some (y.cls, T, N)) (hcO : cO h (.ref o) ci = some o) (hco : Cond.codeWith y bytes maxL rt hh1 ∈ aTB) (hlk : Cond.methodLink own index y ∈ aTB) (hst : Cond.instanceMethod y ∈ aTB) (hse : Cond.selects y.cls y y ∈ aTB) (hini : Cond.initialized y.cls ∈ aTB) (hy : y.cls ≠ "java/lang/invoke/MethodHandle" ∧ y.cls ≠ "java/lang/invoke/VarHandle" ∧ (parseMethodDescriptor y.desc).map (fun d => d.parameters.length) = some xs.length)
    (hR : fr + 1 ≤ R.frames ∧ 8 + (maxL + 11) + lo ≤ R.locals) (hf : cells + mc1 ≤ R.cells ∧ slots + ms1 ≤ R.slots) (hrest : (rest.map fun v => v.category).sum ≤ 8) (hstk : st = xs.reverse ++ .ref o :: rest) (hd : decode cc pc = .ok (.invokevirtual index, 3))
    (kk : Ev p l e R s m args below meth c D B0 X ws0 r h' mc ms nL (cells + mc1) (slots + ms1) (pc + 3) L (v.toList ++ rest) h1) : Ev p l e R s m args below meth c D B0 X ws0 r h' mc ms nL cells slots pc L st h := by
  intro ws H locs ls mst hx hw hS hl hs
  subst hstk
  obtain ⟨va, vb0, rfl, h2, mo, vb, rfl, ho, h3⟩ := hs.split
  obtain ⟨fs, -, hol, hoc⟩ := cO_at hcO
  obtain ⟨b, fs', rfl, hw1, hfs⟩ := hw.recv hol hoc ho
  have hv := h2.rev
  rw [List.reverse_reverse] at hv
  have hm := hM l D B0 X ws (.ref b :: va.reverse) C.2.2.2.2.2.2.2.1 ⟨_, _, rfl, ho, hv⟩
  have cb := vx_cwVW (R := R) (C := y.cls) (rm := { frames := fr, cells := mc1, slots := ms1, locals := lo }) (mc := mc1) (ms := ms1) xs.length C.2.2.2.2.1 (aWV hlk hst hse hini hco) rfl rfl rfl ⟨rfl, hy⟩ hR
  exact ev_after hx hS hl h3 (vx_runVX (As := va.reverse) (rest := vb) ⟨C.1, C.2.1, C.2.2.1, C.2.2.2.1, C.2.2.2.2.1⟩ hm cb (ev_preV C hw hS (fs := fs) hc hw1) rfl hv.len hl.1 (by rw [List.reverse_reverse]) (lv_room (by rw [h3.cats]; exact hrest)) hd hf) kk
theorem ev_callSW (C : Cx p l s m args meth c B0 X own nm cc nL ret hh) {index fr lo mc1 ms1 maxL : Nat} {y : MethodName} {bytes : ByteArray} {rt : Option FieldType} {hh1 : List (Nat × Nat × Nat × Nat)} {xs rest : List Value} {v : Option Value} {h1 : aH} (hM : Mt y (Cond.codeWith y bytes maxL rt hh1 :: aTB) fr lo mc1 ms1 xs h (.inl v) h1)
    (hco : Cond.codeWith y bytes maxL rt hh1 ∈ aTB) (hlk : Cond.methodLink own index y ∈ aTB) (hst : Cond.static y ∈ aTB) (hini : Cond.initialized y.cls ∈ aTB) (hy : y.cls ≠ "java/lang/invoke/MethodHandle" ∧ y.cls ≠ "java/lang/invoke/VarHandle" ∧ (parseMethodDescriptor y.desc).map (fun d => d.parameters.length) = some xs.length)
    (hR : fr + 1 ≤ R.frames ∧ 8 + (maxL + 11) + lo ≤ R.locals) (hf : cells + mc1 ≤ R.cells ∧ slots + ms1 ≤ R.slots) (hrest : (rest.map fun v => v.category).sum ≤ 8) (hstk : st = xs.reverse ++ rest) (hd : decode cc pc = .ok (.invokestatic index, 3))
    (kk : Ev p l e R s m args below meth c D B0 X ws0 r h' mc ms nL (cells + mc1) (slots + ms1) (pc + 3) L (v.toList ++ rest) h1) : Ev p l e R s m args below meth c D B0 X ws0 r h' mc ms nL cells slots pc L st h := by
  intro ws H locs ls mst hx hw hS hl hs
  subst hstk
  obtain ⟨va, vb, rfl, h2, h3⟩ := hs.split
  have hv := h2.rev
  rw [List.reverse_reverse] at hv
  have hm := hM l D B0 X ws va.reverse C.2.2.2.2.2.2.2.1 hv
  have cb := vx_cwSW (R := R) (rm := { frames := fr, cells := mc1, slots := ms1, locals := lo }) (mc := mc1) (ms := ms1) xs.length C.2.2.2.2.1 (aWS hlk hst hini hco) rfl rfl rfl hy hR
  exact ev_after hx hS hl h3 (vx_runSX (As := va.reverse) (rest := vb) ⟨C.1, C.2.1, C.2.2.1, C.2.2.2.1, C.2.2.2.2.1⟩ hm cb (ev_preS C hw hS) rfl hv.len hl.1 (by rw [List.reverse_reverse]) (lv_room (by rw [h3.cats]; exact hrest)) hd hf) kk
theorem ev_callVN (C : Cx p l s m args meth c B0 X own nm cc nL ret hh) {index fr lo mc1 ms1 maxL o ci N : Nat} {T : u_T} {y : MethodName} {host : String} {bytes : ByteArray} {rt : Option FieldType} {xs rest : List Value} {v : Option Value} {h1 : aH} (hM : Mt y (Cond.code y bytes maxL rt :: aTB) fr lo mc1 ms1 (.ref o :: xs) h (.inl v) h1)
    (hc : vwCl[ci]? = some (y.cls, T, N)) (hcO : cO h (.ref o) ci = some o) (hco : Cond.code y bytes maxL rt ∈ aTB) (hlk : Cond.methodLinkNest own index y host ∈ lw_tbl) (hst : Cond.instanceMethod y ∈ aTB) (hse : Cond.selects y.cls y y ∈ aTB) (hini : Cond.initialized y.cls ∈ aTB) (hy : y.cls ≠ "java/lang/invoke/MethodHandle" ∧ y.cls ≠ "java/lang/invoke/VarHandle" ∧ (parseMethodDescriptor y.desc).map (fun d => d.parameters.length) = some xs.length)
    (hR : fr + 1 ≤ R.frames ∧ 8 + (maxL + 11) + lo ≤ R.locals) (hf : cells + mc1 ≤ R.cells ∧ slots + ms1 ≤ R.slots) (hrest : (rest.map fun v => v.category).sum ≤ 8) (hstk : st = xs.reverse ++ .ref o :: rest) (hd : decode cc pc = .ok (.invokevirtual index, 3))
    (kk : Ev p l e R s m args below meth c D B0 X ws0 r h' mc ms nL (cells + mc1) (slots + ms1) (pc + 3) L (v.toList ++ rest) h1) : Ev p l e R s m args below meth c D B0 X ws0 r h' mc ms nL cells slots pc L st h := by
  intro ws H locs ls mst hx hw hS hl hs
  subst hstk
  obtain ⟨va, vb0, rfl, h2, mo, vb, rfl, ho, h3⟩ := hs.split
  obtain ⟨fs, -, hol, hoc⟩ := cO_at hcO
  obtain ⟨b, fs', rfl, hw1, hfs⟩ := hw.recv hol hoc ho
  have hv := h2.rev
  rw [List.reverse_reverse] at hv
  have hm := Met_vx (hM l D B0 X ws (.ref b :: va.reverse) C.2.2.2.2.2.2.2.1 ⟨_, _, rfl, ho, hv⟩) aXc_no
  have cb := va_cnB (R := R) (rm := { frames := fr, cells := mc1, slots := ms1, locals := lo }) (mc := mc1) (ms := ms1) xs.length C.2.2.2.2.1 (aTB_ws hco) rfl rfl rfl (C.2.2.2.2.2.2.2.2.1.1 _ hlk rfl) (C.2.2.2.2.1 _ hini) hy hR
  have hr := va_runVN (e := e) (below := below) (meth := meth) (As := va.reverse) (rest := vb) ⟨C.1, C.2.1, C.2.2.1, C.2.2.2.1, C.2.2.2.2.1⟩ hm ⟨cb, C.2.2.2.2.1 _ hst, C.2.2.2.2.1 _ hse⟩ (ev_preV C hw hS (fs := fs) hc hw1) (g := F0 m pc ls (va ++ Value.ref b :: vb)) (locs := locs) rfl hv.len hl.1 (by rw [List.reverse_reverse]) (lv_room (by rw [h3.cats]; exact hrest)) hd hf
  exact ev_after hx hS hl h3 (fun T hT X => Or.inl (hr T hT X)) kk
theorem ev_callI (C : Cx p l s m args meth c B0 X own nm cc nL ret hh) {index fr lo mc1 ms1 maxL o : Nat} {y : MethodName} {bytes : ByteArray} {xs rest : List Value} {h1 : aH} (hM : Mt y (Cond.code y bytes maxL none :: aTB) fr lo mc1 ms1 (.ref o :: xs) h (.inl none) h1)
    (hco : Cond.code y bytes maxL none ∈ aTB) (hlk : Cond.methodLink own index y ∈ aTB) (hst : Cond.instanceMethod y ∈ aTB) (hini : Cond.initialized y.cls ∈ aTB) (hy1 : y.name = "<init>") (hy : y.cls ≠ "java/lang/invoke/MethodHandle" ∧ y.cls ≠ "java/lang/invoke/VarHandle" ∧ (parseMethodDescriptor y.desc).map (fun d => d.parameters.length) = some xs.length)
    (hR : fr + 1 ≤ R.frames ∧ 8 + (maxL + 11) + lo ≤ R.locals) (hf : cells + mc1 ≤ R.cells ∧ slots + ms1 ≤ R.slots) (hrest : (rest.map fun v => v.category).sum ≤ 8) (hstk : st = xs.reverse ++ .ref o :: rest) (hd : decode cc pc = .ok (.invokespecial index, 3))
    (kk : Ev p l e R s m args below meth c D B0 X ws0 r h' mc ms nL (cells + mc1) (slots + ms1) (pc + 3) L rest h1) : Ev p l e R s m args below meth c D B0 X ws0 r h' mc ms nL cells slots pc L st h := by
  intro ws H locs ls mst hx hw hS hl hs
  subst hstk
  obtain ⟨va, vb0, rfl, h2, mo, vb, rfl, ho, h3⟩ := hs.split
  obtain ⟨b, rfl⟩ : ∃ b, mo = .ref b := by
    rcases ho with ⟨-, a, e9, -, rfl⟩ | ⟨-, rfl⟩ | ⟨-, q, rfl⟩ <;> exact ⟨_, rfl⟩
  have hv := h2.rev
  rw [List.reverse_reverse] at hv
  have hm := Met_vx (hM l D B0 X ws (.ref b :: va.reverse) C.2.2.2.2.2.2.2.1 ⟨_, _, rfl, ho, hv⟩) aXc_no
  have cb := callB_of (R := R) (rm := { frames := fr, cells := mc1, slots := ms1, locals := lo }) (mc := mc1) (ms := ms1) xs.length C.2.2.2.2.1 (aTB_ws hco) rfl rfl rfl (C.2.2.2.2.1 _ hini) (C.2.2.2.2.1 _ hlk) hy hR
  have hr := va_runI (e := e) (below := below) (meth := meth) (As := va.reverse) (rest := vb) (b := b) ⟨C.1, C.2.1, C.2.2.1, C.2.2.2.1, C.2.2.2.2.1⟩ hm ⟨cb, hy1, C.2.2.2.2.1 _ hst⟩ (ev_preS C hw hS) (g := F0 m pc ls (va ++ Value.ref b :: vb)) (locs := locs) rfl hv.len hl.1 (by rw [List.reverse_reverse]) (lv_room (by rw [h3.cats]; exact hrest)) hd hf
  exact ev_after (v := none) hx hS hl h3 (fun T hT X => Or.inl (hr T hT X)) kk
theorem ev_callIN (C : Cx p l s m args meth c B0 X own nm cc nL ret hh) {index fr lo mc1 ms1 maxL o : Nat} {y : MethodName} {host : String} {bytes : ByteArray} {xs rest : List Value} {h1 : aH} (hM : Mt y (Cond.code y bytes maxL none :: aTB) fr lo mc1 ms1 (.ref o :: xs) h (.inl none) h1)
    (hco : Cond.code y bytes maxL none ∈ aTB) (hlk : Cond.methodLinkNest own index y host ∈ lw_tbl) (hst : Cond.instanceMethod y ∈ aTB) (hini : Cond.initialized y.cls ∈ aTB) (hy1 : y.name = "<init>") (hy : y.cls ≠ "java/lang/invoke/MethodHandle" ∧ y.cls ≠ "java/lang/invoke/VarHandle" ∧ (parseMethodDescriptor y.desc).map (fun d => d.parameters.length) = some xs.length)
    (hR : fr + 1 ≤ R.frames ∧ 8 + (maxL + 11) + lo ≤ R.locals) (hf : cells + mc1 ≤ R.cells ∧ slots + ms1 ≤ R.slots) (hrest : (rest.map fun v => v.category).sum ≤ 8) (hstk : st = xs.reverse ++ .ref o :: rest) (hd : decode cc pc = .ok (.invokespecial index, 3))
    (kk : Ev p l e R s m args below meth c D B0 X ws0 r h' mc ms nL (cells + mc1) (slots + ms1) (pc + 3) L rest h1) : Ev p l e R s m args below meth c D B0 X ws0 r h' mc ms nL cells slots pc L st h := by
  intro ws H locs ls mst hx hw hS hl hs
  subst hstk
  obtain ⟨va, vb0, rfl, h2, mo, vb, rfl, ho, h3⟩ := hs.split
  obtain ⟨b, rfl⟩ : ∃ b, mo = .ref b := by
    rcases ho with ⟨-, a, e9, -, rfl⟩ | ⟨-, rfl⟩ | ⟨-, q, rfl⟩ <;> exact ⟨_, rfl⟩
  have hv := h2.rev
  rw [List.reverse_reverse] at hv
  have hm := Met_vx (hM l D B0 X ws (.ref b :: va.reverse) C.2.2.2.2.2.2.2.1 ⟨_, _, rfl, ho, hv⟩) aXc_no
  have cb := va_cnB (R := R) (rm := { frames := fr, cells := mc1, slots := ms1, locals := lo }) (mc := mc1) (ms := ms1) xs.length C.2.2.2.2.1 (aTB_ws hco) rfl rfl rfl (C.2.2.2.2.2.2.2.2.1.1 _ hlk rfl) (C.2.2.2.2.1 _ hini) hy hR
  have hr := va_runIN (e := e) (below := below) (meth := meth) (As := va.reverse) (rest := vb) (b := b) ⟨C.1, C.2.1, C.2.2.1, C.2.2.2.1, C.2.2.2.2.1⟩ hm ⟨cb, hy1, C.2.2.2.2.1 _ hst⟩ (ev_preS C hw hS) (g := F0 m pc ls (va ++ Value.ref b :: vb)) (locs := locs) rfl hv.len hl.1 (by rw [List.reverse_reverse]) (lv_room (by rw [h3.cats]; exact hrest)) hd hf
  exact ev_after (v := none) hx hS hl h3 (fun T hT X => Or.inl (hr T hT X)) kk
theorem ev_objInit (C : Cx p l s m args meth c B0 X own nm cc nL ret hh) {index o : Nat} (hlk : Cond.methodLink own index Lib.objectInit ∈ aTB) (hst : Cond.instanceMethod Lib.objectInit ∈ aTB) (hco : Cond.code Lib.objectInit ⟨#[0xb1]⟩ 1 none ∈ aTB) (hfr : 1 ≤ R.frames) (hlo : (st.map fun v => v.category).sum + 12 ≤ R.locals) (hd : decode cc pc = .ok (.invokespecial index, 3))
    (kk : Ev p l e R s m args below meth c D B0 X ws0 r h' mc ms nL cells slots (pc + 3) L st h) : Ev p l e R s m args below meth c D B0 X ws0 r h' mc ms nL cells slots pc L (.ref o :: st) h := by
  intro ws H locs ls mst hx hw hS hl hs
  obtain ⟨mo, mst, rfl, ho, hs⟩ := hs
  obtain ⟨b, rfl⟩ : ∃ b, mo = .ref b := by
    rcases ho with ⟨-, a, e9, -, rfl⟩ | ⟨-, rfl⟩ | ⟨-, q, rfl⟩ <;> exact ⟨_, rfl⟩
  exact W.objInit C.1 C.2.1 C.2.2.2.1 (C.2.2.2.2.1 _ hlk) (C.2.2.2.2.1 _ hst) (C.2.2.2.2.1 _ hco) rfl (hl.1.trans C.2.2.1.symm) rfl hd hfr (by show 2 * 0 + _ + 12 ≤ _; rw [hs.cats]; omega) (kk ws H locs ls mst hx hw hS hl hs)
end RC
