section TH
variable {p : Program} {l : Launch} {e : Env} {R : Room} {s : State} {m : MethodId} {args : Array Value} {below : List Frame} {meth : Method} {c : Code} {H : Heap} {locs : List Loc} {cells slots : Nat} {Q : State → Prop}
theorem vy_athrow {cc : ByteArray} {pc : Nat} {ls : Array Slot} {rest : List Value} {q : Nat} (hexec : p.tables.exec = Jvm.exec) (hb : c.code = cc) (hd : decode cc pc = .ok (.athrow, 1))
    (kk : vx_W p l e R s m args below meth c H locs cells slots Q (F0 m pc ls rest) q) : W p l e R s m args below meth c H locs cells slots Q (F0 m pc ls (.ref q :: rest)) := by
  intro T hT X
  obtain ⟨t, a1, b1⟩ := kk T hT X
  refine ⟨t, ?_, b1⟩
  have hdg : decode c.code pc = .ok (.athrow, 1) := by rw [hb]; exact hd
  jvm_step X.here [X.here.top, hexec, hdg, athrow.wp_sem]
  exact a1
/-- the one row of the table takes it: the search for it may note its class for the first time -/
theorem vy_find {f : JFrame} {a : Addr} {x : ExceptionTableEntry} {t : List ExceptionTableEntry} {k : ClassId} {cell : Cell} {U : State} {Qh : Handler → Pre} {E : CtlPost} {d : Bool} {acts : List Action} (hx : covers x f.pc = true) (h0 : x.catchType ≠ 0)
    (hl : U.vm.ClassLinks e.platform f.method.cls x.catchType k) (hcell : U.heap[a]? = some cell) (hobj : ∀ j, cell.vm ≠ .statics j)
    (hk : ∃ j, U.vm.classes[cell.cls]? = some j) (hc : ∃ j, U.vm.classes[k]? = some j) (hfit : U.vm.assignable cell.cls k = true) :
    wp (findHandler.go f a (x :: t)) Qh E e d acts U ↔ Qh (.found x.handlerPc) d acts (U.setVm (U.vm.noted f.method.cls x.catchType (.cls k))) := by
  have hcov : x.startPc ≤ f.pc ∧ f.pc < x.endPc := by simpa [covers] using hx
  have al : U.vm.Alike (U.vm.noted f.method.cls x.catchType (.cls k)) := (Vm.Alike.refl U.vm).noted _ _ _
  have hgive := (resolveClass_links e.toSetting hl).op (op := VmOp.resolveClass f.method.cls x.catchType) rfl
  obtain ⟨j1, hj1⟩ := hk
  obtain ⟨j2, hj2⟩ := hc
  obtain ⟨i1, hi1, -⟩ := al.2.2 _ _ hj1
  obtain ⟨i2, hi2, -⟩ := al.2.2 _ _ hj2
  have hf2 : (U.vm.noted f.method.cls x.catchType (.cls k)).assignable cell.cls k = true := (al.assignable cell.cls k).trans hfit
  simp [findHandler.go, hcov.1, hcov.2, h0, hgive.1, hgive.2, hcell, hobj, hi1, hi2, hf2, VmOp.dirties, VmOp.acts]
theorem vy_catch {own name E : String} {ce : Cell} {q pc : Nat} {ls : Array Slot} {rest : List Value} (hown : s.vm.findClass own = some m.cls) (x : ExceptionTableEntry) (htab : c.exceptionTable.toList = [x]) (hx : covers x pc = true) (h0 : x.catchType ≠ 0)
    (hlink : (Cond.classLink own x.catchType name).before args s = true) (hcast : (Cond.castable E name).before args s = true) (hcell : H[q]? = some ce) (hv : ce.vm = .none) (hcl : s.vm.findClass E = some ce.cls)
    (kk : W p l e R s m args below meth c H locs cells slots Q (F0 m x.handlerPc ls [.ref q])) : vx_W p l e R s m args below meth c H locs cells slots Q (F0 m pc ls rest) q := by
  intro T hT X
  have hpl : e.platform.magicAccessors = ({} : Platform).magicAccessors := by rw [X.admits.platform]
  obtain ⟨c3, c4, hc3, hc4, hasg⟩ := Cond.castable_spec hcast
  cases Option.some.inj (hc3.symm.trans hcl)
  obtain ⟨c5, hc5, hcl5⟩ := Cond.classLink_spec hown hlink e.platform hpl
  cases Option.some.inj (hc4.symm.trans hc5)
  obtain ⟨dk, _, _, kt, hdk, _, _, _, _, hkt, _, hopen⟩ := hcl5.here
  have hW2 : s.WarmedH (T.vm.noted m.cls x.catchType (.cls c4)) := X.warmed.noted hdk hopen (State.rightAt_cls hcl5)
  have al := X.warmed.alike
  obtain ⟨kt2, hkt2, -⟩ := al.2.2 _ _ hkt
  have hfit : T.vm.assignable ce.cls c4 = true := (al.assignable ce.cls c4).trans hasg
  obtain ⟨k9, hk9, -⟩ := Vm.findClass_spec hcl
  obtain ⟨k8, hk8, -⟩ := al.2.2 _ _ hk9
  have Y := X.noted hW2
  obtain ⟨t, a1, b1⟩ := kk (T.setVm (T.vm.noted m.cls x.catchType (.cls c4))) hT Y
  refine ⟨t, ?_, b1⟩
  have hgo : ∀ (Qh : Handler → Pre) (E : CtlPost) (d : Bool) (acts : List Action), wp (findHandler (F0 m pc ls rest) q) Qh E e d acts ((T.setTop (F0 m pc ls rest)).pushFrame (.throwing q)) ↔ Qh (.found x.handlerPc) d acts (((T.setTop (F0 m pc ls rest)).pushFrame (.throwing q)).setVm (T.vm.noted m.cls x.catchType (.cls c4))) := by
    intro Qh E d acts
    rw [W.findHandler_eq (s := (T.setTop (F0 m pc ls rest)).pushFrame (.throwing q)) (f := F0 m pc ls rest) (meth := meth) (code := c) X.method' X.code, htab]
    exact vy_find (U := (T.setTop (F0 m pc ls rest)).pushFrame (.throwing q)) (f := F0 m pc ls rest) hx h0 (X.warmed.classLinks hcl5) (by show T.heap[q]? = some ce; rw [hT]; exact hcell) (fun j => by rw [hv]; exact fun z => by cases z) ⟨k8, hk8⟩ ⟨kt2, hkt2⟩ hfit
  obtain ⟨hg1, hg2⟩ := X.here.throwing q (g := F0 m pc ls rest)
  refine Steps.head hg1 hg2 ?_
  rw [stepThread_throwing (frames_entered X.here.top _)]
  have hstep : (stepThrowing e ((T.setTop (F0 m pc ls rest)).pushFrame (.throwing q)) q (.java (F0 m pc ls rest) :: T.frames.tail)).Is ((((T.setTop (F0 m pc ls rest)).pushFrame (.throwing q)).setVm (T.vm.noted m.cls x.catchType (.cls c4))).setFrames (.java { (F0 m pc ls rest) with pc := x.handlerPc, stack := [.ref q] } :: T.frames.tail)) [] := by
    simp only [stepThrowing, searchFrame, vmDo]
    generalize hr : Sem.go _ e false [] ((T.setTop (F0 m pc ls rest)).pushFrame (.throwing q)) = res
    obtain ⟨as, rfl, ha⟩ := Sem.eq_ok_of hr (a := Handler.found x.handlerPc) (s' := ((T.setTop (F0 m pc ls rest)).pushFrame (.throwing q)).setVm (T.vm.noted m.cls x.catchType (.cls c4))) (acts' := []) (by simp [hgo _ _ _ _])
    exact ⟨rfl, ha⟩
  rw [hstep.1]
  obtain ⟨g₀, hg⟩ := Option.isSome_iff_exists.mp X.here.top
  obtain ⟨r, hr⟩ := State.topJava?_eq_some.mp hg
  have hr2 : (T.setVm (T.vm.noted m.cls x.catchType (.cls c4))).frames = .java g₀ :: r := hr
  rw [State.setTop_of_frames _ hr2] at a1
  have e1 : ∀ (u : State) (v : Vm) (F G : List Frame), ((u.setFrames F).setVm v).setFrames G = (u.setVm v).setFrames G := fun u v F G => by
    rw [show (u.setFrames F).setVm v = (u.setVm v).setFrames F from rfl, State.setFrames_setFrames]
  rw [hr, List.tail_cons, State.pushFrame, State.setTop_of_frames _ hr, e1, e1]
  exact a1
end TH
section TE
variable {p : Program} {l : Launch} {e : Env} {R : Room} {s : State} {m : MethodId} {args : Array Value} {below : List Frame} {meth : Method} {c : Code} {D : va_G} {B0 : Nat} {X : Nat → Nat} {ws0 : va_W} {r : aR} {h' : aH} {mc ms nL cells slots pc : Nat} {L : List (Option Value)} {st : List Value} {h : aH}
variable {own nm : String} {cc : ByteArray} {ret : Option FieldType} {hh : List (Nat × Nat × Nat × Nat)}
/-- something thrown at pc: the abstract picture -/
def Ex (p : Program) (l : Launch) (e : Env) (R : Room) (s : State) (m : MethodId) (args : Array Value) (below : List Frame) (meth : Method) (c : Code) (D : va_G) (B0 : Nat) (X : Nat → Nat) (ws0 : va_W) (r : aR) (h' : aH) (mc ms nL cells slots pc : Nat) (L : List (Option Value)) (E : String) (i : Nat) (h : aH) : Prop :=
  ∀ (ws : va_W) (H : Heap) (locs : List Loc) (ls : Array Slot) (mst : List Value) (q : Nat) (ce : Cell), aXt ws0 ws → aw D B0 X h ws s H → va_S (aA B0) s.heap H locs → aL X ws nL L ls → aV X ws (.ref i) (.ref q) → H[q]? = some ce → ce.vm = .none → s.vm.findClass E = some ce.cls →
    vx_W p l e R s m args below meth c H locs cells slots (vx_MQ below (aQc D B0 X ws0 r h') (aXc D B0 X ws0 r h') args s mc ms (aA B0)) (F0 m pc ls mst) q
theorem ex_out (C : Cx p l s m args meth c B0 X own nm cc nL ret hh) {E : String} {i : Nat} (hout : ∀ x ∈ tableOf hh, covers x pc = false) (hr : r = .inr (E, i)) (hh9 : h' = h) (hc : cells ≤ mc) (hsl : slots ≤ ms) : Ex p l e R s m args below meth c D B0 X ws0 r h' mc ms nL cells slots pc L E i h := by
  intro ws H locs ls mst q ce hx hw hS hl hi hce hv hcl
  exact vx_out (by rw [C.2.2.2.2.2.2.2.2.2.1]; exact hout) C.2.2.2.2.2.1 hce hv hcl (fun t ht hal => ⟨hS.F ht, i, ws, hr, hi, hx, by rw [ht, hh9]; exact hw.moved hal⟩) hS.2.2 hc hsl
theorem ex_catch (C : Cx p l s m args meth c B0 X own nm cc nL ret hh) {E name : String} {i : Nat} (x : ExceptionTableEntry) (htab : tableOf hh = [x]) (hx : covers x pc = true) (h0 : x.catchType ≠ 0) (hlk : Cond.classLink own x.catchType name ∈ aTB) (hcast : Cond.castable E name ∈ lw_tbl)
    (kk : Ev p l e R s m args below meth c D B0 X ws0 r h' mc ms nL cells slots x.handlerPc L [.ref i] h) : Ex p l e R s m args below meth c D B0 X ws0 r h' mc ms nL cells slots pc L E i h := by
  intro ws H locs ls mst q ce hxt hw hS hl hi hce hv hcl
  exact vy_catch C.2.2.2.1 x (C.2.2.2.2.2.2.2.2.2.1.trans htab) hx h0 (C.2.2.2.2.1 _ hlk) (va_Nw.use rfl (C.2.2.2.2.2.2.2.2.1.1 _ hcast rfl)) hce hv hcl (kk ws H locs ls _ hxt hw hS hl ⟨_, _, rfl, hi, rfl⟩)
theorem ev_athrow (C : Cx p l s m args meth c B0 X own nm cc nL ret hh) {i ci N : Nat} {Cn : String} {T : u_T} (hc : vwCl[ci]? = some (Cn, T, N)) (hcO : cO h (.ref i) ci = some i) (hd : decode cc pc = .ok (.athrow, 1))
    (kk : Ex p l e R s m args below meth c D B0 X ws0 r h' mc ms nL cells slots pc L Cn i h) : Ev p l e R s m args below meth c D B0 X ws0 r h' mc ms nL cells slots pc L (.ref i :: st) h := by
  intro ws H locs ls mst hx hw hS hl hs
  obtain ⟨mo, mst, rfl, ho, hs⟩ := hs
  obtain ⟨fs, -, hol, hoc⟩ := cO_at hcO
  obtain ⟨b, fs', rfl, hw1, hfs⟩ := hw.recv hol hoc ho
  obtain ⟨hP, hD, hlen, tys, hK, hM⟩ := id hw
  obtain ⟨q', h1, cell, g1, g2, g3, -⟩ := hP i _ hw1
  exact vy_athrow C.1 C.2.1 hd (kk ws H locs ls _ b cell hx hw hS hl ho g1 g3 (by rw [g2]; exact (hK.1 ci _ hc).2.1))
theorem ev_afterX {H : Heap} {locs : List Loc} {ls : Array Slot} {ws : va_W} {mc1 ms1 : Nat} {mst0 mrest : List Value} {E : String} {i : Nat} {h1 : aH} {a : Array Value} (hx : aXt ws0 ws) (hS : va_S (aA B0) s.heap H locs) (hl : aL X ws nL L ls)
    (hr : vx_Run p l e R s m args below meth c H locs cells slots mc1 ms1 (F0 m pc ls mst0) mrest (aQc D B0 X ws (.inr (E, i)) h1 a) (aXc D B0 X ws (.inr (E, i)) h1) (aA B0))
    (kk : Ex p l e R s m args below meth c D B0 X ws0 r h' mc ms nL (cells + mc1) (slots + ms1) pc L E i h1) :
    W p l e R s m args below meth c H locs cells slots (vx_MQ below (aQc D B0 X ws0 r h') (aXc D B0 X ws0 r h') args s mc ms (aA B0)) (F0 m pc ls mst0) := by
  intro T hT XT
  rcases hr T hT XT with ⟨v', st0, t, T', L', h0, X', hL, e1, e2, ⟨hF, v2, v3, ws', e3, -⟩, go⟩ | ⟨q, st0, t, T', L', E2, ce, h0, X', hL, e1, e2, ⟨hF, i2, ws', e3, hi, hxt, hw'⟩, hce, hcv, hcl, go⟩
  · cases e3
  · cases e3
    have hal : s.vm.Alike t.vm := by rw [← e2]; exact X'.warmed.alike
    obtain ⟨-, -, hS1⟩ := vx_keep (A1 := aA B0) (free := aA B0) h0 e1 hS (fun _ _ q => q) (fun _ q => q) hL hF
    obtain ⟨t2, a1, b1⟩ := kk ws' T'.heap (locs ++ L') ls mrest q ce (hx.trans hxt) (by rw [e1]; exact hw'.moved hal.symm) hS1 (hl.mono hxt) hi (by rw [e1]; exact hce) hcv hcl T' rfl X'
    exact ⟨t2, go.trans a1, b1⟩
theorem ev_callVX (C : Cx p l s m args meth c B0 X own nm cc nL ret hh) {index fr lo mc1 ms1 maxL o ci N : Nat} {T : u_T} {y : MethodName} {bytes : ByteArray} {rt : Option FieldType} {xs rest : List Value} {E : String} {i : Nat} {h1 : aH} (hM : Mt y (Cond.code y bytes maxL rt :: aTB) fr lo mc1 ms1 (.ref o :: xs) h (.inr (E, i)) h1)
    (hc : vwCl[ci]? = some (y.cls, T, N)) (hcO : cO h (.ref o) ci = some o) (hco : Cond.code y bytes maxL rt ∈ aTB) (hlk : Cond.methodLink own index y ∈ aTB) (hst : Cond.instanceMethod y ∈ aTB) (hse : Cond.selects y.cls y y ∈ aTB) (hini : Cond.initialized y.cls ∈ aTB) (hy : y.cls ≠ "java/lang/invoke/MethodHandle" ∧ y.cls ≠ "java/lang/invoke/VarHandle" ∧ (parseMethodDescriptor y.desc).map (fun d => d.parameters.length) = some xs.length)
    (hR : fr + 1 ≤ R.frames ∧ 8 + (maxL + 11) + lo ≤ R.locals) (hf : cells + mc1 ≤ R.cells ∧ slots + ms1 ≤ R.slots) (hrest : (rest.map fun v => v.category).sum ≤ 8) (hstk : st = xs.reverse ++ .ref o :: rest) (hd : decode cc pc = .ok (.invokevirtual index, 3))
    (kk : Ex p l e R s m args below meth c D B0 X ws0 r h' mc ms nL (cells + mc1) (slots + ms1) pc L E i h1) : Ev p l e R s m args below meth c D B0 X ws0 r h' mc ms nL cells slots pc L st h := by
  intro ws H locs ls mst hx hw hS hl hs
  subst hstk
  obtain ⟨va, vb0, rfl, h2, mo, vb, rfl, ho, h3⟩ := hs.split
  obtain ⟨fs, -, hol, hoc⟩ := cO_at hcO
  obtain ⟨b, fs', rfl, hw1, hfs⟩ := hw.recv hol hoc ho
  have hv := h2.rev
  rw [List.reverse_reverse] at hv
  have hm := hM l D B0 X ws (.ref b :: va.reverse) C.2.2.2.2.2.2.2.1 ⟨_, _, rfl, ho, hv⟩
  have cb := callB_of (R := R) (rm := { frames := fr, cells := mc1, slots := ms1, locals := lo }) (mc := mc1) (ms := ms1) xs.length C.2.2.2.2.1 (aTB_ws hco) rfl rfl rfl (C.2.2.2.2.1 _ hini) (C.2.2.2.2.1 _ hlk) hy hR
  exact ev_afterX hx hS hl (vx_runV (As := va.reverse) (rest := vb) ⟨C.1, C.2.1, C.2.2.1, C.2.2.2.1, C.2.2.2.2.1⟩ hm ⟨cb, C.2.2.2.2.1 _ hst, C.2.2.2.2.1 _ hse⟩ (ev_preV C hw hS (fs := fs) hc hw1) rfl hv.len hl.1 (by rw [List.reverse_reverse]) (lv_room (by rw [h3.cats]; exact hrest)) hd hf) kk
end TE
