def jmax (x y : Int32) : Int32 := if x < y then y else x
def jmin (x y : Int32) : Int32 := if y < x then y else x
def nwO (fs : List Value) (ci : Nat) (h : aH) : Option (Nat × aH) := if h.length < aE then some (h.length, h ++ [.inr (ci, fs)]) else none
def zA (ty : FieldType) (n : Nat) : vp_A := match ty with
  | .long => (n, .inr (.inl fun _ => 0))
  | _ => (n, .inl fun _ => 0)
def nwA (ty : FieldType) (h : aH) (n : Int32) : Option (Nat × aH) := if ¬ n < 0 ∧ h.length < aE ∧ n.toNatClampNeg * componentBytes ty ≤ 536870912 then some (h.length, h ++ [.inl (ty, zA ty n.toNatClampNeg)]) else none
theorem nwO_at {fs : List Value} {ci : Nat} {h h1 : aH} {o : Nat} (g : nwO fs ci h = some (o, h1)) : h.length < aE ∧ o = h.length ∧ h1 = h ++ [.inr (ci, fs)] := by
  unfold nwO at g
  split at g
  · rename_i hl
    cases g
    exact ⟨hl, rfl, rfl⟩
  · cases g
theorem nwA_at {ty : FieldType} {h h1 : aH} {n : Int32} {o : Nat} (g : nwA ty h n = some (o, h1)) : ¬ n < 0 ∧ h.length < aE ∧ n.toNatClampNeg * componentBytes ty ≤ 536870912 ∧ o = h.length ∧ h1 = h ++ [.inl (ty, zA ty n.toNatClampNeg)] := by
  unfold nwA at g
  split at g
  · rename_i hl
    cases g
    exact ⟨hl.1, hl.2.1, hl.2.2, rfl, rfl⟩
  · cases g
def rtZ (x : Int32) (h : aH) : aO := if x = 0 ∨ x = 1 then some (.inl (some (.int x)), h) else none
theorem rtZ_at {x : Int32} {h h1 : aH} {r : aR} (g : rtZ x h = some (r, h1)) : (x = 0 ∨ x = 1) ∧ r = .inl (some (.int x)) ∧ h1 = h := by
  unfold rtZ at g
  split at g
  · rename_i hl
    cases g
    exact ⟨hl, rfl, rfl⟩
  · cases g
def cpI (h : aH) (v : Value) (sp : Int32) (w : Value) (dp n : Int32) : Option aH := match v, w with
  | .ref a, .ref b => if a < aE ∧ b < aE then match h[a]?, h[b]? with
    | some (.inl (.int, n0, .inl f)), some (.inl (.int, n1, .inl g)) => if ¬ sp < 0 ∧ ¬ dp < 0 ∧ ¬ n < 0 ∧ sp.toNatClampNeg + n.toNatClampNeg ≤ n0 ∧ dp.toNatClampNeg + n.toNatClampNeg ≤ n1 then some (h.set b (.inl (.int, n1, .inl (va_cpy f g sp.toNatClampNeg dp.toNatClampNeg n.toNatClampNeg)))) else none
    | _, _ => none else none
  | _, _ => none
def cpJ (h : aH) (v : Value) (sp : Int32) (w : Value) (dp n : Int32) : Option aH := match v, w with
  | .ref a, .ref b => if a < aE ∧ b < aE then match h[a]?, h[b]? with
    | some (.inl (.long, n0, .inr (.inl f))), some (.inl (.long, n1, .inr (.inl g))) => if ¬ sp < 0 ∧ ¬ dp < 0 ∧ ¬ n < 0 ∧ sp.toNatClampNeg + n.toNatClampNeg ≤ n0 ∧ dp.toNatClampNeg + n.toNatClampNeg ≤ n1 then some (h.set b (.inl (.long, n1, .inr (.inl (va_cpy f g sp.toNatClampNeg dp.toNatClampNeg n.toNatClampNeg))))) else none
    | _, _ => none else none
  | _, _ => none
theorem cpI_at {h h1 : aH} {v w : Value} {sp dp n : Int32} (g : cpI h v sp w dp n = some h1) : ∃ (a b n0 n1 : Nat) (f g : Nat → Int32), v = .ref a ∧ w = .ref b ∧ a < aE ∧ b < aE ∧ h[a]? = some (.inl (.int, n0, .inl f)) ∧ h[b]? = some (.inl (.int, n1, .inl g)) ∧ ¬ sp < 0 ∧ ¬ dp < 0 ∧ ¬ n < 0 ∧ sp.toNatClampNeg + n.toNatClampNeg ≤ n0 ∧ dp.toNatClampNeg + n.toNatClampNeg ≤ n1 ∧ h1 = h.set b (.inl (.int, n1, .inl (va_cpy f g sp.toNatClampNeg dp.toNatClampNeg n.toNatClampNeg))) := by
  unfold cpI at g
  split at g
  · rename_i a b
    split at g
    · rename_i hl
      split at g
      · rename_i n0 f n1 g2 e1 e2
        split at g
        · rename_i hc
          cases g
          exact ⟨a, b, n0, n1, f, g2, rfl, rfl, hl.1, hl.2, e1, e2, hc.1, hc.2.1, hc.2.2.1, hc.2.2.2.1, hc.2.2.2.2, rfl⟩
        · cases g
      · cases g
    · cases g
  · cases g
theorem cpJ_at {h h1 : aH} {v w : Value} {sp dp n : Int32} (g : cpJ h v sp w dp n = some h1) : ∃ (a b n0 n1 : Nat) (f g : Nat → Int64), v = .ref a ∧ w = .ref b ∧ a < aE ∧ b < aE ∧ h[a]? = some (.inl (.long, n0, .inr (.inl f))) ∧ h[b]? = some (.inl (.long, n1, .inr (.inl g))) ∧ ¬ sp < 0 ∧ ¬ dp < 0 ∧ ¬ n < 0 ∧ sp.toNatClampNeg + n.toNatClampNeg ≤ n0 ∧ dp.toNatClampNeg + n.toNatClampNeg ≤ n1 ∧ h1 = h.set b (.inl (.long, n1, .inr (.inl (va_cpy f g sp.toNatClampNeg dp.toNatClampNeg n.toNatClampNeg)))) := by
  unfold cpJ at g
  split at g
  · rename_i a b
    split at g
    · rename_i hl
      split at g
      · rename_i n0 f n1 g2 e1 e2
        split at g
        · rename_i hc
          cases g
          exact ⟨a, b, n0, n1, f, g2, rfl, rfl, hl.1, hl.2, e1, e2, hc.1, hc.2.1, hc.2.2.1, hc.2.2.2.1, hc.2.2.2.2, rfl⟩
        · cases g
      · cases g
    · cases g
  · cases g
section RA
variable {p : Program} {l : Launch} {e : Env} {R : Room} {s : State} {m : MethodId} {args : Array Value} {below : List Frame} {meth : Method} {c : Code} {D : va_G} {B0 : Nat} {X : Nat → Nat} {ws0 : va_W} {r : aR} {h' : aH} {mc ms nL cells slots pc : Nat} {L : List (Option Value)} {st : List Value} {h : aH}
variable {own nm : String} {cc : ByteArray} {ret : Option FieldType} {hh : List (Nat × Nat × Nat × Nat)}
theorem ev_new (C : Cx p l s m args meth c B0 X own nm cc nL ret hh) {index ci N : Nat} {Cn : String} {T : u_T} (hc : vwCl[ci]? = some (Cn, T, N)) (hin : ∀ w ∈ u_ws Cn T N, w ∈ aTB) (ty : Nat → FieldType) (hty : ∀ k, k < N → parseFieldDescriptor (T k).2.2.1 = some (ty k)) (hlk : Cond.classLink own index Cn ∈ aTB) (hins : Cond.instantiable Cn N ∈ aTB) (hini : Cond.initialized Cn ∈ aTB) {fs : List Value} (hfs : ∀ j, j < N → defaultValue (ty j) = vp_V fs j) (hse : ∀ (X : Nat → Nat) (ws : va_W), aVs X ws fs fs) {o : Nat} {h1 : aH} (hg : nwO fs ci h = some (o, h1)) (hcl : cells + 1 ≤ R.cells) (hsl : slots + N ≤ R.slots) (hd : decode cc pc = .ok (.new index, 3)) (kk : Ev p l e R s m args below meth c D B0 X ws0 r h' mc ms nL (cells + 1) (slots + N) (pc + 3) L (.ref o :: st) h1) : Ev p l e R s m args below meth c D B0 X ws0 r h' mc ms nL cells slots pc L st h := by
  intro ws H locs ls mst hx hw hS hl hs
  obtain ⟨hlt, rfl, rfl⟩ := nwO_at hg
  obtain ⟨hP, hD, hlen, tys, hK, hM⟩ := id hw
  refine va_new (ci := ci) (fs := fs) (C := Cn) (T := T) (N := N) C.1 C.2.1 C.2.2.2.2.1 hin ty hty C.2.2.2.1 (C.2.2.2.2.1 _ hlk) (C.2.2.2.2.1 _ hins) (C.2.2.2.2.1 _ hini) hK hP hD hS (fun q hq => Nat.le_trans C.2.2.2.2.2.2.2.2.1.2.2.2.2.2.2.2.2.2 hq) hc hfs hcl hsl hd (fun q H1 hP1 hD1 hS1 => ?_)
  have hxt : aXt ws (ws ++ [(q, .inr (ci, fs))]) := aXt.app
  have hw1 : aw D B0 X (h ++ [.inr (ci, fs)]) (ws ++ [(q, .inr (ci, fs))]) s H1 := aw.push (t2 := []) hlen hM (by rw [List.append_nil]; exact hK) hP1 hD1 ⟨rfl, hse _ _⟩
  exact kk _ H1 locs ls _ (hx.trans hxt) hw1 hS1 (hl.mono hxt) ⟨_, _, rfl, Or.inl ⟨hlt, q, _, by rw [← hlen]; exact List.getElem?_concat_length, rfl⟩, hs.mono hxt⟩
theorem ev_newa (C : Cx p l s m args meth c B0 X own nm cc nL ret hh) {atype : ArrayType} {ty : FieldType} (hty : newarray.typeOf atype = ty) (hka : Cond.arrayClass ty ∈ aTB) (hz : ∀ (cA : ClassId) (n : Nat), vp_cell cA (zA ty n) = arrV cA n (fun _ => defaultValue ty)) {n : Int32} {o : Nat} {h1 : aH} (hg : nwA ty h n = some (o, h1)) (hcl : cells + 1 ≤ R.cells) (hsl : slots + n.toNatClampNeg ≤ R.slots) (hd : decode cc pc = .ok (.newarray atype, 2)) (kk : Ev p l e R s m args below meth c D B0 X ws0 r h' mc ms nL (cells + 1) (slots + n.toNatClampNeg) (pc + 2) L (.ref o :: st) h1) : Ev p l e R s m args below meth c D B0 X ws0 r h' mc ms nL cells slots pc L (.int n :: st) h := by
  intro ws H locs ls mst hx hw hS hl hs
  obtain ⟨_, mst, rfl, rfl, hs⟩ := hs
  obtain ⟨hn, hlt, hby, rfl, rfl⟩ := nwA_at hg
  obtain ⟨hP, hD, hlen, tys, hK, hM⟩ := id hw
  refine va_newa C.1 C.2.1 (by rw [hty]; exact C.2.2.2.2.1 _ hka) hty hK hP hD hS (fun q hq => Nat.le_trans C.2.2.2.2.2.2.2.2.1.2.2.2.2.2.2.2.2.2 hq) (fun cA => hz cA n.toNatClampNeg) hn rfl hby hcl hsl hd (fun q cA H1 hK1 hP1 hD1 hS1 => ?_)
  have hxt : aXt ws (ws ++ [(q, .inl (cA, zA ty n.toNatClampNeg))]) := aXt.app
  have hw1 : aw D B0 X (h ++ [.inl (ty, zA ty n.toNatClampNeg)]) (ws ++ [(q, .inl (cA, zA ty n.toNatClampNeg))]) s H1 := aw.push (t2 := [(cA, ty)]) hlen hM hK1 hP1 hD1 ⟨rfl, tys.length, by simp⟩
  exact kk _ H1 locs ls _ (hx.trans hxt) hw1 hS1 (hl.mono hxt) ⟨_, _, rfl, Or.inl ⟨hlt, q, _, by rw [← hlen]; exact List.getElem?_concat_length, rfl⟩, hs.mono hxt⟩
theorem ev_iret (C : Cx p l s m args meth c B0 X own nm cc nL ret hh) {x : Int32} (hret : ret = some .int) (hr : r = .inl (some (.int x))) (hc : cells ≤ mc) (hsl : slots ≤ ms) (hh9 : h' = h) (hd : decode cc pc = .ok (.ireturn, 1)) : Ev p l e R s m args below meth c D B0 X ws0 r h' mc ms nL cells slots pc L [.int x] h := by
  intro ws H locs ls mst hx hw hS hl hs
  obtain ⟨_, mst, rfl, rfl, hs⟩ := hs
  cases hs
  exact W.widen hc hsl (vx_ret (W.iret C.1 C.2.1 (C.2.2.2.2.2.2.1.trans hret) (fun t ht hW => ⟨hS.F ht, _, _, ws, hr, rfl, ⟨_, rfl, rfl⟩, hx, by rw [ht, hh9]; exact hw.moved hW.alike⟩) hS.2.2 hd C.2.2.2.2.2.1))
theorem ev_zret (C : Cx p l s m args meth c B0 X own nm cc nL ret hh) {x : Int32} (hret : ret = some .boolean) (hz : x = 0 ∨ x = 1) (hr : r = .inl (some (.int x))) (hc : cells ≤ mc) (hsl : slots ≤ ms) (hh9 : h' = h) (hd : decode cc pc = .ok (.ireturn, 1)) : Ev p l e R s m args below meth c D B0 X ws0 r h' mc ms nL cells slots pc L [.int x] h := by
  intro ws H locs ls mst hx hw hS hl hs
  obtain ⟨_, mst, rfl, rfl, hs⟩ := hs
  cases hs
  exact W.widen hc hsl (vx_ret (W.zret C.1 C.2.1 (C.2.2.2.2.2.2.1.trans hret) (by rcases hz with rfl | rfl <;> decide) (fun t ht hW => ⟨hS.F ht, _, _, ws, hr, rfl, ⟨_, rfl, rfl⟩, hx, by rw [ht, hh9]; exact hw.moved hW.alike⟩) hS.2.2 hd C.2.2.2.2.2.1))
theorem ev_lret (C : Cx p l s m args meth c B0 X own nm cc nL ret hh) {x : Int64} (hret : ret = some .long) (hr : r = .inl (some (.long x))) (hc : cells ≤ mc) (hsl : slots ≤ ms) (hh9 : h' = h) (hd : decode cc pc = .ok (.lreturn, 1)) : Ev p l e R s m args below meth c D B0 X ws0 r h' mc ms nL cells slots pc L [.long x] h := by
  intro ws H locs ls mst hx hw hS hl hs
  obtain ⟨_, mst, rfl, rfl, hs⟩ := hs
  cases hs
  exact W.widen hc hsl (vx_ret (W.lret C.1 C.2.1 (C.2.2.2.2.2.2.1.trans hret) (fun t ht hW => ⟨hS.F ht, _, _, ws, hr, rfl, ⟨_, rfl, rfl⟩, hx, by rw [ht, hh9]; exact hw.moved hW.alike⟩) hS.2.2 hd C.2.2.2.2.2.1))
theorem ev_vret (C : Cx p l s m args meth c B0 X own nm cc nL ret hh) (hret : ret = none) (hr : r = .inl none) (hc : cells ≤ mc) (hsl : slots ≤ ms) (hh9 : h' = h) (hd : decode cc pc = .ok (.return_, 1)) : Ev p l e R s m args below meth c D B0 X ws0 r h' mc ms nL cells slots pc L [] h := by
  intro ws H locs ls mst hx hw hS hl hs
  cases hs
  exact W.widen hc hsl (vx_ret (W.vret C.1 C.2.1 (C.2.2.2.2.2.2.1.trans hret) (fun t ht hW => ⟨hS.F ht, _, _, ws, hr, rfl, rfl, hx, by rw [ht, hh9]; exact hw.moved hW.alike⟩) hS.2.2 hd C.2.2.2.2.2.1))
theorem ev_aret (C : Cx p l s m args meth c B0 X own nm cc nL ret hh) {x : Value} {rt : FieldType} (hret : ret = some rt) (hrt : (∃ n, rt = .object n) ∨ ∃ t, rt = .array t) (hrf : aRf x) (hr : r = .inl (some x)) (hc : cells ≤ mc) (hsl : slots ≤ ms) (hh9 : h' = h) (hd : decode cc pc = .ok (.areturn, 1)) : Ev p l e R s m args below meth c D B0 X ws0 r h' mc ms nL cells slots pc L [x] h := by
  intro ws H locs ls mst hx hw hS hl hs
  obtain ⟨v, mst, rfl, h2, hs⟩ := hs
  cases hs
  exact W.widen hc hsl (vx_ret (W.aret C.1 C.2.1 (C.2.2.2.2.2.2.1.trans hret) hrt (h2.rf hrf) (fun t ht hW => ⟨hS.F ht, _, _, ws, hr, rfl, ⟨_, rfl, h2⟩, hx, by rw [ht, hh9]; exact hw.moved hW.alike⟩) hS.2.2 hd C.2.2.2.2.2.1))
theorem ev_getsBASE (C : Cx p l s m args meth c B0 X own nm cc nL ret hh) {index : Nat} (hlk : Cond.fieldLink own index "SteeringHouse" "BASE" "[I" ∈ aTB) (hd : decode cc pc = .ok (.getstatic index, 3)) (kk : Ev p l e R s m args below meth c D B0 X ws0 r h' mc ms nL cells slots (pc + 3) L (.ref (aE + 1) :: st) h) : Ev p l e R s m args below meth c D B0 X ws0 r h' mc ms nL cells slots pc L st h := by
  intro ws H locs ls mst hx hw hS hl hs
  exact va_gets C.1 C.2.1 (C.2.2.2.2.2.2.2.2.1.2.1.1) hS C.2.2.2.1 (C.2.2.2.2.1 _ hlk) (fun _ q => q) hd (kk ws H locs ls _ hx hw hS hl ⟨_, _, rfl, Or.inr (Or.inl ⟨by omega, rfl⟩), hs⟩)
theorem ev_getsBASEN (C : Cx p l s m args meth c B0 X own nm cc nL ret hh) {index : Nat} {host : String} (hlk : Cond.fieldLinkNest own index "SteeringHouse" "BASE" "[I" host ∈ lw_tbl) (hd : decode cc pc = .ok (.getstatic index, 3)) (kk : Ev p l e R s m args below meth c D B0 X ws0 r h' mc ms nL cells slots (pc + 3) L (.ref (aE + 1) :: st) h) : Ev p l e R s m args below meth c D B0 X ws0 r h' mc ms nL cells slots pc L st h := by
  intro ws H locs ls mst hx hw hS hl hs
  exact va_getsN C.1 C.2.1 (C.2.2.2.2.2.2.2.2.1.2.1.1) hS C.2.2.2.1 (va_Nw.use rfl (C.2.2.2.2.2.2.2.2.1.1 _ hlk rfl)) (fun _ q => q) hd (kk ws H locs ls _ hx hw hS hl ⟨_, _, rfl, Or.inr (Or.inl ⟨by omega, rfl⟩), hs⟩)
theorem ev_getsMOST (C : Cx p l s m args meth c B0 X own nm cc nL ret hh) {index : Nat} (hlk : Cond.fieldLink own index "SteeringHouse" "MOST" "[I" ∈ aTB) (hd : decode cc pc = .ok (.getstatic index, 3)) (kk : Ev p l e R s m args below meth c D B0 X ws0 r h' mc ms nL cells slots (pc + 3) L (.ref (aE + 2) :: st) h) : Ev p l e R s m args below meth c D B0 X ws0 r h' mc ms nL cells slots pc L st h := by
  intro ws H locs ls mst hx hw hS hl hs
  exact va_gets C.1 C.2.1 (C.2.2.2.2.2.2.2.2.1.2.2.1.1) hS C.2.2.2.1 (C.2.2.2.2.1 _ hlk) (fun _ q => q) hd (kk ws H locs ls _ hx hw hS hl ⟨_, _, rfl, Or.inr (Or.inl ⟨by omega, rfl⟩), hs⟩)
theorem ev_getsMOSTN (C : Cx p l s m args meth c B0 X own nm cc nL ret hh) {index : Nat} {host : String} (hlk : Cond.fieldLinkNest own index "SteeringHouse" "MOST" "[I" host ∈ lw_tbl) (hd : decode cc pc = .ok (.getstatic index, 3)) (kk : Ev p l e R s m args below meth c D B0 X ws0 r h' mc ms nL cells slots (pc + 3) L (.ref (aE + 2) :: st) h) : Ev p l e R s m args below meth c D B0 X ws0 r h' mc ms nL cells slots pc L st h := by
  intro ws H locs ls mst hx hw hS hl hs
  exact va_getsN C.1 C.2.1 (C.2.2.2.2.2.2.2.2.1.2.2.1.1) hS C.2.2.2.1 (va_Nw.use rfl (C.2.2.2.2.2.2.2.2.1.1 _ hlk rfl)) (fun _ q => q) hd (kk ws H locs ls _ hx hw hS hl ⟨_, _, rfl, Or.inr (Or.inl ⟨by omega, rfl⟩), hs⟩)
theorem ev_getsRES (C : Cx p l s m args meth c B0 X own nm cc nL ret hh) {index : Nat} (hlk : Cond.fieldLink own index "SteeringHouse$Reader" "RESERVED" "[J" ∈ aTB) (hd : decode cc pc = .ok (.getstatic index, 3)) (kk : Ev p l e R s m args below meth c D B0 X ws0 r h' mc ms nL cells slots (pc + 3) L (.ref (aE + 3) :: st) h) : Ev p l e R s m args below meth c D B0 X ws0 r h' mc ms nL cells slots pc L st h := by
  intro ws H locs ls mst hx hw hS hl hs
  exact va_gets C.1 C.2.1 (C.2.2.2.2.2.2.2.2.1.2.2.2.1.1) hS C.2.2.2.1 (C.2.2.2.2.1 _ hlk) (fun _ q => q) hd (kk ws H locs ls _ hx hw hS hl ⟨_, _, rfl, Or.inr (Or.inl ⟨by omega, rfl⟩), hs⟩)
theorem ev_getsRESN (C : Cx p l s m args meth c B0 X own nm cc nL ret hh) {index : Nat} {host : String} (hlk : Cond.fieldLinkNest own index "SteeringHouse$Reader" "RESERVED" "[J" host ∈ lw_tbl) (hd : decode cc pc = .ok (.getstatic index, 3)) (kk : Ev p l e R s m args below meth c D B0 X ws0 r h' mc ms nL cells slots (pc + 3) L (.ref (aE + 3) :: st) h) : Ev p l e R s m args below meth c D B0 X ws0 r h' mc ms nL cells slots pc L st h := by
  intro ws H locs ls mst hx hw hS hl hs
  exact va_getsN C.1 C.2.1 (C.2.2.2.2.2.2.2.2.1.2.2.2.1.1) hS C.2.2.2.1 (va_Nw.use rfl (C.2.2.2.2.2.2.2.2.1.1 _ hlk rfl)) (fun _ q => q) hd (kk ws H locs ls _ hx hw hS hl ⟨_, _, rfl, Or.inr (Or.inl ⟨by omega, rfl⟩), hs⟩)
theorem ev_ldcS (C : Cx p l s m args meth c B0 X own nm cc nL ret hh) {index k : Nat} {t : String} (how : own = "SteeringHouseModel") (hk : aTxt[k]? = some (index, t)) (hd : decode cc pc = .ok (.ldc index, 2)) (kk : Ev p l e R s m args below meth c D B0 X ws0 r h' mc ms nL cells slots (pc + 2) L (.ref (aE + 10 + k) :: st) h) : Ev p l e R s m args below meth c D B0 X ws0 r h' mc ms nL cells slots pc L st h := by
  intro ws H locs ls mst hx hw hS hl hs
  exact va_ldcS C.1 C.2.1 C.2.2.2.1 (by rw [how]; exact C.2.2.2.2.2.2.2.2.1.2.2.2.2.2.2.1 k index t hk) hd (kk ws H locs ls _ hx hw hS hl ⟨_, _, rfl, Or.inr (Or.inl ⟨by omega, rfl⟩), hs⟩)
theorem ev_mmax (C : Cx p l s m args meth c B0 X own nm cc nL ret hh) {index : Nat} {x y : Int32} (hlk : Cond.methodLink own index Lib.Math.max.name ∈ aTB) (hst : Cond.static Lib.Math.max.name ∈ aTB) (hini : Cond.initialized "java/lang/Math" ∈ aTB) (hco : Cond.code Lib.Math.max.name Lib.Math.max.code 2 (some .int) ∈ aTB) (hfr : 1 ≤ R.frames) (hlo : (st.map fun v => v.category).sum + 13 ≤ R.locals) (hc : cells ≤ R.cells) (hsl : slots ≤ R.slots) (hd : decode cc pc = .ok (.invokestatic index, 3)) (kk : Ev p l e R s m args below meth c D B0 X ws0 r h' mc ms nL cells slots (pc + 3) L (.int (jmax x y) :: st) h) : Ev p l e R s m args below meth c D B0 X ws0 r h' mc ms nL cells slots pc L (.int y :: .int x :: st) h := by
  intro ws H locs ls mst hx hw hS hl hs
  obtain ⟨_, _, rfl, rfl, _, mst, rfl, rfl, hs⟩ := hs
  exact va_mmax C.1 C.2.1 (C.2.2.1.trans hl.1.symm) C.2.2.2.1 (C.2.2.2.2.1 _ hlk) (C.2.2.2.2.1 _ hst) (C.2.2.2.2.1 _ hini) (C.2.2.2.2.1 _ hco) hfr (by rw [hs.cats]; exact hlo) hc hsl hd (kk ws H locs ls _ hx hw hS hl ⟨_, _, rfl, rfl, hs⟩)
theorem ev_mmin (C : Cx p l s m args meth c B0 X own nm cc nL ret hh) {index : Nat} {x y : Int32} (hlk : Cond.methodLink own index Lib.Math.min.name ∈ aTB) (hst : Cond.static Lib.Math.min.name ∈ aTB) (hini : Cond.initialized "java/lang/Math" ∈ aTB) (hco : Cond.code Lib.Math.min.name Lib.Math.min.code 2 (some .int) ∈ aTB) (hfr : 1 ≤ R.frames) (hlo : (st.map fun v => v.category).sum + 13 ≤ R.locals) (hc : cells ≤ R.cells) (hsl : slots ≤ R.slots) (hd : decode cc pc = .ok (.invokestatic index, 3)) (kk : Ev p l e R s m args below meth c D B0 X ws0 r h' mc ms nL cells slots (pc + 3) L (.int (jmin x y) :: st) h) : Ev p l e R s m args below meth c D B0 X ws0 r h' mc ms nL cells slots pc L (.int y :: .int x :: st) h := by
  intro ws H locs ls mst hx hw hS hl hs
  obtain ⟨_, _, rfl, rfl, _, mst, rfl, rfl, hs⟩ := hs
  exact va_mmin C.1 C.2.1 (C.2.2.1.trans hl.1.symm) C.2.2.2.1 (C.2.2.2.2.1 _ hlk) (C.2.2.2.2.1 _ hst) (C.2.2.2.2.1 _ hini) (C.2.2.2.2.1 _ hco) hfr (by rw [hs.cats]; exact hlo) hc hsl hd (kk ws H locs ls _ hx hw hS hl ⟨_, _, rfl, rfl, hs⟩)
theorem ev_cpI (C : Cx p l s m args meth c B0 X own nm cc nL ret hh) {index : Nat} {v w : Value} {sp dp n : Int32} {h1 : aH} (hlk : Cond.methodLink own index arraycopyName ∈ aTB) (hnat : Cond.native arraycopyName ∈ aTB) (hst : Cond.static arraycopyName ∈ aTB) (hini : Cond.initialized "java/lang/System" ∈ aTB) (hg : cpI h v sp w dp n = some h1) (hfr : 1 ≤ R.frames) (hlo : (st.map fun v => v.category).sum + (nativeFrameWords "java/lang/System" "arraycopy" 5 + 11) ≤ R.locals) (hd : decode cc pc = .ok (.invokestatic index, 3)) (kk : Ev p l e R s m args below meth c D B0 X ws0 r h' mc ms nL cells slots (pc + 3) L st h1) : Ev p l e R s m args below meth c D B0 X ws0 r h' mc ms nL cells slots pc L (.int n :: .int dp :: w :: .int sp :: v :: st) h := by
  intro ws H locs ls mst hx hw hS hl hs
  obtain ⟨_, _, rfl, rfl, _, _, rfl, rfl, mw, _, rfl, h3, _, _, rfl, rfl, mv, mst, rfl, h2, hs⟩ := hs
  obtain ⟨a, b, n0, n1, f, g, rfl, rfl, ha, hb, hfa, hfb, q1, q2, q3, q4, q5, rfl⟩ := cpI_at hg
  obtain ⟨hP, hD, hlen, tys, hK, hM⟩ := id hw
  obtain ⟨ad, ea, g1, g2⟩ := hM a _ hfa
  obtain ⟨bd, eb, k1, k2⟩ := hM b _ hfb
  match ea, eb, g1, g2, k1, k2 with
  | .inl (ca, xa), .inl (cb, xb), g1, ⟨z1, ta, ga⟩, k1, ⟨z2, tb, kb⟩ =>
    subst z1; subst z2
    have e2 : mv = .ref ad := by
      rcases h2 with ⟨-, a2, e2, h4, rfl⟩ | ⟨h4, -⟩ | ⟨h4, -⟩
      · rw [g1] at h4; cases h4; rfl
      · exact absurd ha (Nat.lt_asymm h4)
      · exact absurd ha (by rw [h4]; exact Nat.lt_irrefl _)
    have e3 : mw = .ref bd := by
      rcases h3 with ⟨-, a2, e2, h4, rfl⟩ | ⟨h4, -⟩ | ⟨h4, -⟩
      · rw [k1] at h4; cases h4; rfl
      · exact absurd hb (Nat.lt_asymm h4)
      · exact absurd hb (by rw [h4]; exact Nat.lt_irrefl _)
    subst e2; subst e3
    refine va_copyi C.1 C.2.1 (C.2.2.1.trans hl.1.symm) C.2.2.2.1 (C.2.2.2.2.1 _ hlk) (C.2.2.2.2.1 _ hnat) (C.2.2.2.2.1 _ hst) (C.2.2.2.2.1 _ hini) hK hP hD hS a b ta tb g1 k1 ga kb rfl q1 q2 q3 q4 q5 (fun _ _ => rfl) hfr (by rw [hs.cats]; exact hlo) hd (fun H1 locs1 hP1 hD1 hS1 => ?_)
    have hxt := aXt.set (e2 := .inl (cb, n1, .inl (va_cpy f g sp.toNatClampNeg dp.toNatClampNeg n.toNatClampNeg))) k1
    refine kk _ H1 locs1 ls _ (hx.trans hxt) (hw.set k1 hP1 hD1 (fun tys hM => ?_)) hS1 (hl.mono hxt) (hs.mono hxt)
    obtain ⟨a2, e2, g9, g8⟩ := hM b _ hfb
    rw [k1] at g9
    cases g9
    exact ⟨rfl, g8.2⟩
theorem ev_cpJ (C : Cx p l s m args meth c B0 X own nm cc nL ret hh) {index : Nat} {v w : Value} {sp dp n : Int32} {h1 : aH} (hlk : Cond.methodLink own index arraycopyName ∈ aTB) (hnat : Cond.native arraycopyName ∈ aTB) (hst : Cond.static arraycopyName ∈ aTB) (hini : Cond.initialized "java/lang/System" ∈ aTB) (hg : cpJ h v sp w dp n = some h1) (hfr : 1 ≤ R.frames) (hlo : (st.map fun v => v.category).sum + (nativeFrameWords "java/lang/System" "arraycopy" 5 + 11) ≤ R.locals) (hd : decode cc pc = .ok (.invokestatic index, 3)) (kk : Ev p l e R s m args below meth c D B0 X ws0 r h' mc ms nL cells slots (pc + 3) L st h1) : Ev p l e R s m args below meth c D B0 X ws0 r h' mc ms nL cells slots pc L (.int n :: .int dp :: w :: .int sp :: v :: st) h := by
  intro ws H locs ls mst hx hw hS hl hs
  obtain ⟨_, _, rfl, rfl, _, _, rfl, rfl, mw, _, rfl, h3, _, _, rfl, rfl, mv, mst, rfl, h2, hs⟩ := hs
  obtain ⟨a, b, n0, n1, f, g, rfl, rfl, ha, hb, hfa, hfb, q1, q2, q3, q4, q5, rfl⟩ := cpJ_at hg
  obtain ⟨hP, hD, hlen, tys, hK, hM⟩ := id hw
  obtain ⟨ad, ea, g1, g2⟩ := hM a _ hfa
  obtain ⟨bd, eb, k1, k2⟩ := hM b _ hfb
  match ea, eb, g1, g2, k1, k2 with
  | .inl (ca, xa), .inl (cb, xb), g1, ⟨z1, ta, ga⟩, k1, ⟨z2, tb, kb⟩ =>
    subst z1; subst z2
    have e2 : mv = .ref ad := by
      rcases h2 with ⟨-, a2, e2, h4, rfl⟩ | ⟨h4, -⟩ | ⟨h4, -⟩
      · rw [g1] at h4; cases h4; rfl
      · exact absurd ha (Nat.lt_asymm h4)
      · exact absurd ha (by rw [h4]; exact Nat.lt_irrefl _)
    have e3 : mw = .ref bd := by
      rcases h3 with ⟨-, a2, e2, h4, rfl⟩ | ⟨h4, -⟩ | ⟨h4, -⟩
      · rw [k1] at h4; cases h4; rfl
      · exact absurd hb (Nat.lt_asymm h4)
      · exact absurd hb (by rw [h4]; exact Nat.lt_irrefl _)
    subst e2; subst e3
    refine va_copyl C.1 C.2.1 (C.2.2.1.trans hl.1.symm) C.2.2.2.1 (C.2.2.2.2.1 _ hlk) (C.2.2.2.2.1 _ hnat) (C.2.2.2.2.1 _ hst) (C.2.2.2.2.1 _ hini) hK hP hD hS a b ta tb g1 k1 ga kb rfl q1 q2 q3 q4 q5 (fun _ _ => rfl) hfr (by rw [hs.cats]; exact hlo) hd (fun H1 locs1 hP1 hD1 hS1 => ?_)
    have hxt := aXt.set (e2 := .inl (cb, n1, .inr (.inl (va_cpy f g sp.toNatClampNeg dp.toNatClampNeg n.toNatClampNeg)))) k1
    refine kk _ H1 locs1 ls _ (hx.trans hxt) (hw.set k1 hP1 hD1 (fun tys hM => ?_)) hS1 (hl.mono hxt) (hs.mono hxt)
    obtain ⟨a2, e2, g9, g8⟩ := hM b _ hfb
    rw [k1] at g9
    cases g9
    exact ⟨rfl, g8.2⟩
end RA
