section RL
variable {p : Program} {l : Launch} {e : Env} {R : Room} {s : State} {m : MethodId} {args : Array Value} {below : List Frame} {meth : Method} {c : Code} {D : va_G} {B0 : Nat} {X : Nat → Nat} {ws0 : va_W} {r : aR} {h' : aH} {mc ms nL cells slots pc : Nat} {L : List (Option Value)} {st : List Value} {h : aH}
variable {own nm : String} {cc : ByteArray} {ret : Option FieldType} {hh : List (Nat × Nat × Nat × Nat)}
theorem ev_iconst (C : Cx p l s m args meth c B0 X own nm cc nL ret hh) {n : Int} {v : Int32} (hd : decode cc pc = .ok (.iconst n, 1)) (hv : Int32.ofInt n = v) (kk : Ev p l e R s m args below meth c D B0 X ws0 r h' mc ms nL cells slots (pc + 1) L (.int v :: st) h) : Ev p l e R s m args below meth c D B0 X ws0 r h' mc ms nL cells slots pc L st h := by
  intro ws H locs ls mst hx hw hS hl hs
  exact lv_iconst C.1 C.2.1 hd hv (kk ws H locs ls _ hx hw hS hl ⟨_, _, rfl, rfl, hs⟩)
theorem ev_bipush (C : Cx p l s m args meth c B0 X own nm cc nL ret hh) {n : Int} {v : Int32} (hd : decode cc pc = .ok (.bipush n, 2)) (hv : (Int8.ofInt n).toInt32 = v) (kk : Ev p l e R s m args below meth c D B0 X ws0 r h' mc ms nL cells slots (pc + 2) L (.int v :: st) h) : Ev p l e R s m args below meth c D B0 X ws0 r h' mc ms nL cells slots pc L st h := by
  intro ws H locs ls mst hx hw hS hl hs
  exact lv_bipush C.1 C.2.1 hd hv (kk ws H locs ls _ hx hw hS hl ⟨_, _, rfl, rfl, hs⟩)
theorem ev_sipush (C : Cx p l s m args meth c B0 X own nm cc nL ret hh) {n : Int} {v : Int32} (hd : decode cc pc = .ok (.sipush n, 3)) (hv : (Int16.ofInt n).toInt32 = v) (kk : Ev p l e R s m args below meth c D B0 X ws0 r h' mc ms nL cells slots (pc + 3) L (.int v :: st) h) : Ev p l e R s m args below meth c D B0 X ws0 r h' mc ms nL cells slots pc L st h := by
  intro ws H locs ls mst hx hw hS hl hs
  exact lv_sipush C.1 C.2.1 hd hv (kk ws H locs ls _ hx hw hS hl ⟨_, _, rfl, rfl, hs⟩)
theorem ev_lconst (C : Cx p l s m args meth c B0 X own nm cc nL ret hh) {n : Fin 2} {v : Int64} (hd : decode cc pc = .ok (.lconst n, 1)) (hv : Int64.ofNat (n : Nat) = v) (kk : Ev p l e R s m args below meth c D B0 X ws0 r h' mc ms nL cells slots (pc + 1) L (.long v :: st) h) : Ev p l e R s m args below meth c D B0 X ws0 r h' mc ms nL cells slots pc L st h := by
  intro ws H locs ls mst hx hw hS hl hs
  exact lv_lconst C.1 C.2.1 hd hv (kk ws H locs ls _ hx hw hS hl ⟨_, _, rfl, rfl, hs⟩)
theorem ev_null (C : Cx p l s m args meth c B0 X own nm cc nL ret hh) (hd : decode cc pc = .ok (.aconst_null, 1)) (kk : Ev p l e R s m args below meth c D B0 X ws0 r h' mc ms nL cells slots (pc + 1) L (.null :: st) h) : Ev p l e R s m args below meth c D B0 X ws0 r h' mc ms nL cells slots pc L st h := by
  intro ws H locs ls mst hx hw hS hl hs
  exact lv_null C.1 C.2.1 hd (kk ws H locs ls _ hx hw hS hl ⟨_, _, rfl, rfl, hs⟩)
theorem ev_ldc (C : Cx p l s m args meth c B0 X own nm cc nL ret hh) {index : Nat} {v : Int32} (hk : Cond.constant own index v ∈ aTB) (hd : decode cc pc = .ok (.ldc index, 2)) (kk : Ev p l e R s m args below meth c D B0 X ws0 r h' mc ms nL cells slots (pc + 2) L (.int v :: st) h) : Ev p l e R s m args below meth c D B0 X ws0 r h' mc ms nL cells slots pc L st h := by
  intro ws H locs ls mst hx hw hS hl hs
  exact lv_ldc C.1 C.2.1 C.2.2.2.1 (C.2.2.2.2.1 _ hk) hd (kk ws H locs ls _ hx hw hS hl ⟨_, _, rfl, rfl, hs⟩)
theorem ev_ldcw (C : Cx p l s m args meth c B0 X own nm cc nL ret hh) {index : Nat} {v : Int32} (hk : Cond.constant own index v ∈ aTB) (hd : decode cc pc = .ok (.ldc_w index, 3)) (kk : Ev p l e R s m args below meth c D B0 X ws0 r h' mc ms nL cells slots (pc + 3) L (.int v :: st) h) : Ev p l e R s m args below meth c D B0 X ws0 r h' mc ms nL cells slots pc L st h := by
  intro ws H locs ls mst hx hw hS hl hs
  exact lv_ldcw C.1 C.2.1 C.2.2.2.1 (C.2.2.2.2.1 _ hk) hd (kk ws H locs ls _ hx hw hS hl ⟨_, _, rfl, rfl, hs⟩)
theorem ev_ldc2 (C : Cx p l s m args meth c B0 X own nm cc nL ret hh) {index : Nat} {v : Int64} (hk : Cond.constantLong own index v ∈ aTB) (hd : decode cc pc = .ok (.ldc2_w index, 3)) (kk : Ev p l e R s m args below meth c D B0 X ws0 r h' mc ms nL cells slots (pc + 3) L (.long v :: st) h) : Ev p l e R s m args below meth c D B0 X ws0 r h' mc ms nL cells slots pc L st h := by
  intro ws H locs ls mst hx hw hS hl hs
  exact lv_ldc2 C.1 C.2.1 C.2.2.2.1 (C.2.2.2.2.1 _ hk) hd (kk ws H locs ls _ hx hw hS hl ⟨_, _, rfl, rfl, hs⟩)
theorem ev_iload (C : Cx p l s m args meth c B0 X own nm cc nL ret hh) {i : Nat} {x : Int32} (hi : L[i]? = some (some (.int x))) (hd : decode cc pc = .ok (.iload i, 2)) (kk : Ev p l e R s m args below meth c D B0 X ws0 r h' mc ms nL cells slots (pc + 2) L (.int x :: st) h) : Ev p l e R s m args below meth c D B0 X ws0 r h' mc ms nL cells slots pc L st h := by
  intro ws H locs ls mst hx hw hS hl hs
  obtain ⟨v, h1, rfl⟩ := hl.at hi
  exact lv_iload C.1 C.2.1 hd h1 (kk ws H locs ls _ hx hw hS hl ⟨_, _, rfl, rfl, hs⟩)
theorem ev_iload_n (C : Cx p l s m args meth c B0 X own nm cc nL ret hh) {k : Fin 4} {x : Int32} (hi : L[(k : Nat)]? = some (some (.int x))) (hd : decode cc pc = .ok (.iload_n k, 1)) (kk : Ev p l e R s m args below meth c D B0 X ws0 r h' mc ms nL cells slots (pc + 1) L (.int x :: st) h) : Ev p l e R s m args below meth c D B0 X ws0 r h' mc ms nL cells slots pc L st h := by
  intro ws H locs ls mst hx hw hS hl hs
  obtain ⟨v, h1, rfl⟩ := hl.at hi
  exact lv_iload_n C.1 C.2.1 hd rfl h1 (kk ws H locs ls _ hx hw hS hl ⟨_, _, rfl, rfl, hs⟩)
theorem ev_lload (C : Cx p l s m args meth c B0 X own nm cc nL ret hh) {i : Nat} {x : Int64} (hi : L[i]? = some (some (.long x))) (hd : decode cc pc = .ok (.lload i, 2)) (kk : Ev p l e R s m args below meth c D B0 X ws0 r h' mc ms nL cells slots (pc + 2) L (.long x :: st) h) : Ev p l e R s m args below meth c D B0 X ws0 r h' mc ms nL cells slots pc L st h := by
  intro ws H locs ls mst hx hw hS hl hs
  obtain ⟨v, h1, rfl⟩ := hl.at hi
  exact lv_lload C.1 C.2.1 hd h1 (kk ws H locs ls _ hx hw hS hl ⟨_, _, rfl, rfl, hs⟩)
theorem ev_lload_n (C : Cx p l s m args meth c B0 X own nm cc nL ret hh) {k : Fin 4} {x : Int64} (hi : L[(k : Nat)]? = some (some (.long x))) (hd : decode cc pc = .ok (.lload_n k, 1)) (kk : Ev p l e R s m args below meth c D B0 X ws0 r h' mc ms nL cells slots (pc + 1) L (.long x :: st) h) : Ev p l e R s m args below meth c D B0 X ws0 r h' mc ms nL cells slots pc L st h := by
  intro ws H locs ls mst hx hw hS hl hs
  obtain ⟨v, h1, rfl⟩ := hl.at hi
  exact lv_lload_n C.1 C.2.1 hd rfl h1 (kk ws H locs ls _ hx hw hS hl ⟨_, _, rfl, rfl, hs⟩)
def aRf : Value → Prop
  | .ref _ => True
  | .null => True
  | _ => False
theorem aV.rf {X : Nat → Nat} {ws : va_W} {x v : Value} (hx : aRf x) (hv : aV X ws x v) : v = .null ∨ ∃ a, v = .ref a := by
  cases x with
  | ref i => rcases hv with ⟨-, a, e, -, rfl⟩ | ⟨-, rfl⟩ | ⟨-, q, rfl⟩ <;> exact Or.inr ⟨_, rfl⟩
  | null => exact Or.inl hv
  | _ => exact hx.elim
theorem ev_aload (C : Cx p l s m args meth c B0 X own nm cc nL ret hh) {i : Nat} {x : Value} (hi : L[i]? = some (some x)) (hr : aRf x) (hd : decode cc pc = .ok (.aload i, 2)) (kk : Ev p l e R s m args below meth c D B0 X ws0 r h' mc ms nL cells slots (pc + 2) L (x :: st) h) : Ev p l e R s m args below meth c D B0 X ws0 r h' mc ms nL cells slots pc L st h := by
  intro ws H locs ls mst hx hw hS hl hs
  obtain ⟨v, h1, h2⟩ := hl.at hi
  have k9 := kk ws H locs ls (v :: mst) hx hw hS hl ⟨_, _, rfl, h2, hs⟩
  rcases h2.rf hr with rfl | ⟨a, rfl⟩
  · exact lv_aloadN C.1 C.2.1 hd h1 k9
  · exact lv_aload C.1 C.2.1 hd h1 k9
theorem ev_aload_n (C : Cx p l s m args meth c B0 X own nm cc nL ret hh) {k : Fin 4} {x : Value} (hi : L[(k : Nat)]? = some (some x)) (hr : aRf x) (hd : decode cc pc = .ok (.aload_n k, 1)) (kk : Ev p l e R s m args below meth c D B0 X ws0 r h' mc ms nL cells slots (pc + 1) L (x :: st) h) : Ev p l e R s m args below meth c D B0 X ws0 r h' mc ms nL cells slots pc L st h := by
  intro ws H locs ls mst hx hw hS hl hs
  obtain ⟨v, h1, h2⟩ := hl.at hi
  have k9 := kk ws H locs ls (v :: mst) hx hw hS hl ⟨_, _, rfl, h2, hs⟩
  rcases h2.rf hr with rfl | ⟨a, rfl⟩
  · exact lv_aload_nN C.1 C.2.1 hd rfl h1 k9
  · exact lv_aload_n C.1 C.2.1 hd rfl h1 k9
theorem ev_istore (C : Cx p l s m args meth c B0 X own nm cc nL ret hh) {i : Nat} {x : Int32} (hn : i < nL) (hd : decode cc pc = .ok (.istore i, 2)) (kk : Ev p l e R s m args below meth c D B0 X ws0 r h' mc ms nL cells slots (pc + 2) (aPut L i (.int x)) st h) : Ev p l e R s m args below meth c D B0 X ws0 r h' mc ms nL cells slots pc L (.int x :: st) h := by
  intro ws H locs ls mst hx hw hS hl hs
  obtain ⟨_, _, rfl, rfl, hs⟩ := hs
  exact lv_istore C.1 C.2.1 hd (aLv_has hl.1 hl.2.1) hn rfl (fun ls' hl' => kk ws H locs ls' _ hx hw hS (hl.put rfl hl') hs)
theorem ev_istore_n (C : Cx p l s m args meth c B0 X own nm cc nL ret hh) {k : Fin 4} {x : Int32} (hn : (k : Nat) < nL) (hd : decode cc pc = .ok (.istore_n k, 1)) (kk : Ev p l e R s m args below meth c D B0 X ws0 r h' mc ms nL cells slots (pc + 1) (aPut L (k : Nat) (.int x)) st h) : Ev p l e R s m args below meth c D B0 X ws0 r h' mc ms nL cells slots pc L (.int x :: st) h := by
  intro ws H locs ls mst hx hw hS hl hs
  obtain ⟨_, _, rfl, rfl, hs⟩ := hs
  exact lv_istore_n C.1 C.2.1 hd rfl (aLv_has hl.1 hl.2.1) hn rfl (fun ls' hl' => kk ws H locs ls' _ hx hw hS (hl.put rfl hl') hs)
theorem ev_lstore (C : Cx p l s m args meth c B0 X own nm cc nL ret hh) {i : Nat} {x : Int64} (hn : i + 1 < nL) (hd : decode cc pc = .ok (.lstore i, 2)) (kk : Ev p l e R s m args below meth c D B0 X ws0 r h' mc ms nL cells slots (pc + 2) (aPut2 L i (.long x)) st h) : Ev p l e R s m args below meth c D B0 X ws0 r h' mc ms nL cells slots pc L (.long x :: st) h := by
  intro ws H locs ls mst hx hw hS hl hs
  obtain ⟨_, _, rfl, rfl, hs⟩ := hs
  exact lv_lstore C.1 C.2.1 hd (aLv_has hl.1 hl.2.1) hn rfl (fun ls' hl' => kk ws H locs ls' _ hx hw hS (hl.put2 rfl hl') hs)
theorem ev_lstore_n (C : Cx p l s m args meth c B0 X own nm cc nL ret hh) {k : Fin 4} {x : Int64} (hn : (k : Nat) + 1 < nL) (hd : decode cc pc = .ok (.lstore_n k, 1)) (kk : Ev p l e R s m args below meth c D B0 X ws0 r h' mc ms nL cells slots (pc + 1) (aPut2 L (k : Nat) (.long x)) st h) : Ev p l e R s m args below meth c D B0 X ws0 r h' mc ms nL cells slots pc L (.long x :: st) h := by
  intro ws H locs ls mst hx hw hS hl hs
  obtain ⟨_, _, rfl, rfl, hs⟩ := hs
  exact lv_lstore_n C.1 C.2.1 hd rfl (aLv_has hl.1 hl.2.1) hn rfl (fun ls' hl' => kk ws H locs ls' _ hx hw hS (hl.put2 rfl hl') hs)
theorem ev_astore (C : Cx p l s m args meth c B0 X own nm cc nL ret hh) {i : Nat} {x : Value} (hr : aRf x) (hn : i < nL) (hd : decode cc pc = .ok (.astore i, 2)) (kk : Ev p l e R s m args below meth c D B0 X ws0 r h' mc ms nL cells slots (pc + 2) (aPut L i x) st h) : Ev p l e R s m args below meth c D B0 X ws0 r h' mc ms nL cells slots pc L (x :: st) h := by
  intro ws H locs ls mst hx hw hS hl hs
  obtain ⟨v, mst, rfl, h2, hs⟩ := hs
  rcases h2.rf hr with rfl | ⟨a, rfl⟩
  · exact lv_astoreN C.1 C.2.1 hd (aLv_has hl.1 hl.2.1) hn rfl (fun ls' hl' => kk ws H locs ls' _ hx hw hS (hl.put h2 hl') hs)
  · exact lv_astore C.1 C.2.1 hd (aLv_has hl.1 hl.2.1) hn rfl (fun ls' hl' => kk ws H locs ls' _ hx hw hS (hl.put h2 hl') hs)
theorem ev_astore_n (C : Cx p l s m args meth c B0 X own nm cc nL ret hh) {k : Fin 4} {x : Value} (hr : aRf x) (hn : (k : Nat) < nL) (hd : decode cc pc = .ok (.astore_n k, 1)) (kk : Ev p l e R s m args below meth c D B0 X ws0 r h' mc ms nL cells slots (pc + 1) (aPut L (k : Nat) x) st h) : Ev p l e R s m args below meth c D B0 X ws0 r h' mc ms nL cells slots pc L (x :: st) h := by
  intro ws H locs ls mst hx hw hS hl hs
  obtain ⟨v, mst, rfl, h2, hs⟩ := hs
  rcases h2.rf hr with rfl | ⟨a, rfl⟩
  · exact lv_astore_nN C.1 C.2.1 hd rfl (aLv_has hl.1 hl.2.1) hn rfl (fun ls' hl' => kk ws H locs ls' _ hx hw hS (hl.put h2 hl') hs)
  · exact lv_astore_n C.1 C.2.1 hd rfl (aLv_has hl.1 hl.2.1) hn rfl (fun ls' hl' => kk ws H locs ls' _ hx hw hS (hl.put h2 hl') hs)
theorem ev_iinc (C : Cx p l s m args meth c B0 X own nm cc nL ret hh) {i : Nat} {n : Int} {x v : Int32} (hi : L[i]? = some (some (.int x))) (hv : x + Int32.ofInt n = v) (hn : i < nL) (hd : decode cc pc = .ok (.iinc i n, 3)) (kk : Ev p l e R s m args below meth c D B0 X ws0 r h' mc ms nL cells slots (pc + 3) (aPut L i (.int v)) st h) : Ev p l e R s m args below meth c D B0 X ws0 r h' mc ms nL cells slots pc L st h := by
  intro ws H locs ls mst hx hw hS hl hs
  obtain ⟨_, h1, rfl⟩ := hl.at hi
  obtain ⟨k, hk⟩ := List.getElem?_of_mem (aLv_mem h1)
  exact lv_iinc C.1 C.2.1 hd (aLv_has hl.1 hl.2.1) hk hv hn rfl (fun ls' hl' => kk ws H locs ls' _ hx hw hS (hl.put rfl hl') hs)
theorem ev_iadd (C : Cx p l s m args meth c B0 X own nm cc nL ret hh) {x y : Int32} (hd : decode cc pc = .ok (.iadd, 1)) (kk : Ev p l e R s m args below meth c D B0 X ws0 r h' mc ms nL cells slots (pc + 1) L (.int (x + y) :: st) h) : Ev p l e R s m args below meth c D B0 X ws0 r h' mc ms nL cells slots pc L (.int y :: .int x :: st) h := by
  intro ws H locs ls mst hx hw hS hl hs
  obtain ⟨_, _, rfl, rfl, _, _, rfl, rfl, hs⟩ := hs
  exact lv_iadd C.1 C.2.1 hd (kk ws H locs ls _ hx hw hS hl ⟨_, _, rfl, rfl, hs⟩)
theorem ev_isub (C : Cx p l s m args meth c B0 X own nm cc nL ret hh) {x y : Int32} (hd : decode cc pc = .ok (.isub, 1)) (kk : Ev p l e R s m args below meth c D B0 X ws0 r h' mc ms nL cells slots (pc + 1) L (.int (x - y) :: st) h) : Ev p l e R s m args below meth c D B0 X ws0 r h' mc ms nL cells slots pc L (.int y :: .int x :: st) h := by
  intro ws H locs ls mst hx hw hS hl hs
  obtain ⟨_, _, rfl, rfl, _, _, rfl, rfl, hs⟩ := hs
  exact lv_isub C.1 C.2.1 hd (kk ws H locs ls _ hx hw hS hl ⟨_, _, rfl, rfl, hs⟩)
theorem ev_imul (C : Cx p l s m args meth c B0 X own nm cc nL ret hh) {x y : Int32} (hd : decode cc pc = .ok (.imul, 1)) (kk : Ev p l e R s m args below meth c D B0 X ws0 r h' mc ms nL cells slots (pc + 1) L (.int (x * y) :: st) h) : Ev p l e R s m args below meth c D B0 X ws0 r h' mc ms nL cells slots pc L (.int y :: .int x :: st) h := by
  intro ws H locs ls mst hx hw hS hl hs
  obtain ⟨_, _, rfl, rfl, _, _, rfl, rfl, hs⟩ := hs
  exact lv_imul C.1 C.2.1 hd (kk ws H locs ls _ hx hw hS hl ⟨_, _, rfl, rfl, hs⟩)
theorem ev_iand (C : Cx p l s m args meth c B0 X own nm cc nL ret hh) {x y : Int32} (hd : decode cc pc = .ok (.iand, 1)) (kk : Ev p l e R s m args below meth c D B0 X ws0 r h' mc ms nL cells slots (pc + 1) L (.int (x &&& y) :: st) h) : Ev p l e R s m args below meth c D B0 X ws0 r h' mc ms nL cells slots pc L (.int y :: .int x :: st) h := by
  intro ws H locs ls mst hx hw hS hl hs
  obtain ⟨_, _, rfl, rfl, _, _, rfl, rfl, hs⟩ := hs
  exact lv_iand C.1 C.2.1 hd (kk ws H locs ls _ hx hw hS hl ⟨_, _, rfl, rfl, hs⟩)
theorem ev_ior (C : Cx p l s m args meth c B0 X own nm cc nL ret hh) {x y : Int32} (hd : decode cc pc = .ok (.ior, 1)) (kk : Ev p l e R s m args below meth c D B0 X ws0 r h' mc ms nL cells slots (pc + 1) L (.int (x ||| y) :: st) h) : Ev p l e R s m args below meth c D B0 X ws0 r h' mc ms nL cells slots pc L (.int y :: .int x :: st) h := by
  intro ws H locs ls mst hx hw hS hl hs
  obtain ⟨_, _, rfl, rfl, _, _, rfl, rfl, hs⟩ := hs
  exact lv_ior C.1 C.2.1 hd (kk ws H locs ls _ hx hw hS hl ⟨_, _, rfl, rfl, hs⟩)
theorem ev_ixor (C : Cx p l s m args meth c B0 X own nm cc nL ret hh) {x y : Int32} (hd : decode cc pc = .ok (.ixor, 1)) (kk : Ev p l e R s m args below meth c D B0 X ws0 r h' mc ms nL cells slots (pc + 1) L (.int (x ^^^ y) :: st) h) : Ev p l e R s m args below meth c D B0 X ws0 r h' mc ms nL cells slots pc L (.int y :: .int x :: st) h := by
  intro ws H locs ls mst hx hw hS hl hs
  obtain ⟨_, _, rfl, rfl, _, _, rfl, rfl, hs⟩ := hs
  exact lv_ixor C.1 C.2.1 hd (kk ws H locs ls _ hx hw hS hl ⟨_, _, rfl, rfl, hs⟩)
theorem ev_ishl (C : Cx p l s m args meth c B0 X own nm cc nL ret hh) {x y : Int32} (hd : decode cc pc = .ok (.ishl, 1)) (kk : Ev p l e R s m args below meth c D B0 X ws0 r h' mc ms nL cells slots (pc + 1) L (.int (x <<< (y &&& 31)) :: st) h) : Ev p l e R s m args below meth c D B0 X ws0 r h' mc ms nL cells slots pc L (.int y :: .int x :: st) h := by
  intro ws H locs ls mst hx hw hS hl hs
  obtain ⟨_, _, rfl, rfl, _, _, rfl, rfl, hs⟩ := hs
  exact lv_ishl C.1 C.2.1 hd (kk ws H locs ls _ hx hw hS hl ⟨_, _, rfl, rfl, hs⟩)
theorem ev_ishr (C : Cx p l s m args meth c B0 X own nm cc nL ret hh) {x y : Int32} (hd : decode cc pc = .ok (.ishr, 1)) (kk : Ev p l e R s m args below meth c D B0 X ws0 r h' mc ms nL cells slots (pc + 1) L (.int (x >>> (y &&& 31)) :: st) h) : Ev p l e R s m args below meth c D B0 X ws0 r h' mc ms nL cells slots pc L (.int y :: .int x :: st) h := by
  intro ws H locs ls mst hx hw hS hl hs
  obtain ⟨_, _, rfl, rfl, _, _, rfl, rfl, hs⟩ := hs
  exact lv_ishr C.1 C.2.1 hd (kk ws H locs ls _ hx hw hS hl ⟨_, _, rfl, rfl, hs⟩)
theorem ev_idiv (C : Cx p l s m args meth c B0 X own nm cc nL ret hh) {x y : Int32} (hne : ¬ y = 0) (hd : decode cc pc = .ok (.idiv, 1)) (kk : Ev p l e R s m args below meth c D B0 X ws0 r h' mc ms nL cells slots (pc + 1) L (.int (x / y) :: st) h) : Ev p l e R s m args below meth c D B0 X ws0 r h' mc ms nL cells slots pc L (.int y :: .int x :: st) h := by
  intro ws H locs ls mst hx hw hS hl hs
  obtain ⟨_, _, rfl, rfl, _, _, rfl, rfl, hs⟩ := hs
  exact lv_idiv C.1 C.2.1 hd hne (kk ws H locs ls _ hx hw hS hl ⟨_, _, rfl, rfl, hs⟩)
theorem ev_irem (C : Cx p l s m args meth c B0 X own nm cc nL ret hh) {x y : Int32} (hne : ¬ y = 0) (hd : decode cc pc = .ok (.irem, 1)) (kk : Ev p l e R s m args below meth c D B0 X ws0 r h' mc ms nL cells slots (pc + 1) L (.int (x - x / y * y) :: st) h) : Ev p l e R s m args below meth c D B0 X ws0 r h' mc ms nL cells slots pc L (.int y :: .int x :: st) h := by
  intro ws H locs ls mst hx hw hS hl hs
  obtain ⟨_, _, rfl, rfl, _, _, rfl, rfl, hs⟩ := hs
  exact lv_irem C.1 C.2.1 hd hne (kk ws H locs ls _ hx hw hS hl ⟨_, _, rfl, rfl, hs⟩)
theorem ev_ladd (C : Cx p l s m args meth c B0 X own nm cc nL ret hh) {x y : Int64} (hd : decode cc pc = .ok (.ladd, 1)) (kk : Ev p l e R s m args below meth c D B0 X ws0 r h' mc ms nL cells slots (pc + 1) L (.long (x + y) :: st) h) : Ev p l e R s m args below meth c D B0 X ws0 r h' mc ms nL cells slots pc L (.long y :: .long x :: st) h := by
  intro ws H locs ls mst hx hw hS hl hs
  obtain ⟨_, _, rfl, rfl, _, _, rfl, rfl, hs⟩ := hs
  exact lv_ladd C.1 C.2.1 hd (kk ws H locs ls _ hx hw hS hl ⟨_, _, rfl, rfl, hs⟩)
theorem ev_lsub (C : Cx p l s m args meth c B0 X own nm cc nL ret hh) {x y : Int64} (hd : decode cc pc = .ok (.lsub, 1)) (kk : Ev p l e R s m args below meth c D B0 X ws0 r h' mc ms nL cells slots (pc + 1) L (.long (x - y) :: st) h) : Ev p l e R s m args below meth c D B0 X ws0 r h' mc ms nL cells slots pc L (.long y :: .long x :: st) h := by
  intro ws H locs ls mst hx hw hS hl hs
  obtain ⟨_, _, rfl, rfl, _, _, rfl, rfl, hs⟩ := hs
  exact lv_lsub C.1 C.2.1 hd (kk ws H locs ls _ hx hw hS hl ⟨_, _, rfl, rfl, hs⟩)
theorem ev_lmul (C : Cx p l s m args meth c B0 X own nm cc nL ret hh) {x y : Int64} (hd : decode cc pc = .ok (.lmul, 1)) (kk : Ev p l e R s m args below meth c D B0 X ws0 r h' mc ms nL cells slots (pc + 1) L (.long (x * y) :: st) h) : Ev p l e R s m args below meth c D B0 X ws0 r h' mc ms nL cells slots pc L (.long y :: .long x :: st) h := by
  intro ws H locs ls mst hx hw hS hl hs
  obtain ⟨_, _, rfl, rfl, _, _, rfl, rfl, hs⟩ := hs
  exact lv_lmul C.1 C.2.1 hd (kk ws H locs ls _ hx hw hS hl ⟨_, _, rfl, rfl, hs⟩)
theorem ev_ldiv (C : Cx p l s m args meth c B0 X own nm cc nL ret hh) {x y : Int64} (hne : ¬ y = 0) (hd : decode cc pc = .ok (.ldiv, 1)) (kk : Ev p l e R s m args below meth c D B0 X ws0 r h' mc ms nL cells slots (pc + 1) L (.long (x / y) :: st) h) : Ev p l e R s m args below meth c D B0 X ws0 r h' mc ms nL cells slots pc L (.long y :: .long x :: st) h := by
  intro ws H locs ls mst hx hw hS hl hs
  obtain ⟨_, _, rfl, rfl, _, _, rfl, rfl, hs⟩ := hs
  exact lv_ldiv C.1 C.2.1 hd hne (kk ws H locs ls _ hx hw hS hl ⟨_, _, rfl, rfl, hs⟩)
theorem ev_lrem (C : Cx p l s m args meth c B0 X own nm cc nL ret hh) {x y : Int64} (hne : ¬ y = 0) (hd : decode cc pc = .ok (.lrem, 1)) (kk : Ev p l e R s m args below meth c D B0 X ws0 r h' mc ms nL cells slots (pc + 1) L (.long (x - x / y * y) :: st) h) : Ev p l e R s m args below meth c D B0 X ws0 r h' mc ms nL cells slots pc L (.long y :: .long x :: st) h := by
  intro ws H locs ls mst hx hw hS hl hs
  obtain ⟨_, _, rfl, rfl, _, _, rfl, rfl, hs⟩ := hs
  exact lv_lrem C.1 C.2.1 hd hne (kk ws H locs ls _ hx hw hS hl ⟨_, _, rfl, rfl, hs⟩)
theorem ev_iushr (C : Cx p l s m args meth c B0 X own nm cc nL ret hh) {x y : Int32} (hd : decode cc pc = .ok (.iushr, 1)) (kk : Ev p l e R s m args below meth c D B0 X ws0 r h' mc ms nL cells slots (pc + 1) L (.int ((x.toUInt32 >>> (y.toUInt32 &&& Int32.toUInt32 31)).toInt32) :: st) h) : Ev p l e R s m args below meth c D B0 X ws0 r h' mc ms nL cells slots pc L (.int y :: .int x :: st) h := by
  intro ws H locs ls mst hx hw hS hl hs
  obtain ⟨_, _, rfl, rfl, _, _, rfl, rfl, hs⟩ := hs
  exact lv_iushr C.1 C.2.1 hd rfl (kk ws H locs ls _ hx hw hS hl ⟨_, _, rfl, rfl, hs⟩)
theorem ev_ineg (C : Cx p l s m args meth c B0 X own nm cc nL ret hh) {x : Int32} (hd : decode cc pc = .ok (.ineg, 1)) (kk : Ev p l e R s m args below meth c D B0 X ws0 r h' mc ms nL cells slots (pc + 1) L (.int (-x) :: st) h) : Ev p l e R s m args below meth c D B0 X ws0 r h' mc ms nL cells slots pc L (.int x :: st) h := by
  intro ws H locs ls mst hx hw hS hl hs
  obtain ⟨_, _, rfl, rfl, hs⟩ := hs
  exact lv_ineg C.1 C.2.1 hd (kk ws H locs ls _ hx hw hS hl ⟨_, _, rfl, rfl, hs⟩)
theorem ev_lneg (C : Cx p l s m args meth c B0 X own nm cc nL ret hh) {x : Int64} (hd : decode cc pc = .ok (.lneg, 1)) (kk : Ev p l e R s m args below meth c D B0 X ws0 r h' mc ms nL cells slots (pc + 1) L (.long (-x) :: st) h) : Ev p l e R s m args below meth c D B0 X ws0 r h' mc ms nL cells slots pc L (.long x :: st) h := by
  intro ws H locs ls mst hx hw hS hl hs
  obtain ⟨_, _, rfl, rfl, hs⟩ := hs
  exact lv_lneg C.1 C.2.1 hd (kk ws H locs ls _ hx hw hS hl ⟨_, _, rfl, rfl, hs⟩)
theorem ev_i2l (C : Cx p l s m args meth c B0 X own nm cc nL ret hh) {x : Int32} (hd : decode cc pc = .ok (.i2l, 1)) (kk : Ev p l e R s m args below meth c D B0 X ws0 r h' mc ms nL cells slots (pc + 1) L (.long (x.toInt64) :: st) h) : Ev p l e R s m args below meth c D B0 X ws0 r h' mc ms nL cells slots pc L (.int x :: st) h := by
  intro ws H locs ls mst hx hw hS hl hs
  obtain ⟨_, _, rfl, rfl, hs⟩ := hs
  exact lv_i2l C.1 C.2.1 hd rfl (kk ws H locs ls _ hx hw hS hl ⟨_, _, rfl, rfl, hs⟩)
theorem ev_l2i (C : Cx p l s m args meth c B0 X own nm cc nL ret hh) {x : Int64} (hd : decode cc pc = .ok (.l2i, 1)) (kk : Ev p l e R s m args below meth c D B0 X ws0 r h' mc ms nL cells slots (pc + 1) L (.int (x.toInt32) :: st) h) : Ev p l e R s m args below meth c D B0 X ws0 r h' mc ms nL cells slots pc L (.long x :: st) h := by
  intro ws H locs ls mst hx hw hS hl hs
  obtain ⟨_, _, rfl, rfl, hs⟩ := hs
  exact lv_l2i C.1 C.2.1 hd rfl (kk ws H locs ls _ hx hw hS hl ⟨_, _, rfl, rfl, hs⟩)
theorem ev_i2b (C : Cx p l s m args meth c B0 X own nm cc nL ret hh) {x : Int32} (hd : decode cc pc = .ok (.i2b, 1)) (kk : Ev p l e R s m args below meth c D B0 X ws0 r h' mc ms nL cells slots (pc + 1) L (.int (x.toInt8.toInt32) :: st) h) : Ev p l e R s m args below meth c D B0 X ws0 r h' mc ms nL cells slots pc L (.int x :: st) h := by
  intro ws H locs ls mst hx hw hS hl hs
  obtain ⟨_, _, rfl, rfl, hs⟩ := hs
  exact lv_i2b C.1 C.2.1 hd rfl (kk ws H locs ls _ hx hw hS hl ⟨_, _, rfl, rfl, hs⟩)
theorem ev_i2s (C : Cx p l s m args meth c B0 X own nm cc nL ret hh) {x : Int32} (hd : decode cc pc = .ok (.i2s, 1)) (kk : Ev p l e R s m args below meth c D B0 X ws0 r h' mc ms nL cells slots (pc + 1) L (.int (x.toInt16.toInt32) :: st) h) : Ev p l e R s m args below meth c D B0 X ws0 r h' mc ms nL cells slots pc L (.int x :: st) h := by
  intro ws H locs ls mst hx hw hS hl hs
  obtain ⟨_, _, rfl, rfl, hs⟩ := hs
  exact lv_i2s C.1 C.2.1 hd rfl (kk ws H locs ls _ hx hw hS hl ⟨_, _, rfl, rfl, hs⟩)
theorem ev_i2c (C : Cx p l s m args meth c B0 X own nm cc nL ret hh) {x : Int32} (hd : decode cc pc = .ok (.i2c, 1)) (kk : Ev p l e R s m args below meth c D B0 X ws0 r h' mc ms nL cells slots (pc + 1) L (.int ((x.toUInt32 % 65536).toInt32) :: st) h) : Ev p l e R s m args below meth c D B0 X ws0 r h' mc ms nL cells slots pc L (.int x :: st) h := by
  intro ws H locs ls mst hx hw hS hl hs
  obtain ⟨_, _, rfl, rfl, hs⟩ := hs
  exact lv_i2c C.1 C.2.1 hd rfl (kk ws H locs ls _ hx hw hS hl ⟨_, _, rfl, rfl, hs⟩)
theorem ev_lcmp (C : Cx p l s m args meth c B0 X own nm cc nL ret hh) {x y : Int64} (hd : decode cc pc = .ok (.lcmp, 1)) (kk : Ev p l e R s m args below meth c D B0 X ws0 r h' mc ms nL cells slots (pc + 1) L (.int (lg_cmp x y) :: st) h) : Ev p l e R s m args below meth c D B0 X ws0 r h' mc ms nL cells slots pc L (.long y :: .long x :: st) h := by
  intro ws H locs ls mst hx hw hS hl hs
  obtain ⟨_, _, rfl, rfl, _, _, rfl, rfl, hs⟩ := hs
  exact W.lcmp C.1 C.2.1 hd (kk ws H locs ls _ hx hw hS hl ⟨_, _, rfl, rfl, hs⟩)
theorem ev_if_eq (C : Cx p l s m args meth c B0 X own nm cc nL ret hh) {x : Int32} {off : Int} {tgt : Nat} (ht : (pc : Int) + off = (tgt : Int)) (hd : decode cc pc = .ok (.ifCond .eq off, 3)) (kt : x = 0 → Ev p l e R s m args below meth c D B0 X ws0 r h' mc ms nL cells slots tgt L st h) (kf : ¬ x = 0 → Ev p l e R s m args below meth c D B0 X ws0 r h' mc ms nL cells slots (pc + 3) L st h) : Ev p l e R s m args below meth c D B0 X ws0 r h' mc ms nL cells slots pc L (.int x :: st) h := by
  intro ws H locs ls mst hx hw hS hl hs
  obtain ⟨_, _, rfl, rfl, hs⟩ := hs
  exact lv_if_eq C.1 C.2.1 hd ht (fun q => kt q ws H locs ls _ hx hw hS hl hs) (fun q => kf q ws H locs ls _ hx hw hS hl hs)
theorem ev_if_ne (C : Cx p l s m args meth c B0 X own nm cc nL ret hh) {x : Int32} {off : Int} {tgt : Nat} (ht : (pc : Int) + off = (tgt : Int)) (hd : decode cc pc = .ok (.ifCond .ne off, 3)) (kt : ¬ x = 0 → Ev p l e R s m args below meth c D B0 X ws0 r h' mc ms nL cells slots tgt L st h) (kf : x = 0 → Ev p l e R s m args below meth c D B0 X ws0 r h' mc ms nL cells slots (pc + 3) L st h) : Ev p l e R s m args below meth c D B0 X ws0 r h' mc ms nL cells slots pc L (.int x :: st) h := by
  intro ws H locs ls mst hx hw hS hl hs
  obtain ⟨_, _, rfl, rfl, hs⟩ := hs
  exact lv_if_ne C.1 C.2.1 hd ht (fun q => kt q ws H locs ls _ hx hw hS hl hs) (fun q => kf q ws H locs ls _ hx hw hS hl hs)
theorem ev_if_lt (C : Cx p l s m args meth c B0 X own nm cc nL ret hh) {x : Int32} {off : Int} {tgt : Nat} (ht : (pc : Int) + off = (tgt : Int)) (hd : decode cc pc = .ok (.ifCond .lt off, 3)) (kt : x < 0 → Ev p l e R s m args below meth c D B0 X ws0 r h' mc ms nL cells slots tgt L st h) (kf : ¬ x < 0 → Ev p l e R s m args below meth c D B0 X ws0 r h' mc ms nL cells slots (pc + 3) L st h) : Ev p l e R s m args below meth c D B0 X ws0 r h' mc ms nL cells slots pc L (.int x :: st) h := by
  intro ws H locs ls mst hx hw hS hl hs
  obtain ⟨_, _, rfl, rfl, hs⟩ := hs
  exact lv_if_lt C.1 C.2.1 hd ht (fun q => kt q ws H locs ls _ hx hw hS hl hs) (fun q => kf q ws H locs ls _ hx hw hS hl hs)
theorem ev_if_ge (C : Cx p l s m args meth c B0 X own nm cc nL ret hh) {x : Int32} {off : Int} {tgt : Nat} (ht : (pc : Int) + off = (tgt : Int)) (hd : decode cc pc = .ok (.ifCond .ge off, 3)) (kt : 0 ≤ x → Ev p l e R s m args below meth c D B0 X ws0 r h' mc ms nL cells slots tgt L st h) (kf : ¬ 0 ≤ x → Ev p l e R s m args below meth c D B0 X ws0 r h' mc ms nL cells slots (pc + 3) L st h) : Ev p l e R s m args below meth c D B0 X ws0 r h' mc ms nL cells slots pc L (.int x :: st) h := by
  intro ws H locs ls mst hx hw hS hl hs
  obtain ⟨_, _, rfl, rfl, hs⟩ := hs
  exact lv_if_ge C.1 C.2.1 hd ht (fun q => kt q ws H locs ls _ hx hw hS hl hs) (fun q => kf q ws H locs ls _ hx hw hS hl hs)
theorem ev_if_gt (C : Cx p l s m args meth c B0 X own nm cc nL ret hh) {x : Int32} {off : Int} {tgt : Nat} (ht : (pc : Int) + off = (tgt : Int)) (hd : decode cc pc = .ok (.ifCond .gt off, 3)) (kt : 0 < x → Ev p l e R s m args below meth c D B0 X ws0 r h' mc ms nL cells slots tgt L st h) (kf : ¬ 0 < x → Ev p l e R s m args below meth c D B0 X ws0 r h' mc ms nL cells slots (pc + 3) L st h) : Ev p l e R s m args below meth c D B0 X ws0 r h' mc ms nL cells slots pc L (.int x :: st) h := by
  intro ws H locs ls mst hx hw hS hl hs
  obtain ⟨_, _, rfl, rfl, hs⟩ := hs
  exact lv_if_gt C.1 C.2.1 hd ht (fun q => kt q ws H locs ls _ hx hw hS hl hs) (fun q => kf q ws H locs ls _ hx hw hS hl hs)
theorem ev_if_le (C : Cx p l s m args meth c B0 X own nm cc nL ret hh) {x : Int32} {off : Int} {tgt : Nat} (ht : (pc : Int) + off = (tgt : Int)) (hd : decode cc pc = .ok (.ifCond .le off, 3)) (kt : x ≤ 0 → Ev p l e R s m args below meth c D B0 X ws0 r h' mc ms nL cells slots tgt L st h) (kf : ¬ x ≤ 0 → Ev p l e R s m args below meth c D B0 X ws0 r h' mc ms nL cells slots (pc + 3) L st h) : Ev p l e R s m args below meth c D B0 X ws0 r h' mc ms nL cells slots pc L (.int x :: st) h := by
  intro ws H locs ls mst hx hw hS hl hs
  obtain ⟨_, _, rfl, rfl, hs⟩ := hs
  exact lv_if_le C.1 C.2.1 hd ht (fun q => kt q ws H locs ls _ hx hw hS hl hs) (fun q => kf q ws H locs ls _ hx hw hS hl hs)
theorem ev_icmp_eq (C : Cx p l s m args meth c B0 X own nm cc nL ret hh) {x y : Int32} {off : Int} {tgt : Nat} (ht : (pc : Int) + off = (tgt : Int)) (hd : decode cc pc = .ok (.if_icmp .eq off, 3)) (kt : x = y → Ev p l e R s m args below meth c D B0 X ws0 r h' mc ms nL cells slots tgt L st h) (kf : ¬ x = y → Ev p l e R s m args below meth c D B0 X ws0 r h' mc ms nL cells slots (pc + 3) L st h) : Ev p l e R s m args below meth c D B0 X ws0 r h' mc ms nL cells slots pc L (.int y :: .int x :: st) h := by
  intro ws H locs ls mst hx hw hS hl hs
  obtain ⟨_, _, rfl, rfl, _, _, rfl, rfl, hs⟩ := hs
  exact lv_icmp_eq C.1 C.2.1 hd ht (fun q => kt q ws H locs ls _ hx hw hS hl hs) (fun q => kf q ws H locs ls _ hx hw hS hl hs)
theorem ev_icmp_ne (C : Cx p l s m args meth c B0 X own nm cc nL ret hh) {x y : Int32} {off : Int} {tgt : Nat} (ht : (pc : Int) + off = (tgt : Int)) (hd : decode cc pc = .ok (.if_icmp .ne off, 3)) (kt : ¬ x = y → Ev p l e R s m args below meth c D B0 X ws0 r h' mc ms nL cells slots tgt L st h) (kf : x = y → Ev p l e R s m args below meth c D B0 X ws0 r h' mc ms nL cells slots (pc + 3) L st h) : Ev p l e R s m args below meth c D B0 X ws0 r h' mc ms nL cells slots pc L (.int y :: .int x :: st) h := by
  intro ws H locs ls mst hx hw hS hl hs
  obtain ⟨_, _, rfl, rfl, _, _, rfl, rfl, hs⟩ := hs
  exact lv_icmp_ne C.1 C.2.1 hd ht (fun q => kt q ws H locs ls _ hx hw hS hl hs) (fun q => kf q ws H locs ls _ hx hw hS hl hs)
theorem ev_icmp_lt (C : Cx p l s m args meth c B0 X own nm cc nL ret hh) {x y : Int32} {off : Int} {tgt : Nat} (ht : (pc : Int) + off = (tgt : Int)) (hd : decode cc pc = .ok (.if_icmp .lt off, 3)) (kt : x < y → Ev p l e R s m args below meth c D B0 X ws0 r h' mc ms nL cells slots tgt L st h) (kf : ¬ x < y → Ev p l e R s m args below meth c D B0 X ws0 r h' mc ms nL cells slots (pc + 3) L st h) : Ev p l e R s m args below meth c D B0 X ws0 r h' mc ms nL cells slots pc L (.int y :: .int x :: st) h := by
  intro ws H locs ls mst hx hw hS hl hs
  obtain ⟨_, _, rfl, rfl, _, _, rfl, rfl, hs⟩ := hs
  exact lv_icmp_lt C.1 C.2.1 hd ht (fun q => kt q ws H locs ls _ hx hw hS hl hs) (fun q => kf q ws H locs ls _ hx hw hS hl hs)
theorem ev_icmp_ge (C : Cx p l s m args meth c B0 X own nm cc nL ret hh) {x y : Int32} {off : Int} {tgt : Nat} (ht : (pc : Int) + off = (tgt : Int)) (hd : decode cc pc = .ok (.if_icmp .ge off, 3)) (kt : y ≤ x → Ev p l e R s m args below meth c D B0 X ws0 r h' mc ms nL cells slots tgt L st h) (kf : ¬ y ≤ x → Ev p l e R s m args below meth c D B0 X ws0 r h' mc ms nL cells slots (pc + 3) L st h) : Ev p l e R s m args below meth c D B0 X ws0 r h' mc ms nL cells slots pc L (.int y :: .int x :: st) h := by
  intro ws H locs ls mst hx hw hS hl hs
  obtain ⟨_, _, rfl, rfl, _, _, rfl, rfl, hs⟩ := hs
  exact lv_icmp_ge C.1 C.2.1 hd ht (fun q => kt q ws H locs ls _ hx hw hS hl hs) (fun q => kf q ws H locs ls _ hx hw hS hl hs)
theorem ev_icmp_gt (C : Cx p l s m args meth c B0 X own nm cc nL ret hh) {x y : Int32} {off : Int} {tgt : Nat} (ht : (pc : Int) + off = (tgt : Int)) (hd : decode cc pc = .ok (.if_icmp .gt off, 3)) (kt : y < x → Ev p l e R s m args below meth c D B0 X ws0 r h' mc ms nL cells slots tgt L st h) (kf : ¬ y < x → Ev p l e R s m args below meth c D B0 X ws0 r h' mc ms nL cells slots (pc + 3) L st h) : Ev p l e R s m args below meth c D B0 X ws0 r h' mc ms nL cells slots pc L (.int y :: .int x :: st) h := by
  intro ws H locs ls mst hx hw hS hl hs
  obtain ⟨_, _, rfl, rfl, _, _, rfl, rfl, hs⟩ := hs
  exact lv_icmp_gt C.1 C.2.1 hd ht (fun q => kt q ws H locs ls _ hx hw hS hl hs) (fun q => kf q ws H locs ls _ hx hw hS hl hs)
theorem ev_icmp_le (C : Cx p l s m args meth c B0 X own nm cc nL ret hh) {x y : Int32} {off : Int} {tgt : Nat} (ht : (pc : Int) + off = (tgt : Int)) (hd : decode cc pc = .ok (.if_icmp .le off, 3)) (kt : x ≤ y → Ev p l e R s m args below meth c D B0 X ws0 r h' mc ms nL cells slots tgt L st h) (kf : ¬ x ≤ y → Ev p l e R s m args below meth c D B0 X ws0 r h' mc ms nL cells slots (pc + 3) L st h) : Ev p l e R s m args below meth c D B0 X ws0 r h' mc ms nL cells slots pc L (.int y :: .int x :: st) h := by
  intro ws H locs ls mst hx hw hS hl hs
  obtain ⟨_, _, rfl, rfl, _, _, rfl, rfl, hs⟩ := hs
  exact lv_icmp_le C.1 C.2.1 hd ht (fun q => kt q ws H locs ls _ hx hw hS hl hs) (fun q => kf q ws H locs ls _ hx hw hS hl hs)
theorem ev_goto (C : Cx p l s m args meth c B0 X own nm cc nL ret hh) {off : Int} {tgt : Nat} (ht : (pc : Int) + off = (tgt : Int)) (hd : decode cc pc = .ok (.goto off, 3)) (kk : Ev p l e R s m args below meth c D B0 X ws0 r h' mc ms nL cells slots tgt L st h) : Ev p l e R s m args below meth c D B0 X ws0 r h' mc ms nL cells slots pc L st h := by
  intro ws H locs ls mst hx hw hS hl hs
  exact lv_goto C.1 C.2.1 hd ht (kk ws H locs ls _ hx hw hS hl hs)
theorem ev_ifnull_r (C : Cx p l s m args meth c B0 X own nm cc nL ret hh) {i : Nat} {off : Int} (hd : decode cc pc = .ok (.ifnull off, 3)) (kk : Ev p l e R s m args below meth c D B0 X ws0 r h' mc ms nL cells slots (pc + 3) L st h) : Ev p l e R s m args below meth c D B0 X ws0 r h' mc ms nL cells slots pc L (.ref i :: st) h := by
  intro ws H locs ls mst hx hw hS hl hs
  obtain ⟨v, mst, rfl, h2, hs⟩ := hs
  rcases h2 with ⟨-, a, e9, -, rfl⟩ | ⟨-, rfl⟩ | ⟨-, q, rfl⟩ <;> exact lv_ifnull C.1 C.2.1 hd (kk ws H locs ls _ hx hw hS hl hs)
theorem ev_ifnull_n (C : Cx p l s m args meth c B0 X own nm cc nL ret hh) {off : Int} {tgt : Nat} (ht : (pc : Int) + off = (tgt : Int)) (hd : decode cc pc = .ok (.ifnull off, 3)) (kk : Ev p l e R s m args below meth c D B0 X ws0 r h' mc ms nL cells slots tgt L st h) : Ev p l e R s m args below meth c D B0 X ws0 r h' mc ms nL cells slots pc L (.null :: st) h := by
  intro ws H locs ls mst hx hw hS hl hs
  obtain ⟨_, mst, rfl, rfl, hs⟩ := hs
  exact lv_ifnullN C.1 C.2.1 hd ht (kk ws H locs ls _ hx hw hS hl hs)
theorem ev_ifnonnull_r (C : Cx p l s m args meth c B0 X own nm cc nL ret hh) {i : Nat} {off : Int} {tgt : Nat} (ht : (pc : Int) + off = (tgt : Int)) (hd : decode cc pc = .ok (.ifnonnull off, 3)) (kk : Ev p l e R s m args below meth c D B0 X ws0 r h' mc ms nL cells slots tgt L st h) : Ev p l e R s m args below meth c D B0 X ws0 r h' mc ms nL cells slots pc L (.ref i :: st) h := by
  intro ws H locs ls mst hx hw hS hl hs
  obtain ⟨v, mst, rfl, h2, hs⟩ := hs
  rcases h2 with ⟨-, a, e9, -, rfl⟩ | ⟨-, rfl⟩ | ⟨-, q, rfl⟩ <;> exact lv_ifnonnull C.1 C.2.1 hd ht (kk ws H locs ls _ hx hw hS hl hs)
theorem ev_ifnonnull_n (C : Cx p l s m args meth c B0 X own nm cc nL ret hh) {off : Int} (hd : decode cc pc = .ok (.ifnonnull off, 3)) (kk : Ev p l e R s m args below meth c D B0 X ws0 r h' mc ms nL cells slots (pc + 3) L st h) : Ev p l e R s m args below meth c D B0 X ws0 r h' mc ms nL cells slots pc L (.null :: st) h := by
  intro ws H locs ls mst hx hw hS hl hs
  obtain ⟨_, mst, rfl, rfl, hs⟩ := hs
  exact lv_ifnonnullN C.1 C.2.1 hd (kk ws H locs ls _ hx hw hS hl hs)
theorem ev_dup (C : Cx p l s m args meth c B0 X own nm cc nL ret hh) {x : Value} (hx1 : x.category = 1) (hd : decode cc pc = .ok (.dup, 1)) (kk : Ev p l e R s m args below meth c D B0 X ws0 r h' mc ms nL cells slots (pc + 1) L (x :: x :: st) h) : Ev p l e R s m args below meth c D B0 X ws0 r h' mc ms nL cells slots pc L (x :: st) h := by
  intro ws H locs ls mst hx hw hS hl hs
  obtain ⟨v, mst, rfl, h2, hs⟩ := hs
  exact lv_dup C.1 C.2.1 hd (h2.cat.trans hx1) (kk ws H locs ls _ hx hw hS hl ⟨_, _, rfl, h2, _, _, rfl, h2, hs⟩)
theorem ev_dup2 (C : Cx p l s m args meth c B0 X own nm cc nL ret hh) {x y : Value} (hx1 : x.category = 1) (hy1 : y.category = 1) (hd : decode cc pc = .ok (.dup2, 1)) (kk : Ev p l e R s m args below meth c D B0 X ws0 r h' mc ms nL cells slots (pc + 1) L (x :: y :: x :: y :: st) h) : Ev p l e R s m args below meth c D B0 X ws0 r h' mc ms nL cells slots pc L (x :: y :: st) h := by
  intro ws H locs ls mst hx hw hS hl hs
  obtain ⟨v, _, rfl, h2, w, mst, rfl, h3, hs⟩ := hs
  exact lv_dup2_11 C.1 C.2.1 hd (h2.cat.trans hx1) (h3.cat.trans hy1) (kk ws H locs ls _ hx hw hS hl ⟨_, _, rfl, h2, _, _, rfl, h3, _, _, rfl, h2, _, _, rfl, h3, hs⟩)
theorem ev_dup_x1 (C : Cx p l s m args meth c B0 X own nm cc nL ret hh) {x y : Value} (hx1 : x.category = 1) (hy1 : y.category = 1) (hd : decode cc pc = .ok (.dup_x1, 1)) (kk : Ev p l e R s m args below meth c D B0 X ws0 r h' mc ms nL cells slots (pc + 1) L (x :: y :: x :: st) h) : Ev p l e R s m args below meth c D B0 X ws0 r h' mc ms nL cells slots pc L (x :: y :: st) h := by
  intro ws H locs ls mst hx hw hS hl hs
  obtain ⟨v, _, rfl, h2, w, mst, rfl, h3, hs⟩ := hs
  exact lv_dup_x1 C.1 C.2.1 hd (h2.cat.trans hx1) (h3.cat.trans hy1) (kk ws H locs ls _ hx hw hS hl ⟨_, _, rfl, h2, _, _, rfl, h3, _, _, rfl, h2, hs⟩)
theorem ev_pop (C : Cx p l s m args meth c B0 X own nm cc nL ret hh) {x : Value} (hx1 : x.category = 1) (hd : decode cc pc = .ok (.pop, 1)) (kk : Ev p l e R s m args below meth c D B0 X ws0 r h' mc ms nL cells slots (pc + 1) L st h) : Ev p l e R s m args below meth c D B0 X ws0 r h' mc ms nL cells slots pc L (x :: st) h := by
  intro ws H locs ls mst hx hw hS hl hs
  obtain ⟨v, mst, rfl, h2, hs⟩ := hs
  exact lv_pop C.1 C.2.1 hd (h2.cat.trans hx1) (kk ws H locs ls _ hx hw hS hl hs)
theorem ev_tblIn (C : Cx p l s m args meth c B0 X own nm cc nL ret hh) {dflt lo hi : Int} {offs : Array Int} {len : Nat} {x : Int32} {off : Int} {tgt : Nat} (h1 : ¬ x.toInt < lo) (h2 : ¬ hi < x.toInt) (ho : offs[(x.toInt - lo).toNat]? = some off) (ht : (pc : Int) + off = (tgt : Int)) (hd : decode cc pc = .ok (.tableswitch dflt lo hi offs, len)) (kk : Ev p l e R s m args below meth c D B0 X ws0 r h' mc ms nL cells slots tgt L st h) : Ev p l e R s m args below meth c D B0 X ws0 r h' mc ms nL cells slots pc L (.int x :: st) h := by
  intro ws H locs ls mst hx hw hS hl hs
  obtain ⟨_, _, rfl, rfl, hs⟩ := hs
  exact lv_tableIn C.1 C.2.1 hd h1 h2 ho ht (kk ws H locs ls _ hx hw hS hl hs)
theorem ev_tblOut (C : Cx p l s m args meth c B0 X own nm cc nL ret hh) {dflt lo hi : Int} {offs : Array Int} {len : Nat} {x : Int32} {tgt : Nat} (h1 : x.toInt < lo ∨ hi < x.toInt) (ht : (pc : Int) + dflt = (tgt : Int)) (hd : decode cc pc = .ok (.tableswitch dflt lo hi offs, len)) (kk : Ev p l e R s m args below meth c D B0 X ws0 r h' mc ms nL cells slots tgt L st h) : Ev p l e R s m args below meth c D B0 X ws0 r h' mc ms nL cells slots pc L (.int x :: st) h := by
  intro ws H locs ls mst hx hw hS hl hs
  obtain ⟨_, _, rfl, rfl, hs⟩ := hs
  exact lv_tableOut C.1 C.2.1 hd h1 ht (kk ws H locs ls _ hx hw hS hl hs)
end RL
