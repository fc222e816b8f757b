section RH
variable {p : Program} {l : Launch} {e : Env} {R : Room} {s : State} {m : MethodId} {args : Array Value} {below : List Frame} {meth : Method} {c : Code} {D : va_G} {B0 : Nat} {X : Nat → Nat} {ws0 : va_W} {r : aR} {h' : aH} {mc ms nL cells slots pc : Nat} {L : List (Option Value)} {st : List Value} {h : aH}
variable {own nm : String} {cc : ByteArray} {ret : Option FieldType} {hh : List (Nat × Nat × Nat × Nat)}
theorem ev_get (C : Cx p l s m args meth c B0 X own nm cc nL ret hh) {index ci k N : Nat} {Cn : String} {T : u_T} (hc : vwCl[ci]? = some (Cn, T, N)) (hin : ∀ w ∈ u_ws Cn T N, w ∈ aTB) (hk : k < N) (hlk : Cond.fieldLink own index (T k).1 (T k).2.1 (T k).2.2.1 ∈ aTB) {v x : Value} (hg : gF h v ci k = some x) (hd : decode cc pc = .ok (.getfield index, 3)) (kk : Ev p l e R s m args below meth c D B0 X ws0 r h' mc ms nL cells slots (pc + 3) L (x :: st) h) : Ev p l e R s m args below meth c D B0 X ws0 r h' mc ms nL cells slots pc L (v :: st) h := by
  intro ws H locs ls mst hx hw hS hl hs
  obtain ⟨mv, mst, rfl, h2, hs⟩ := hs
  obtain ⟨a, fs, rfl, ha, hf, hkx⟩ := gF_at hg
  obtain ⟨ad, fs', rfl, hw1, hfs⟩ := hw.recv ha hf h2
  obtain ⟨mx, hmx, hmv⟩ := hfs.get hkx
  obtain ⟨hP, hD, hlen, tys, hK, hM⟩ := id hw
  exact va_get (C := Cn) (T := T) (N := N) (ref := (T k).1) C.1 C.2.1 C.2.2.2.2.1 hin C.2.2.2.1 hK hP a hw1 hc k hk (C.2.2.2.2.1 _ hlk) (fun _ q => q) hmx hd (kk ws H locs ls _ hx hw hS hl ⟨_, _, rfl, hmv, hs⟩)
theorem ev_getN (C : Cx p l s m args meth c B0 X own nm cc nL ret hh) {index ci k N : Nat} {Cn : String} {T : u_T} (hc : vwCl[ci]? = some (Cn, T, N)) (hin : ∀ w ∈ u_ws Cn T N, w ∈ aTB) (hk : k < N) {host : String} (hlk : Cond.fieldLinkNest own index (T k).1 (T k).2.1 (T k).2.2.1 host ∈ lw_tbl) {v x : Value} (hg : gF h v ci k = some x) (hd : decode cc pc = .ok (.getfield index, 3)) (kk : Ev p l e R s m args below meth c D B0 X ws0 r h' mc ms nL cells slots (pc + 3) L (x :: st) h) : Ev p l e R s m args below meth c D B0 X ws0 r h' mc ms nL cells slots pc L (v :: st) h := by
  intro ws H locs ls mst hx hw hS hl hs
  obtain ⟨mv, mst, rfl, h2, hs⟩ := hs
  obtain ⟨a, fs, rfl, ha, hf, hkx⟩ := gF_at hg
  obtain ⟨ad, fs', rfl, hw1, hfs⟩ := hw.recv ha hf h2
  obtain ⟨mx, hmx, hmv⟩ := hfs.get hkx
  obtain ⟨hP, hD, hlen, tys, hK, hM⟩ := id hw
  exact va_getN (C := Cn) (T := T) (N := N) (ref := (T k).1) C.1 C.2.1 C.2.2.2.2.1 hin C.2.2.2.1 hK hP a hw1 hc k hk (va_Nw.use rfl (C.2.2.2.2.2.2.2.2.1.1 _ hlk rfl)) (fun _ q => q) hmx hd (kk ws H locs ls _ hx hw hS hl ⟨_, _, rfl, hmv, hs⟩)
theorem ev_put (C : Cx p l s m args meth c B0 X own nm cc nL ret hh) {index ci k N : Nat} {Cn : String} {T : u_T} (hc : vwCl[ci]? = some (Cn, T, N)) (hin : ∀ w ∈ u_ws Cn T N, w ∈ aTB) (hk : k < N) (ty0 : Nat → FieldType) (hty : ∀ k, k < N → parseFieldDescriptor (T k).2.2.1 = some (ty0 k)) (hnm : ∀ a, a < N → ∀ b, b < N → a ≠ b → (T a).2.1 ≠ (T b).2.1) (hlk : Cond.fieldLink own index (T k).1 (T k).2.1 (T k).2.2.1 ∈ aTB) (hfin : (T k).2.2.2 = false) {v x : Value} {h1 : aH} (hok : okP (ty0 k) x) (hg : pF h v ci k x = some h1) (hd : decode cc pc = .ok (.putfield index, 3)) (kk : Ev p l e R s m args below meth c D B0 X ws0 r h' mc ms nL cells slots (pc + 3) L st h1) : Ev p l e R s m args below meth c D B0 X ws0 r h' mc ms nL cells slots pc L (x :: v :: st) h := by
  intro ws H locs ls mst hx hw hS hl hs
  obtain ⟨mx, _, rfl, hmx, mv, mst, rfl, h2, hs⟩ := hs
  obtain ⟨a, fs, rfl, ha, hf, hkl, rfl⟩ := pF_at hg
  obtain ⟨ad, fs', rfl, hw1, hfs⟩ := hw.recv ha hf h2
  obtain ⟨hP, hD, hlen, tys, hK, hM⟩ := id hw
  obtain ⟨hn, hft⟩ := hok.fit hmx
  refine va_put (C := Cn) (T := T) (N := N) (ref := (T k).1) C.1 C.2.1 C.2.2.2.2.1 hin ty0 hty hnm C.2.2.2.1 hK hP hD hS a hw1 hc k hk (C.2.2.2.2.1 _ hlk) (fun _ q => q) hfin (hty k hk) hn hft (by rw [hfs.len]; exact hkl) hd (fun H1 locs1 hP1 hD1 hS1 => ?_)
  have hxt := aXt.set (e2 := .inr (ci, fs'.set k mx)) hw1
  exact kk _ H1 locs1 ls _ (hx.trans hxt) (hw.set hw1 hP1 hD1 (fun tys _ => ⟨rfl, (hfs.mono hxt).set (hmx.mono hxt)⟩)) hS1 (hl.mono hxt) (hs.mono hxt)
theorem ev_putN (C : Cx p l s m args meth c B0 X own nm cc nL ret hh) {index ci k N : Nat} {Cn : String} {T : u_T} (hc : vwCl[ci]? = some (Cn, T, N)) (hin : ∀ w ∈ u_ws Cn T N, w ∈ aTB) (hk : k < N) (ty0 : Nat → FieldType) (hty : ∀ k, k < N → parseFieldDescriptor (T k).2.2.1 = some (ty0 k)) (hnm : ∀ a, a < N → ∀ b, b < N → a ≠ b → (T a).2.1 ≠ (T b).2.1) {host : String} (hlk : Cond.fieldLinkNest own index (T k).1 (T k).2.1 (T k).2.2.1 host ∈ lw_tbl) (hfin : (T k).2.2.2 = false) {v x : Value} {h1 : aH} (hok : okP (ty0 k) x) (hg : pF h v ci k x = some h1) (hd : decode cc pc = .ok (.putfield index, 3)) (kk : Ev p l e R s m args below meth c D B0 X ws0 r h' mc ms nL cells slots (pc + 3) L st h1) : Ev p l e R s m args below meth c D B0 X ws0 r h' mc ms nL cells slots pc L (x :: v :: st) h := by
  intro ws H locs ls mst hx hw hS hl hs
  obtain ⟨mx, _, rfl, hmx, mv, mst, rfl, h2, hs⟩ := hs
  obtain ⟨a, fs, rfl, ha, hf, hkl, rfl⟩ := pF_at hg
  obtain ⟨ad, fs', rfl, hw1, hfs⟩ := hw.recv ha hf h2
  obtain ⟨hP, hD, hlen, tys, hK, hM⟩ := id hw
  obtain ⟨hn, hft⟩ := hok.fit hmx
  refine va_putN (C := Cn) (T := T) (N := N) (ref := (T k).1) C.1 C.2.1 C.2.2.2.2.1 hin ty0 hty hnm C.2.2.2.1 hK hP hD hS a hw1 hc k hk (va_Nw.use rfl (C.2.2.2.2.2.2.2.2.1.1 _ hlk rfl)) (fun _ q => q) hfin (hty k hk) hn hft (by rw [hfs.len]; exact hkl) hd (fun H1 locs1 hP1 hD1 hS1 => ?_)
  have hxt := aXt.set (e2 := .inr (ci, fs'.set k mx)) hw1
  exact kk _ H1 locs1 ls _ (hx.trans hxt) (hw.set hw1 hP1 hD1 (fun tys _ => ⟨rfl, (hfs.mono hxt).set (hmx.mono hxt)⟩)) hS1 (hl.mono hxt) (hs.mono hxt)
theorem ev_putF (C : Cx p l s m args meth c B0 X own nm cc nL ret hh) {index ci k N : Nat} {Cn : String} {T : u_T} (hc : vwCl[ci]? = some (Cn, T, N)) (hin : ∀ w ∈ u_ws Cn T N, w ∈ aTB) (hk : k < N) (ty0 : Nat → FieldType) (hty : ∀ k, k < N → parseFieldDescriptor (T k).2.2.1 = some (ty0 k)) (hnm : ∀ a, a < N → ∀ b, b < N → a ≠ b → (T a).2.1 ≠ (T b).2.1) (hlk : Cond.fieldLink own index (T k).1 (T k).2.1 (T k).2.2.1 ∈ aTB) (hfin : (T k).2.2.2 = true) (hini : nm = "<init>") (hdc : (T k).1 = own) {v x : Value} {h1 : aH} (hok : okP (ty0 k) x) (hg : pF h v ci k x = some h1) (hd : decode cc pc = .ok (.putfield index, 3)) (kk : Ev p l e R s m args below meth c D B0 X ws0 r h' mc ms nL cells slots (pc + 3) L st h1) : Ev p l e R s m args below meth c D B0 X ws0 r h' mc ms nL cells slots pc L (x :: v :: st) h := by
  intro ws H locs ls mst hx hw hS hl hs
  obtain ⟨mx, _, rfl, hmx, mv, mst, rfl, h2, hs⟩ := hs
  obtain ⟨a, fs, rfl, ha, hf, hkl, rfl⟩ := pF_at hg
  obtain ⟨ad, fs', rfl, hw1, hfs⟩ := hw.recv ha hf h2
  obtain ⟨hP, hD, hlen, tys, hK, hM⟩ := id hw
  obtain ⟨hn, hft⟩ := hok.fit hmx
  refine va_putF (C := Cn) (T := T) (N := N) (ref := (T k).1) C.1 C.2.1 C.2.2.2.2.1 hin ty0 hty hnm C.2.2.2.1 hK hP hD hS a hw1 hc k hk (C.2.2.2.2.1 _ hlk) (fun _ q => q) hfin (C.2.2.2.2.2.2.2.2.2.2.trans hini) hdc (hty k hk) hn hft (by rw [hfs.len]; exact hkl) hd (fun H1 locs1 hP1 hD1 hS1 => ?_)
  have hxt := aXt.set (e2 := .inr (ci, fs'.set k mx)) hw1
  exact kk _ H1 locs1 ls _ (hx.trans hxt) (hw.set hw1 hP1 hD1 (fun tys _ => ⟨rfl, (hfs.mono hxt).set (hmx.mono hxt)⟩)) hS1 (hl.mono hxt) (hs.mono hxt)
theorem Cx.ext {p : Program} {l : Launch} {s : State} {m : MethodId} {args : Array Value} {meth : Method} {c : Code} {B0 : Nat} {X : Nat → Nat} {own nm : String} {cc : ByteArray} {nL : Nat} {ret : Option FieldType} {hh : List (Nat × Nat × Nat × Nat)} (C : Cx p l s m args meth c B0 X own nm cc nL ret hh) {H : Heap} {locs : List Loc} (hS : va_S (aA B0) s.heap H locs) : aX B0 X s H := C.2.2.2.2.2.2.2.2.1.kept hS.1 hS.2.1
theorem aXa_T {B0 : Nat} {X : Nat → Nat} {s : State} {H : Heap} (hX : aX B0 X s H) {i n : Nat} {ty : FieldType} {f : Nat → Int32} (g : aXa i = some (ty, n, .inl f)) : va_T ty (X i) n (fun j => .int (f j)) (aA B0) s H := by
  unfold aXa at g
  split at g
  · rename_i hi
    cases g
    rw [hi]
    exact hX.2.1.2
  · split at g
    · rename_i hi
      cases g
      rw [hi]
      exact hX.2.2.1.2
    · split at g
      · cases g
      · split at g
        · rename_i hi
          have e := Option.some.inj g
          obtain ⟨e1, e23⟩ := Prod.mk.inj e
          obtain ⟨e2, e3⟩ := Prod.mk.inj e23
          have e3 := Sum.inl.inj e3
          subst e1
          subst e2
          subst e3
          have h9 := (hX.2.2.2.2.2.1.2.1 (i - (aE + 20)) (by omega)).2.2.2
          have h8 : X (aE + 20 + (i - (aE + 20))) = X i := congrArg X (by omega)
          have h9 : va_T FieldType.byte (X (aE + 20 + (i - (aE + 20)))) (aTxL.getD (i - (aE + 20)) 0) (fun j => Value.int ((aTxB.getD (i - (aE + 20)) []).getD j 0)) (aA B0) s H := h9
          rw [h8] at h9
          exact h9
        · cases g
theorem aXa_TJ {B0 : Nat} {X : Nat → Nat} {s : State} {H : Heap} (hX : aX B0 X s H) {i n : Nat} {ty : FieldType} {f : Nat → Int64} (g : aXa i = some (ty, n, .inr (.inl f))) : va_T ty (X i) n (fun j => .long (f j)) (aA B0) s H := by
  unfold aXa at g
  split at g
  · cases g
  · split at g
    · cases g
    · split at g
      · rename_i hi
        cases g
        rw [hi]
        exact hX.2.2.2.1.2
      · split at g
        · have e3 := congrArg (fun z => z.2.2) (Option.some.inj g)
          dsimp only at e3
          exact nomatch e3
        · cases g
theorem aV.ext {X : Nat → Nat} {ws : va_W} {i : Nat} {v : Value} (hl : ¬ i < aE) (hne : i ≠ aE) (hv : aV X ws (.ref i) v) : v = .ref (X i) := by
  rcases hv with ⟨h3, -⟩ | ⟨-, h3⟩ | ⟨h3, -⟩
  · exact absurd h3 hl
  · exact h3
  · exact absurd h3 hne
theorem aXa_ne {i : Nat} {x : FieldType × vp_A} (g : aXa i = some x) : i ≠ aE := by
  rintro rfl
  unfold aXa at g
  split at g
  · omega
  · split at g
    · omega
    · split at g
      · omega
      · split at g
        · omega
        · cases g
theorem ev_iald (C : Cx p l s m args meth c B0 X own nm cc nL ret hh) {v : Value} {i x : Int32} (hg : ldI .int h v i = some x) (hd : decode cc pc = .ok (.iaload, 1)) (kk : Ev p l e R s m args below meth c D B0 X ws0 r h' mc ms nL cells slots (pc + 1) L (.int x :: st) h) : Ev p l e R s m args below meth c D B0 X ws0 r h' mc ms nL cells slots pc L (.int i :: v :: st) h := by
  intro ws H locs ls mst hx hw hS hl hs
  obtain ⟨_, _, rfl, rfl, mv, mst, rfl, h2, hs⟩ := hs
  obtain ⟨n, f, hf, hi, rfl⟩ := ldI_at hg
  have k9 := kk ws H locs ls _ hx hw hS hl ⟨_, _, rfl, rfl, hs⟩
  rcases aG_at hf with ⟨a, rfl, ha, hf⟩ | ⟨a, rfl, ha, hf⟩
  · obtain ⟨ad, cA, tys, t0, rfl, hw1, hK, ht⟩ := hw.arr ha hf h2
    exact va_iald C.1 C.2.1 hK hw.1 a t0 hw1 ht hi hd k9
  · cases h2.ext ha (aXa_ne hf)
    obtain ⟨cell, g1, g2, g3, g4, g5, g6, -⟩ := aXa_T (C.ext hS) hf
    have hlt : i.toNatClampNeg < n := Nat.not_le.mp fun q => hi (Or.inr q)
    exact W.iald C.1 C.2.1 g1 g2 g3 (fun q => q.elim (fun q => hi (Or.inl q)) (fun q => by omega)) (g6 _ hlt) rfl rfl hd k9
theorem ev_bald (C : Cx p l s m args meth c B0 X own nm cc nL ret hh) {v : Value} {i x : Int32} (hg : ldI .byte h v i = some x) (hd : decode cc pc = .ok (.baload, 1)) (kk : Ev p l e R s m args below meth c D B0 X ws0 r h' mc ms nL cells slots (pc + 1) L (.int x :: st) h) : Ev p l e R s m args below meth c D B0 X ws0 r h' mc ms nL cells slots pc L (.int i :: v :: st) h := by
  intro ws H locs ls mst hx hw hS hl hs
  obtain ⟨_, _, rfl, rfl, mv, mst, rfl, h2, hs⟩ := hs
  obtain ⟨n, f, hf, hi, rfl⟩ := ldI_at hg
  have k9 := kk ws H locs ls _ hx hw hS hl ⟨_, _, rfl, rfl, hs⟩
  rcases aG_at hf with ⟨a, rfl, ha, hf⟩ | ⟨a, rfl, ha, hf⟩
  · obtain ⟨ad, cA, tys, t0, rfl, hw1, hK, ht⟩ := hw.arr ha hf h2
    exact va_bald C.1 C.2.1 hK hw.1 a t0 hw1 ht hi hd k9
  · cases h2.ext ha (aXa_ne hf)
    obtain ⟨cell, g1, g2, g3, g4, g5, g6, -⟩ := aXa_T (C.ext hS) hf
    have hlt : i.toNatClampNeg < n := Nat.not_le.mp fun q => hi (Or.inr q)
    exact W.bald C.1 C.2.1 g1 g2 g3 (fun q => q.elim (fun q => hi (Or.inl q)) (fun q => by omega)) (g6 _ hlt) rfl rfl hd k9
theorem ev_zald (C : Cx p l s m args meth c B0 X own nm cc nL ret hh) {v : Value} {i x : Int32} (hg : ldI .boolean h v i = some x) (hd : decode cc pc = .ok (.baload, 1)) (kk : Ev p l e R s m args below meth c D B0 X ws0 r h' mc ms nL cells slots (pc + 1) L (.int x :: st) h) : Ev p l e R s m args below meth c D B0 X ws0 r h' mc ms nL cells slots pc L (.int i :: v :: st) h := by
  intro ws H locs ls mst hx hw hS hl hs
  obtain ⟨_, _, rfl, rfl, mv, mst, rfl, h2, hs⟩ := hs
  obtain ⟨n, f, hf, hi, rfl⟩ := ldI_at hg
  have k9 := kk ws H locs ls _ hx hw hS hl ⟨_, _, rfl, rfl, hs⟩
  rcases aG_at hf with ⟨a, rfl, ha, hf⟩ | ⟨a, rfl, ha, hf⟩
  · obtain ⟨ad, cA, tys, t0, rfl, hw1, hK, ht⟩ := hw.arr ha hf h2
    exact va_zald C.1 C.2.1 hK hw.1 a t0 hw1 ht hi hd k9
  · cases h2.ext ha (aXa_ne hf)
    obtain ⟨cell, g1, g2, g3, g4, g5, g6, -⟩ := aXa_T (C.ext hS) hf
    have hlt : i.toNatClampNeg < n := Nat.not_le.mp fun q => hi (Or.inr q)
    exact W.zald C.1 C.2.1 g1 g2 g3 (fun q => q.elim (fun q => hi (Or.inl q)) (fun q => by omega)) (g6 _ hlt) rfl rfl hd k9
theorem ev_sald (C : Cx p l s m args meth c B0 X own nm cc nL ret hh) {v : Value} {i x : Int32} (hg : ldI .short h v i = some x) (hd : decode cc pc = .ok (.saload, 1)) (kk : Ev p l e R s m args below meth c D B0 X ws0 r h' mc ms nL cells slots (pc + 1) L (.int x :: st) h) : Ev p l e R s m args below meth c D B0 X ws0 r h' mc ms nL cells slots pc L (.int i :: v :: st) h := by
  intro ws H locs ls mst hx hw hS hl hs
  obtain ⟨_, _, rfl, rfl, mv, mst, rfl, h2, hs⟩ := hs
  obtain ⟨n, f, hf, hi, rfl⟩ := ldI_at hg
  have k9 := kk ws H locs ls _ hx hw hS hl ⟨_, _, rfl, rfl, hs⟩
  rcases aG_at hf with ⟨a, rfl, ha, hf⟩ | ⟨a, rfl, ha, hf⟩
  · obtain ⟨ad, cA, tys, t0, rfl, hw1, hK, ht⟩ := hw.arr ha hf h2
    exact va_sald C.1 C.2.1 hK hw.1 a t0 hw1 ht hi hd k9
  · cases h2.ext ha (aXa_ne hf)
    obtain ⟨cell, g1, g2, g3, g4, g5, g6, -⟩ := aXa_T (C.ext hS) hf
    have hlt : i.toNatClampNeg < n := Nat.not_le.mp fun q => hi (Or.inr q)
    exact W.sald C.1 C.2.1 g1 g2 g3 (fun q => q.elim (fun q => hi (Or.inl q)) (fun q => by omega)) (g6 _ hlt) rfl rfl hd k9
theorem ev_lald (C : Cx p l s m args meth c B0 X own nm cc nL ret hh) {v : Value} {i : Int32} {x : Int64} (hg : ldJ h v i = some x) (hd : decode cc pc = .ok (.laload, 1)) (kk : Ev p l e R s m args below meth c D B0 X ws0 r h' mc ms nL cells slots (pc + 1) L (.long x :: st) h) : Ev p l e R s m args below meth c D B0 X ws0 r h' mc ms nL cells slots pc L (.int i :: v :: st) h := by
  intro ws H locs ls mst hx hw hS hl hs
  obtain ⟨_, _, rfl, rfl, mv, mst, rfl, h2, hs⟩ := hs
  obtain ⟨n, f, hf, hi, rfl⟩ := ldJ_at hg
  have k9 := kk ws H locs ls _ hx hw hS hl ⟨_, _, rfl, rfl, hs⟩
  rcases aG_at hf with ⟨a, rfl, ha, hf⟩ | ⟨a, rfl, ha, hf⟩
  · obtain ⟨ad, cA, tys, t0, rfl, hw1, hK, ht⟩ := hw.arr ha hf h2
    exact va_lald C.1 C.2.1 hK hw.1 a t0 hw1 ht hi hd k9
  · cases h2.ext ha (aXa_ne hf)
    obtain ⟨cell, g1, g2, g3, g4, g5, g6, -⟩ := aXa_TJ (C.ext hS) hf
    have hlt : i.toNatClampNeg < n := Nat.not_le.mp fun q => hi (Or.inr q)
    exact W.lald C.1 C.2.1 g1 g2 g3 (fun q => q.elim (fun q => hi (Or.inl q)) (fun q => by omega)) (g6 _ hlt) rfl rfl hd k9
theorem lnA_at {h : aH} {v : Value} {x : Int32} (g : lnA h v = some x) : ∃ y : FieldType × vp_A, aG h v = some y ∧ x = Int32.ofNat y.2.1 := by
  unfold lnA at g
  split at g
  · rename_i t n f hf
    cases g
    exact ⟨_, hf, rfl⟩
  · cases g
theorem ev_alen (C : Cx p l s m args meth c B0 X own nm cc nL ret hh) {v : Value} {x : Int32} (hg : lnA h v = some x) (hd : decode cc pc = .ok (.arraylength, 1)) (kk : Ev p l e R s m args below meth c D B0 X ws0 r h' mc ms nL cells slots (pc + 1) L (.int x :: st) h) : Ev p l e R s m args below meth c D B0 X ws0 r h' mc ms nL cells slots pc L (v :: st) h := by
  intro ws H locs ls mst hx hw hS hl hs
  obtain ⟨mv, mst, rfl, h2, hs⟩ := hs
  obtain ⟨⟨ty, y⟩, hf, rfl⟩ := lnA_at hg
  have k9 := kk ws H locs ls _ hx hw hS hl ⟨_, _, rfl, rfl, hs⟩
  rcases aG_at hf with ⟨a, rfl, ha, hf⟩ | ⟨a, rfl, ha, hf⟩
  · obtain ⟨ad, cA, tys, t0, rfl, hw1, hK, ht⟩ := hw.arr ha hf h2
    exact va_alen C.1 C.2.1 hK hw.1 a t0 hw1 ht rfl hd k9
  · cases h2.ext ha (aXa_ne hf)
    match y, hf with
    | (n, .inl f), hf =>
      obtain ⟨cell, g1, g2, g3, g4, g5, g6, -⟩ := aXa_T (C.ext hS) hf
      exact W.alen C.1 C.2.1 g1 g2 g5 rfl rfl hd k9
    | (n, .inr (.inl f)), hf =>
      obtain ⟨cell, g1, g2, g3, g4, g5, g6, -⟩ := aXa_TJ (C.ext hS) hf
      exact W.alen C.1 C.2.1 g1 g2 g5 rfl rfl hd k9
    | (n, .inr (.inr z)), hf =>
      unfold aXa at hf
      split at hf
      · cases hf
      · split at hf
        · cases hf
        · split at hf
          · cases hf
          · split at hf
            · have e3 := congrArg (fun z => z.2.2) (Option.some.inj hf)
              dsimp only at e3
              exact nomatch e3
            · cases hf
theorem ev_iast (C : Cx p l s m args meth c B0 X own nm cc nL ret hh) {v : Value} {i : Int32} {x : Int32} {h1 : aH} (hg : stI h v i x = some h1) (hd : decode cc pc = .ok (.iastore, 1)) (kk : Ev p l e R s m args below meth c D B0 X ws0 r h' mc ms nL cells slots (pc + 1) L st h1) : Ev p l e R s m args below meth c D B0 X ws0 r h' mc ms nL cells slots pc L (.int x :: .int i :: v :: st) h := by
  intro ws H locs ls mst hx hw hS hl hs
  obtain ⟨_, _, rfl, rfl, _, _, rfl, rfl, mv, mst, rfl, h2, hs⟩ := hs
  obtain ⟨a, n, f, rfl, ha, hf, hi, rfl⟩ := stI_at hg
  obtain ⟨ad, cA, tys, t0, rfl, hw1, hK, ht⟩ := hw.arr ha hf h2
  obtain ⟨hP, hD, hlen, -⟩ := id hw
  refine va_iast C.1 C.2.1 hK hP hD hS a t0 hw1 ht hi hd (fun H1 locs1 hP1 hD1 hS1 => ?_)
  have hxt := aXt.set (e2 := .inl (cA, n, .inl (upd f i.toNatClampNeg x))) hw1
  refine kk _ H1 locs1 ls _ (hx.trans hxt) (hw.set hw1 hP1 hD1 (fun tys hM => ?_)) hS1 (hl.mono hxt) (hs.mono hxt)
  obtain ⟨a2, e2, g1, g2⟩ := hM a _ hf
  rw [hw1] at g1
  cases g1
  exact ⟨rfl, g2.2⟩
theorem ev_bast (C : Cx p l s m args meth c B0 X own nm cc nL ret hh) {v : Value} {i : Int32} {x : Int32} {h1 : aH} (hg : stN .byte h v i x = some h1) (hd : decode cc pc = .ok (.bastore, 1)) (kk : Ev p l e R s m args below meth c D B0 X ws0 r h' mc ms nL cells slots (pc + 1) L st h1) : Ev p l e R s m args below meth c D B0 X ws0 r h' mc ms nL cells slots pc L (.int x :: .int i :: v :: st) h := by
  intro ws H locs ls mst hx hw hS hl hs
  obtain ⟨_, _, rfl, rfl, _, _, rfl, rfl, mv, mst, rfl, h2, hs⟩ := hs
  obtain ⟨a, n, f, rfl, ha, hf, hi, rfl⟩ := stN_at hg
  obtain ⟨ad, cA, tys, t0, rfl, hw1, hK, ht⟩ := hw.arr ha hf h2
  obtain ⟨hP, hD, hlen, -⟩ := id hw
  refine va_bast C.1 C.2.1 hK hP hD hS a t0 hw1 ht hi hd (fun H1 locs1 hP1 hD1 hS1 => ?_)
  have hxt := aXt.set (e2 := .inl (cA, n, .inl (upd f i.toNatClampNeg (vp_nar .byte x)))) hw1
  refine kk _ H1 locs1 ls _ (hx.trans hxt) (hw.set hw1 hP1 hD1 (fun tys hM => ?_)) hS1 (hl.mono hxt) (hs.mono hxt)
  obtain ⟨a2, e2, g1, g2⟩ := hM a _ hf
  rw [hw1] at g1
  cases g1
  exact ⟨rfl, g2.2⟩
theorem ev_zast (C : Cx p l s m args meth c B0 X own nm cc nL ret hh) {v : Value} {i : Int32} {x : Int32} {h1 : aH} (hg : stN .boolean h v i x = some h1) (hd : decode cc pc = .ok (.bastore, 1)) (kk : Ev p l e R s m args below meth c D B0 X ws0 r h' mc ms nL cells slots (pc + 1) L st h1) : Ev p l e R s m args below meth c D B0 X ws0 r h' mc ms nL cells slots pc L (.int x :: .int i :: v :: st) h := by
  intro ws H locs ls mst hx hw hS hl hs
  obtain ⟨_, _, rfl, rfl, _, _, rfl, rfl, mv, mst, rfl, h2, hs⟩ := hs
  obtain ⟨a, n, f, rfl, ha, hf, hi, rfl⟩ := stN_at hg
  obtain ⟨ad, cA, tys, t0, rfl, hw1, hK, ht⟩ := hw.arr ha hf h2
  obtain ⟨hP, hD, hlen, -⟩ := id hw
  refine va_zast C.1 C.2.1 hK hP hD hS a t0 hw1 ht hi hd (fun H1 locs1 hP1 hD1 hS1 => ?_)
  have hxt := aXt.set (e2 := .inl (cA, n, .inl (upd f i.toNatClampNeg (vp_nar .boolean x)))) hw1
  refine kk _ H1 locs1 ls _ (hx.trans hxt) (hw.set hw1 hP1 hD1 (fun tys hM => ?_)) hS1 (hl.mono hxt) (hs.mono hxt)
  obtain ⟨a2, e2, g1, g2⟩ := hM a _ hf
  rw [hw1] at g1
  cases g1
  exact ⟨rfl, g2.2⟩
theorem ev_sast (C : Cx p l s m args meth c B0 X own nm cc nL ret hh) {v : Value} {i : Int32} {x : Int32} {h1 : aH} (hg : stN .short h v i x = some h1) (hd : decode cc pc = .ok (.sastore, 1)) (kk : Ev p l e R s m args below meth c D B0 X ws0 r h' mc ms nL cells slots (pc + 1) L st h1) : Ev p l e R s m args below meth c D B0 X ws0 r h' mc ms nL cells slots pc L (.int x :: .int i :: v :: st) h := by
  intro ws H locs ls mst hx hw hS hl hs
  obtain ⟨_, _, rfl, rfl, _, _, rfl, rfl, mv, mst, rfl, h2, hs⟩ := hs
  obtain ⟨a, n, f, rfl, ha, hf, hi, rfl⟩ := stN_at hg
  obtain ⟨ad, cA, tys, t0, rfl, hw1, hK, ht⟩ := hw.arr ha hf h2
  obtain ⟨hP, hD, hlen, -⟩ := id hw
  refine va_sast C.1 C.2.1 hK hP hD hS a t0 hw1 ht hi hd (fun H1 locs1 hP1 hD1 hS1 => ?_)
  have hxt := aXt.set (e2 := .inl (cA, n, .inl (upd f i.toNatClampNeg (vp_nar .short x)))) hw1
  refine kk _ H1 locs1 ls _ (hx.trans hxt) (hw.set hw1 hP1 hD1 (fun tys hM => ?_)) hS1 (hl.mono hxt) (hs.mono hxt)
  obtain ⟨a2, e2, g1, g2⟩ := hM a _ hf
  rw [hw1] at g1
  cases g1
  exact ⟨rfl, g2.2⟩
theorem ev_last (C : Cx p l s m args meth c B0 X own nm cc nL ret hh) {v : Value} {i : Int32} {x : Int64} {h1 : aH} (hg : stJ h v i x = some h1) (hd : decode cc pc = .ok (.lastore, 1)) (kk : Ev p l e R s m args below meth c D B0 X ws0 r h' mc ms nL cells slots (pc + 1) L st h1) : Ev p l e R s m args below meth c D B0 X ws0 r h' mc ms nL cells slots pc L (.long x :: .int i :: v :: st) h := by
  intro ws H locs ls mst hx hw hS hl hs
  obtain ⟨_, _, rfl, rfl, _, _, rfl, rfl, mv, mst, rfl, h2, hs⟩ := hs
  obtain ⟨a, n, f, rfl, ha, hf, hi, rfl⟩ := stJ_at hg
  obtain ⟨ad, cA, tys, t0, rfl, hw1, hK, ht⟩ := hw.arr ha hf h2
  obtain ⟨hP, hD, hlen, -⟩ := id hw
  refine va_last C.1 C.2.1 hK hP hD hS a t0 hw1 ht hi hd (fun H1 locs1 hP1 hD1 hS1 => ?_)
  have hxt := aXt.set (e2 := .inl (cA, n, .inr (.inl (vp_updL f i.toNatClampNeg x)))) hw1
  refine kk _ H1 locs1 ls _ (hx.trans hxt) (hw.set hw1 hP1 hD1 (fun tys hM => ?_)) hS1 (hl.mono hxt) (hs.mono hxt)
  obtain ⟨a2, e2, g1, g2⟩ := hM a _ hf
  rw [hw1] at g1
  cases g1
  exact ⟨rfl, g2.2⟩
end RH
