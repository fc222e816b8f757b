-- X0_init
theorem dX0_init_0 : decode cX0_init 0 = .ok (.aload_n 0, 1) := by decide +kernel
theorem dX0_init_1 : decode cX0_init 1 = .ok (.invokespecial 5, 3) := by decide +kernel
theorem dX0_init_4 : decode cX0_init 4 = .ok (.aload_n 0, 1) := by decide +kernel
theorem dX0_init_5 : decode cX0_init 5 = .ok (.bipush 60, 2) := by decide +kernel
theorem dX0_init_7 : decode cX0_init 7 = .ok (.newarray .int, 2) := by decide +kernel
theorem dX0_init_9 : decode cX0_init 9 = .ok (.putfield 11, 3) := by decide +kernel
theorem dX0_init_12 : decode cX0_init 12 = .ok (.aload_n 0, 1) := by decide +kernel
theorem dX0_init_13 : decode cX0_init 13 = .ok (.bipush 60, 2) := by decide +kernel
theorem dX0_init_15 : decode cX0_init 15 = .ok (.newarray .int, 2) := by decide +kernel
theorem dX0_init_17 : decode cX0_init 17 = .ok (.putfield 15, 3) := by decide +kernel
theorem dX0_init_20 : decode cX0_init 20 = .ok (.aload_n 0, 1) := by decide +kernel
theorem dX0_init_21 : decode cX0_init 21 = .ok (.bipush 60, 2) := by decide +kernel
theorem dX0_init_23 : decode cX0_init 23 = .ok (.newarray .int, 2) := by decide +kernel
theorem dX0_init_25 : decode cX0_init 25 = .ok (.putfield 18, 3) := by decide +kernel
theorem dX0_init_28 : decode cX0_init 28 = .ok (.aload_n 0, 1) := by decide +kernel
theorem dX0_init_29 : decode cX0_init 29 = .ok (.bipush 30, 2) := by decide +kernel
theorem dX0_init_31 : decode cX0_init 31 = .ok (.newarray .int, 2) := by decide +kernel
theorem dX0_init_33 : decode cX0_init 33 = .ok (.putfield 21, 3) := by decide +kernel
theorem dX0_init_36 : decode cX0_init 36 = .ok (.aload_n 0, 1) := by decide +kernel
theorem dX0_init_37 : decode cX0_init 37 = .ok (.bipush 30, 2) := by decide +kernel
theorem dX0_init_39 : decode cX0_init 39 = .ok (.newarray .int, 2) := by decide +kernel
theorem dX0_init_41 : decode cX0_init 41 = .ok (.putfield 24, 3) := by decide +kernel
theorem dX0_init_44 : decode cX0_init 44 = .ok (.aload_n 0, 1) := by decide +kernel
theorem dX0_init_45 : decode cX0_init 45 = .ok (.bipush 30, 2) := by decide +kernel
theorem dX0_init_47 : decode cX0_init 47 = .ok (.newarray .int, 2) := by decide +kernel
theorem dX0_init_49 : decode cX0_init 49 = .ok (.putfield 27, 3) := by decide +kernel
theorem dX0_init_52 : decode cX0_init 52 = .ok (.aload_n 0, 1) := by decide +kernel
theorem dX0_init_53 : decode cX0_init 53 = .ok (.bipush 30, 2) := by decide +kernel
theorem dX0_init_55 : decode cX0_init 55 = .ok (.newarray .int, 2) := by decide +kernel
theorem dX0_init_57 : decode cX0_init 57 = .ok (.putfield 30, 3) := by decide +kernel
theorem dX0_init_60 : decode cX0_init 60 = .ok (.return_, 1) := by decide +kernel
def s_X0_init (o : Nat) (h : aH) : aP :=
  bP (nwA .int h 60) fun o7 h7 => ck (0 + 1) (0 + Int32.toNatClampNeg 60) ((pF h7 (.ref o) 0 1 (.ref o7)).bind fun h9 => bP (nwA .int h9 60) fun o15 h15 => ck (0 + 1 + 1) (0 + Int32.toNatClampNeg 60 + Int32.toNatClampNeg 60) ((pF h15 (.ref o) 0 2 (.ref o15)).bind fun h17 => bP (nwA .int h17 60) fun o23 h23 => ck (0 + 1 + 1 + 1) (0 + Int32.toNatClampNeg 60 + Int32.toNatClampNeg 60 + Int32.toNatClampNeg 60) ((pF h23 (.ref o) 0 3 (.ref o23)).bind fun h25 => bP (nwA .int h25 30) fun o31 h31 => ck (0 + 1 + 1 + 1 + 1) (0 + Int32.toNatClampNeg 60 + Int32.toNatClampNeg 60 + Int32.toNatClampNeg 60 + Int32.toNatClampNeg 30) ((pF h31 (.ref o) 0 5 (.ref o31)).bind fun h33 => bP (nwA .int h33 30) fun o39 h39 => ck (0 + 1 + 1 + 1 + 1 + 1) (0 + Int32.toNatClampNeg 60 + Int32.toNatClampNeg 60 + Int32.toNatClampNeg 60 + Int32.toNatClampNeg 30 + Int32.toNatClampNeg 30) ((pF h39 (.ref o) 0 6 (.ref o39)).bind fun h41 => bP (nwA .int h41 30) fun o47 h47 => ck (0 + 1 + 1 + 1 + 1 + 1 + 1) (0 + Int32.toNatClampNeg 60 + Int32.toNatClampNeg 60 + Int32.toNatClampNeg 60 + Int32.toNatClampNeg 30 + Int32.toNatClampNeg 30 + Int32.toNatClampNeg 30) ((pF h47 (.ref o) 0 7 (.ref o47)).bind fun h49 => bP (nwA .int h49 30) fun o55 h55 => ck (0 + 1 + 1 + 1 + 1 + 1 + 1 + 1) (0 + Int32.toNatClampNeg 60 + Int32.toNatClampNeg 60 + Int32.toNatClampNeg 60 + Int32.toNatClampNeg 30 + Int32.toNatClampNeg 30 + Int32.toNatClampNeg 30 + Int32.toNatClampNeg 30) (wC (0 + 1 + 1 + 1 + 1 + 1 + 1 + 1) (0 + Int32.toNatClampNeg 60 + Int32.toNatClampNeg 60 + Int32.toNatClampNeg 60 + Int32.toNatClampNeg 30 + Int32.toNatClampNeg 30 + Int32.toNatClampNeg 30 + Int32.toNatClampNeg 30) ((pF h55 (.ref o) 0 8 (.ref o55)).bind fun h57 => some (.inl none, h57)))))))))
section
variable {p : Program} {l : Launch} {e : Env} {s : State} {m : MethodId} {args : Array Value} {below : List Frame} {meth : Method} {c : Code} {D : va_G} {B0 : Nat} {X : Nat → Nat} {ws0 : va_W} {r : aR} {h' : aH} {mc ms : Nat}
theorem hy_X0_init : yX0_init.cls ≠ "java/lang/invoke/MethodHandle" ∧ yX0_init.cls ≠ "java/lang/invoke/VarHandle" ∧ (parseMethodDescriptor yX0_init.desc).map (fun d => d.parameters.length) = some 0 := by decide +kernel
theorem T_X0_init (o : Nat) (h : aH) (r : aR) (h' : aH) (mc ms : Nat) (hs : s_X0_init o h = some (r, h', mc, ms)) : Mt yX0_init (Cond.code yX0_init cX0_init 1 none :: aTB) 1 20 mc ms [.ref o] h r h' := by
  unfold s_X0_init at hs
  refine Mt_of (k := 0) (by decide) rfl (fun p l e s m args below meth c D B0 X ws0 C => ?_)
  show Ev p l e { frames := 1, cells := mc, slots := ms, locals := 20 } s m args below meth c D B0 X ws0 r h' mc ms 1 0 0 0 [some (.ref o)] [] h
  refine ev_aload_n C (x := .ref o) rfl trivial dX0_init_0 ?_
  refine ev_objInit C wm_X0_5 wi_oinit wc_oinit (Nat.le_of_ble_eq_true rfl) (Nat.le_of_ble_eq_true rfl) dX0_init_1 ?_
  refine ev_aload_n C (x := .ref o) rfl trivial dX0_init_4 ?_
  refine ev_bipush C (v := 60) dX0_init_5 (by decide) ?_
  obtain ⟨o7, h7, e7, hs⟩ := bP_at hs
  obtain ⟨c7, z7, hs⟩ := ck_at hs
  refine ev_newa C (atype := .int) (ty := .int) rfl wa_int (fun _ _ => rfl) e7 c7 z7 dX0_init_7 ?_
  obtain ⟨h9, e9, hs⟩ := aB hs
  refine ev_putF C (ci := 0) (k := 1) rfl wu_0 (by decide) tyX0 tyX0_ok nmX0 wf_X0_11 rfl rfl rfl trivial e9 dX0_init_9 ?_
  refine ev_aload_n C (x := .ref o) rfl trivial dX0_init_12 ?_
  refine ev_bipush C (v := 60) dX0_init_13 (by decide) ?_
  obtain ⟨o15, h15, e15, hs⟩ := bP_at hs
  obtain ⟨c15, z15, hs⟩ := ck_at hs
  refine ev_newa C (atype := .int) (ty := .int) rfl wa_int (fun _ _ => rfl) e15 c15 z15 dX0_init_15 ?_
  obtain ⟨h17, e17, hs⟩ := aB hs
  refine ev_putF C (ci := 0) (k := 2) rfl wu_0 (by decide) tyX0 tyX0_ok nmX0 wf_X0_15 rfl rfl rfl trivial e17 dX0_init_17 ?_
  refine ev_aload_n C (x := .ref o) rfl trivial dX0_init_20 ?_
  refine ev_bipush C (v := 60) dX0_init_21 (by decide) ?_
  obtain ⟨o23, h23, e23, hs⟩ := bP_at hs
  obtain ⟨c23, z23, hs⟩ := ck_at hs
  refine ev_newa C (atype := .int) (ty := .int) rfl wa_int (fun _ _ => rfl) e23 c23 z23 dX0_init_23 ?_
  obtain ⟨h25, e25, hs⟩ := aB hs
  refine ev_putF C (ci := 0) (k := 3) rfl wu_0 (by decide) tyX0 tyX0_ok nmX0 wf_X0_18 rfl rfl rfl trivial e25 dX0_init_25 ?_
  refine ev_aload_n C (x := .ref o) rfl trivial dX0_init_28 ?_
  refine ev_bipush C (v := 30) dX0_init_29 (by decide) ?_
  obtain ⟨o31, h31, e31, hs⟩ := bP_at hs
  obtain ⟨c31, z31, hs⟩ := ck_at hs
  refine ev_newa C (atype := .int) (ty := .int) rfl wa_int (fun _ _ => rfl) e31 c31 z31 dX0_init_31 ?_
  obtain ⟨h33, e33, hs⟩ := aB hs
  refine ev_putF C (ci := 0) (k := 5) rfl wu_0 (by decide) tyX0 tyX0_ok nmX0 wf_X0_21 rfl rfl rfl trivial e33 dX0_init_33 ?_
  refine ev_aload_n C (x := .ref o) rfl trivial dX0_init_36 ?_
  refine ev_bipush C (v := 30) dX0_init_37 (by decide) ?_
  obtain ⟨o39, h39, e39, hs⟩ := bP_at hs
  obtain ⟨c39, z39, hs⟩ := ck_at hs
  refine ev_newa C (atype := .int) (ty := .int) rfl wa_int (fun _ _ => rfl) e39 c39 z39 dX0_init_39 ?_
  obtain ⟨h41, e41, hs⟩ := aB hs
  refine ev_putF C (ci := 0) (k := 6) rfl wu_0 (by decide) tyX0 tyX0_ok nmX0 wf_X0_24 rfl rfl rfl trivial e41 dX0_init_41 ?_
  refine ev_aload_n C (x := .ref o) rfl trivial dX0_init_44 ?_
  refine ev_bipush C (v := 30) dX0_init_45 (by decide) ?_
  obtain ⟨o47, h47, e47, hs⟩ := bP_at hs
  obtain ⟨c47, z47, hs⟩ := ck_at hs
  refine ev_newa C (atype := .int) (ty := .int) rfl wa_int (fun _ _ => rfl) e47 c47 z47 dX0_init_47 ?_
  obtain ⟨h49, e49, hs⟩ := aB hs
  refine ev_putF C (ci := 0) (k := 7) rfl wu_0 (by decide) tyX0 tyX0_ok nmX0 wf_X0_27 rfl rfl rfl trivial e49 dX0_init_49 ?_
  refine ev_aload_n C (x := .ref o) rfl trivial dX0_init_52 ?_
  refine ev_bipush C (v := 30) dX0_init_53 (by decide) ?_
  obtain ⟨o55, h55, e55, hs⟩ := bP_at hs
  obtain ⟨c55, z55, hs⟩ := ck_at hs
  refine ev_newa C (atype := .int) (ty := .int) rfl wa_int (fun _ _ => rfl) e55 c55 z55 dX0_init_55 ?_
  obtain ⟨hw9, rfl, rfl⟩ := wC_at hs
  have hs := hw9
  obtain ⟨h57, e57, hs⟩ := aB hs
  refine ev_putF C (ci := 0) (k := 8) rfl wu_0 (by decide) tyX0 tyX0_ok nmX0 wf_X0_30 rfl rfl rfl trivial e57 dX0_init_57 ?_
  cases hs
  exact ev_vret C rfl rfl (Nat.le_refl _) (Nat.le_refl _) rfl dX0_init_60
end
-- X0_clear
theorem dX0_clear_0 : decode cX0_clear 0 = .ok (.aload_n 0, 1) := by decide +kernel
theorem dX0_clear_1 : decode cX0_clear 1 = .ok (.iconst 0, 1) := by decide +kernel
theorem dX0_clear_2 : decode cX0_clear 2 = .ok (.putfield 33, 3) := by decide +kernel
theorem dX0_clear_5 : decode cX0_clear 5 = .ok (.aload_n 0, 1) := by decide +kernel
theorem dX0_clear_6 : decode cX0_clear 6 = .ok (.iconst 0, 1) := by decide +kernel
theorem dX0_clear_7 : decode cX0_clear 7 = .ok (.putfield 37, 3) := by decide +kernel
theorem dX0_clear_10 : decode cX0_clear 10 = .ok (.return_, 1) := by decide +kernel
def s_X0_clear (o : Nat) (h : aH) : aO :=
  (pF h (.ref o) 0 0 (.int 0)).bind fun h2 => (pF h2 (.ref o) 0 4 (.int 0)).bind fun h7 => some (.inl none, h7)
section
variable {p : Program} {l : Launch} {e : Env} {s : State} {m : MethodId} {args : Array Value} {below : List Frame} {meth : Method} {c : Code} {D : va_G} {B0 : Nat} {X : Nat → Nat} {ws0 : va_W} {r : aR} {h' : aH} {mc ms : Nat}
theorem hy_X0_clear : yX0_clear.cls ≠ "java/lang/invoke/MethodHandle" ∧ yX0_clear.cls ≠ "java/lang/invoke/VarHandle" ∧ (parseMethodDescriptor yX0_clear.desc).map (fun d => d.parameters.length) = some 0 := by decide +kernel
theorem T_X0_clear (o : Nat) (h : aH) (r : aR) (h' : aH) (hs : s_X0_clear o h = some (r, h')) : Mt yX0_clear (Cond.code yX0_clear cX0_clear 1 none :: aTB) 0 0 0 0 [.ref o] h r h' := by
  unfold s_X0_clear at hs
  refine Mt_of (k := 0) (by decide) rfl (fun p l e s m args below meth c D B0 X ws0 C => ?_)
  show Ev p l e { frames := 0, cells := 0, slots := 0, locals := 0 } s m args below meth c D B0 X ws0 r h' 0 0 1 0 0 0 [some (.ref o)] [] h
  refine ev_aload_n C (x := .ref o) rfl trivial dX0_clear_0 ?_
  refine ev_iconst C (v := 0) dX0_clear_1 (by decide) ?_
  obtain ⟨h2, e2, hs⟩ := aB hs
  refine ev_put C (ci := 0) (k := 0) rfl wu_0 (by decide) tyX0 tyX0_ok nmX0 wf_X0_33 rfl trivial e2 dX0_clear_2 ?_
  refine ev_aload_n C (x := .ref o) rfl trivial dX0_clear_5 ?_
  refine ev_iconst C (v := 0) dX0_clear_6 (by decide) ?_
  obtain ⟨h7, e7, hs⟩ := aB hs
  refine ev_put C (ci := 0) (k := 4) rfl wu_0 (by decide) tyX0 tyX0_ok nmX0 wf_X0_37 rfl trivial e7 dX0_clear_7 ?_
  cases hs
  exact ev_vret C rfl rfl (Nat.le_refl _) (Nat.le_refl _) rfl dX0_clear_10
end
-- X0_isFull
theorem dX0_isFull_0 : decode cX0_isFull 0 = .ok (.aload_n 0, 1) := by decide +kernel
theorem dX0_isFull_1 : decode cX0_isFull 1 = .ok (.getfield 33, 3) := by decide +kernel
theorem dX0_isFull_4 : decode cX0_isFull 4 = .ok (.bipush 60, 2) := by decide +kernel
theorem dX0_isFull_6 : decode cX0_isFull 6 = .ok (.if_icmp .lt 7, 3) := by decide +kernel
theorem dX0_isFull_9 : decode cX0_isFull 9 = .ok (.iconst 1, 1) := by decide +kernel
theorem dX0_isFull_10 : decode cX0_isFull 10 = .ok (.goto 4, 3) := by decide +kernel
theorem dX0_isFull_13 : decode cX0_isFull 13 = .ok (.iconst 0, 1) := by decide +kernel
theorem dX0_isFull_14 : decode cX0_isFull 14 = .ok (.ireturn, 1) := by decide +kernel
def s_X0_isFull (o : Nat) (h : aH) : aO :=
  (gI h (.ref o) 0 0).bind fun x1 => if x1 < 60 then (rtZ 0 h) else (rtZ 1 h)
section
variable {p : Program} {l : Launch} {e : Env} {s : State} {m : MethodId} {args : Array Value} {below : List Frame} {meth : Method} {c : Code} {D : va_G} {B0 : Nat} {X : Nat → Nat} {ws0 : va_W} {r : aR} {h' : aH} {mc ms : Nat}
theorem hy_X0_isFull : yX0_isFull.cls ≠ "java/lang/invoke/MethodHandle" ∧ yX0_isFull.cls ≠ "java/lang/invoke/VarHandle" ∧ (parseMethodDescriptor yX0_isFull.desc).map (fun d => d.parameters.length) = some 0 := by decide +kernel
theorem T_X0_isFull (o : Nat) (h : aH) (r : aR) (h' : aH) (hs : s_X0_isFull o h = some (r, h')) : Mt yX0_isFull (Cond.code yX0_isFull cX0_isFull 1 (some .boolean) :: aTB) 0 0 0 0 [.ref o] h r h' := by
  unfold s_X0_isFull at hs
  refine Mt_of (k := 0) (by decide) rfl (fun p l e s m args below meth c D B0 X ws0 C => ?_)
  show Ev p l e { frames := 0, cells := 0, slots := 0, locals := 0 } s m args below meth c D B0 X ws0 r h' 0 0 1 0 0 0 [some (.ref o)] [] h
  refine ev_aload_n C (x := .ref o) rfl trivial dX0_isFull_0 ?_
  obtain ⟨x1, e1, hs⟩ := aB hs
  refine ev_get C (ci := 0) (k := 0) rfl wu_0 (by decide) wf_X0_33 (gI_F e1) dX0_isFull_1 ?_
  refine ev_bipush C (v := 60) dX0_isFull_4 (by decide) ?_
  refine ev_icmp_lt C (tgt := 13) (by decide) dX0_isFull_6 (fun q6 => ?_) (fun q6 => ?_)
  · replace hs := (if_pos q6).symm.trans hs
    refine ev_iconst C (v := 0) dX0_isFull_13 (by decide) ?_
    obtain ⟨hz, rfl, rfl⟩ := rtZ_at hs
    exact ev_zret C rfl hz rfl (Nat.le_refl _) (Nat.le_refl _) rfl dX0_isFull_14
  · replace hs := (if_neg q6).symm.trans hs
    refine ev_iconst C (v := 1) dX0_isFull_9 (by decide) ?_
    refine ev_goto C (tgt := 14) (by decide) dX0_isFull_10 ?_
    obtain ⟨hz, rfl, rfl⟩ := rtZ_at hs
    exact ev_zret C rfl hz rfl (Nat.le_refl _) (Nat.le_refl _) rfl dX0_isFull_14
end
-- X0_addFactor
theorem dX0_addFactor_0 : decode cX0_addFactor 0 = .ok (.aload_n 0, 1) := by decide +kernel
theorem dX0_addFactor_1 : decode cX0_addFactor 1 = .ok (.getfield 11, 3) := by decide +kernel
theorem dX0_addFactor_4 : decode cX0_addFactor 4 = .ok (.aload_n 0, 1) := by decide +kernel
theorem dX0_addFactor_5 : decode cX0_addFactor 5 = .ok (.getfield 33, 3) := by decide +kernel
theorem dX0_addFactor_8 : decode cX0_addFactor 8 = .ok (.iload_n 1, 1) := by decide +kernel
theorem dX0_addFactor_9 : decode cX0_addFactor 9 = .ok (.iastore, 1) := by decide +kernel
theorem dX0_addFactor_10 : decode cX0_addFactor 10 = .ok (.aload_n 0, 1) := by decide +kernel
theorem dX0_addFactor_11 : decode cX0_addFactor 11 = .ok (.getfield 15, 3) := by decide +kernel
theorem dX0_addFactor_14 : decode cX0_addFactor 14 = .ok (.aload_n 0, 1) := by decide +kernel
theorem dX0_addFactor_15 : decode cX0_addFactor 15 = .ok (.getfield 33, 3) := by decide +kernel
theorem dX0_addFactor_18 : decode cX0_addFactor 18 = .ok (.iload_n 2, 1) := by decide +kernel
theorem dX0_addFactor_19 : decode cX0_addFactor 19 = .ok (.iastore, 1) := by decide +kernel
theorem dX0_addFactor_20 : decode cX0_addFactor 20 = .ok (.aload_n 0, 1) := by decide +kernel
theorem dX0_addFactor_21 : decode cX0_addFactor 21 = .ok (.getfield 18, 3) := by decide +kernel
theorem dX0_addFactor_24 : decode cX0_addFactor 24 = .ok (.aload_n 0, 1) := by decide +kernel
theorem dX0_addFactor_25 : decode cX0_addFactor 25 = .ok (.getfield 33, 3) := by decide +kernel
theorem dX0_addFactor_28 : decode cX0_addFactor 28 = .ok (.iload_n 3, 1) := by decide +kernel
theorem dX0_addFactor_29 : decode cX0_addFactor 29 = .ok (.iastore, 1) := by decide +kernel
theorem dX0_addFactor_30 : decode cX0_addFactor 30 = .ok (.aload_n 0, 1) := by decide +kernel
theorem dX0_addFactor_31 : decode cX0_addFactor 31 = .ok (.dup, 1) := by decide +kernel
theorem dX0_addFactor_32 : decode cX0_addFactor 32 = .ok (.getfield 33, 3) := by decide +kernel
theorem dX0_addFactor_35 : decode cX0_addFactor 35 = .ok (.iconst 1, 1) := by decide +kernel
theorem dX0_addFactor_36 : decode cX0_addFactor 36 = .ok (.iadd, 1) := by decide +kernel
theorem dX0_addFactor_37 : decode cX0_addFactor 37 = .ok (.putfield 33, 3) := by decide +kernel
theorem dX0_addFactor_40 : decode cX0_addFactor 40 = .ok (.return_, 1) := by decide +kernel
def s_X0_addFactor (o : Nat) (a1 : Int32) (a2 : Int32) (a3 : Int32) (h : aH) : aO :=
  (gO h (.ref o) 0 1).bind fun x1 => (gI h (.ref o) 0 0).bind fun x5 => (stI h (.ref x1) x5 a1).bind fun h9 => (gO h9 (.ref o) 0 2).bind fun x11 => (gI h9 (.ref o) 0 0).bind fun x15 => (stI h9 (.ref x11) x15 a2).bind fun h19 => (gO h19 (.ref o) 0 3).bind fun x21 => (gI h19 (.ref o) 0 0).bind fun x25 => (stI h19 (.ref x21) x25 a3).bind fun h29 => (gI h29 (.ref o) 0 0).bind fun x32 => (pF h29 (.ref o) 0 0 (.int (x32 + 1))).bind fun h37 => some (.inl none, h37)
section
variable {p : Program} {l : Launch} {e : Env} {s : State} {m : MethodId} {args : Array Value} {below : List Frame} {meth : Method} {c : Code} {D : va_G} {B0 : Nat} {X : Nat → Nat} {ws0 : va_W} {r : aR} {h' : aH} {mc ms : Nat}
theorem hy_X0_addFactor : yX0_addFactor.cls ≠ "java/lang/invoke/MethodHandle" ∧ yX0_addFactor.cls ≠ "java/lang/invoke/VarHandle" ∧ (parseMethodDescriptor yX0_addFactor.desc).map (fun d => d.parameters.length) = some 3 := by decide +kernel
theorem T_X0_addFactor (o : Nat) (a1 : Int32) (a2 : Int32) (a3 : Int32) (h : aH) (r : aR) (h' : aH) (hs : s_X0_addFactor o a1 a2 a3 h = some (r, h')) : Mt yX0_addFactor (Cond.code yX0_addFactor cX0_addFactor 4 none :: aTB) 0 0 0 0 [.ref o, .int a1, .int a2, .int a3] h r h' := by
  unfold s_X0_addFactor at hs
  refine Mt_of (k := 0) (by decide) rfl (fun p l e s m args below meth c D B0 X ws0 C => ?_)
  show Ev p l e { frames := 0, cells := 0, slots := 0, locals := 0 } s m args below meth c D B0 X ws0 r h' 0 0 4 0 0 0 [some (.ref o), some (.int a1), some (.int a2), some (.int a3)] [] h
  refine ev_aload_n C (x := .ref o) rfl trivial dX0_addFactor_0 ?_
  obtain ⟨x1, e1, hs⟩ := aB hs
  refine ev_get C (ci := 0) (k := 1) rfl wu_0 (by decide) wf_X0_11 (gO_F e1) dX0_addFactor_1 ?_
  refine ev_aload_n C (x := .ref o) rfl trivial dX0_addFactor_4 ?_
  obtain ⟨x5, e5, hs⟩ := aB hs
  refine ev_get C (ci := 0) (k := 0) rfl wu_0 (by decide) wf_X0_33 (gI_F e5) dX0_addFactor_5 ?_
  refine ev_iload_n C rfl dX0_addFactor_8 ?_
  obtain ⟨h9, e9, hs⟩ := aB hs
  refine ev_iast C e9 dX0_addFactor_9 ?_
  refine ev_aload_n C (x := .ref o) rfl trivial dX0_addFactor_10 ?_
  obtain ⟨x11, e11, hs⟩ := aB hs
  refine ev_get C (ci := 0) (k := 2) rfl wu_0 (by decide) wf_X0_15 (gO_F e11) dX0_addFactor_11 ?_
  refine ev_aload_n C (x := .ref o) rfl trivial dX0_addFactor_14 ?_
  obtain ⟨x15, e15, hs⟩ := aB hs
  refine ev_get C (ci := 0) (k := 0) rfl wu_0 (by decide) wf_X0_33 (gI_F e15) dX0_addFactor_15 ?_
  refine ev_iload_n C rfl dX0_addFactor_18 ?_
  obtain ⟨h19, e19, hs⟩ := aB hs
  refine ev_iast C e19 dX0_addFactor_19 ?_
  refine ev_aload_n C (x := .ref o) rfl trivial dX0_addFactor_20 ?_
  obtain ⟨x21, e21, hs⟩ := aB hs
  refine ev_get C (ci := 0) (k := 3) rfl wu_0 (by decide) wf_X0_18 (gO_F e21) dX0_addFactor_21 ?_
  refine ev_aload_n C (x := .ref o) rfl trivial dX0_addFactor_24 ?_
  obtain ⟨x25, e25, hs⟩ := aB hs
  refine ev_get C (ci := 0) (k := 0) rfl wu_0 (by decide) wf_X0_33 (gI_F e25) dX0_addFactor_25 ?_
  refine ev_iload_n C rfl dX0_addFactor_28 ?_
  obtain ⟨h29, e29, hs⟩ := aB hs
  refine ev_iast C e29 dX0_addFactor_29 ?_
  refine ev_aload_n C (x := .ref o) rfl trivial dX0_addFactor_30 ?_
  refine ev_dup C rfl dX0_addFactor_31 ?_
  obtain ⟨x32, e32, hs⟩ := aB hs
  refine ev_get C (ci := 0) (k := 0) rfl wu_0 (by decide) wf_X0_33 (gI_F e32) dX0_addFactor_32 ?_
  refine ev_iconst C (v := 1) dX0_addFactor_35 (by decide) ?_
  refine ev_iadd C dX0_addFactor_36 ?_
  obtain ⟨h37, e37, hs⟩ := aB hs
  refine ev_put C (ci := 0) (k := 0) rfl wu_0 (by decide) tyX0 tyX0_ok nmX0 wf_X0_33 rfl trivial e37 dX0_addFactor_37 ?_
  cases hs
  exact ev_vret C rfl rfl (Nat.le_refl _) (Nat.le_refl _) rfl dX0_addFactor_40
end
-- X0_addOne
theorem dX0_addOne_0 : decode cX0_addOne 0 = .ok (.aload_n 0, 1) := by decide +kernel
theorem dX0_addOne_1 : decode cX0_addOne 1 = .ok (.getfield 37, 3) := by decide +kernel
theorem dX0_addOne_4 : decode cX0_addOne 4 = .ok (.bipush 30, 2) := by decide +kernel
theorem dX0_addOne_6 : decode cX0_addOne 6 = .ok (.if_icmp .ge 56, 3) := by decide +kernel
theorem dX0_addOne_9 : decode cX0_addOne 9 = .ok (.aload_n 0, 1) := by decide +kernel
theorem dX0_addOne_10 : decode cX0_addOne 10 = .ok (.getfield 21, 3) := by decide +kernel
theorem dX0_addOne_13 : decode cX0_addOne 13 = .ok (.aload_n 0, 1) := by decide +kernel
theorem dX0_addOne_14 : decode cX0_addOne 14 = .ok (.getfield 37, 3) := by decide +kernel
theorem dX0_addOne_17 : decode cX0_addOne 17 = .ok (.iload_n 1, 1) := by decide +kernel
theorem dX0_addOne_18 : decode cX0_addOne 18 = .ok (.iastore, 1) := by decide +kernel
theorem dX0_addOne_19 : decode cX0_addOne 19 = .ok (.aload_n 0, 1) := by decide +kernel
theorem dX0_addOne_20 : decode cX0_addOne 20 = .ok (.getfield 24, 3) := by decide +kernel
theorem dX0_addOne_23 : decode cX0_addOne 23 = .ok (.aload_n 0, 1) := by decide +kernel
theorem dX0_addOne_24 : decode cX0_addOne 24 = .ok (.getfield 37, 3) := by decide +kernel
theorem dX0_addOne_27 : decode cX0_addOne 27 = .ok (.iload_n 2, 1) := by decide +kernel
theorem dX0_addOne_28 : decode cX0_addOne 28 = .ok (.iastore, 1) := by decide +kernel
theorem dX0_addOne_29 : decode cX0_addOne 29 = .ok (.aload_n 0, 1) := by decide +kernel
theorem dX0_addOne_30 : decode cX0_addOne 30 = .ok (.getfield 27, 3) := by decide +kernel
theorem dX0_addOne_33 : decode cX0_addOne 33 = .ok (.aload_n 0, 1) := by decide +kernel
theorem dX0_addOne_34 : decode cX0_addOne 34 = .ok (.getfield 37, 3) := by decide +kernel
theorem dX0_addOne_37 : decode cX0_addOne 37 = .ok (.aload_n 0, 1) := by decide +kernel
theorem dX0_addOne_38 : decode cX0_addOne 38 = .ok (.getfield 33, 3) := by decide +kernel
theorem dX0_addOne_41 : decode cX0_addOne 41 = .ok (.iastore, 1) := by decide +kernel
theorem dX0_addOne_42 : decode cX0_addOne 42 = .ok (.aload_n 0, 1) := by decide +kernel
theorem dX0_addOne_43 : decode cX0_addOne 43 = .ok (.getfield 30, 3) := by decide +kernel
theorem dX0_addOne_46 : decode cX0_addOne 46 = .ok (.aload_n 0, 1) := by decide +kernel
theorem dX0_addOne_47 : decode cX0_addOne 47 = .ok (.getfield 37, 3) := by decide +kernel
theorem dX0_addOne_50 : decode cX0_addOne 50 = .ok (.iload_n 3, 1) := by decide +kernel
theorem dX0_addOne_51 : decode cX0_addOne 51 = .ok (.iastore, 1) := by decide +kernel
theorem dX0_addOne_52 : decode cX0_addOne 52 = .ok (.aload_n 0, 1) := by decide +kernel
theorem dX0_addOne_53 : decode cX0_addOne 53 = .ok (.dup, 1) := by decide +kernel
theorem dX0_addOne_54 : decode cX0_addOne 54 = .ok (.getfield 37, 3) := by decide +kernel
theorem dX0_addOne_57 : decode cX0_addOne 57 = .ok (.iconst 1, 1) := by decide +kernel
theorem dX0_addOne_58 : decode cX0_addOne 58 = .ok (.iadd, 1) := by decide +kernel
theorem dX0_addOne_59 : decode cX0_addOne 59 = .ok (.putfield 37, 3) := by decide +kernel
theorem dX0_addOne_62 : decode cX0_addOne 62 = .ok (.return_, 1) := by decide +kernel
def s_X0_addOne (o : Nat) (a1 : Int32) (a2 : Int32) (a3 : Int32) (h : aH) : aO :=
  (gI h (.ref o) 0 4).bind fun x1 => if 30 ≤ x1 then (some (.inl none, h)) else ((gO h (.ref o) 0 5).bind fun x10 => (gI h (.ref o) 0 4).bind fun x14 => (stI h (.ref x10) x14 a1).bind fun h18 => (gO h18 (.ref o) 0 6).bind fun x20 => (gI h18 (.ref o) 0 4).bind fun x24 => (stI h18 (.ref x20) x24 a2).bind fun h28 => (gO h28 (.ref o) 0 7).bind fun x30 => (gI h28 (.ref o) 0 4).bind fun x34 => (gI h28 (.ref o) 0 0).bind fun x38 => (stI h28 (.ref x30) x34 x38).bind fun h41 => (gO h41 (.ref o) 0 8).bind fun x43 => (gI h41 (.ref o) 0 4).bind fun x47 => (stI h41 (.ref x43) x47 a3).bind fun h51 => (gI h51 (.ref o) 0 4).bind fun x54 => (pF h51 (.ref o) 0 4 (.int (x54 + 1))).bind fun h59 => some (.inl none, h59))
section
variable {p : Program} {l : Launch} {e : Env} {s : State} {m : MethodId} {args : Array Value} {below : List Frame} {meth : Method} {c : Code} {D : va_G} {B0 : Nat} {X : Nat → Nat} {ws0 : va_W} {r : aR} {h' : aH} {mc ms : Nat}
theorem hy_X0_addOne : yX0_addOne.cls ≠ "java/lang/invoke/MethodHandle" ∧ yX0_addOne.cls ≠ "java/lang/invoke/VarHandle" ∧ (parseMethodDescriptor yX0_addOne.desc).map (fun d => d.parameters.length) = some 3 := by decide +kernel
theorem T_X0_addOne (o : Nat) (a1 : Int32) (a2 : Int32) (a3 : Int32) (h : aH) (r : aR) (h' : aH) (hs : s_X0_addOne o a1 a2 a3 h = some (r, h')) : Mt yX0_addOne (Cond.code yX0_addOne cX0_addOne 4 none :: aTB) 0 0 0 0 [.ref o, .int a1, .int a2, .int a3] h r h' := by
  unfold s_X0_addOne at hs
  refine Mt_of (k := 0) (by decide) rfl (fun p l e s m args below meth c D B0 X ws0 C => ?_)
  show Ev p l e { frames := 0, cells := 0, slots := 0, locals := 0 } s m args below meth c D B0 X ws0 r h' 0 0 4 0 0 0 [some (.ref o), some (.int a1), some (.int a2), some (.int a3)] [] h
  refine ev_aload_n C (x := .ref o) rfl trivial dX0_addOne_0 ?_
  obtain ⟨x1, e1, hs⟩ := aB hs
  refine ev_get C (ci := 0) (k := 4) rfl wu_0 (by decide) wf_X0_37 (gI_F e1) dX0_addOne_1 ?_
  refine ev_bipush C (v := 30) dX0_addOne_4 (by decide) ?_
  refine ev_icmp_ge C (tgt := 62) (by decide) dX0_addOne_6 (fun q6 => ?_) (fun q6 => ?_)
  · replace hs := (if_pos q6).symm.trans hs
    cases hs
    exact ev_vret C rfl rfl (Nat.le_refl _) (Nat.le_refl _) rfl dX0_addOne_62
  · replace hs := (if_neg q6).symm.trans hs
    refine ev_aload_n C (x := .ref o) rfl trivial dX0_addOne_9 ?_
    obtain ⟨x10, e10, hs⟩ := aB hs
    refine ev_get C (ci := 0) (k := 5) rfl wu_0 (by decide) wf_X0_21 (gO_F e10) dX0_addOne_10 ?_
    refine ev_aload_n C (x := .ref o) rfl trivial dX0_addOne_13 ?_
    obtain ⟨x14, e14, hs⟩ := aB hs
    refine ev_get C (ci := 0) (k := 4) rfl wu_0 (by decide) wf_X0_37 (gI_F e14) dX0_addOne_14 ?_
    refine ev_iload_n C rfl dX0_addOne_17 ?_
    obtain ⟨h18, e18, hs⟩ := aB hs
    refine ev_iast C e18 dX0_addOne_18 ?_
    refine ev_aload_n C (x := .ref o) rfl trivial dX0_addOne_19 ?_
    obtain ⟨x20, e20, hs⟩ := aB hs
    refine ev_get C (ci := 0) (k := 6) rfl wu_0 (by decide) wf_X0_24 (gO_F e20) dX0_addOne_20 ?_
    refine ev_aload_n C (x := .ref o) rfl trivial dX0_addOne_23 ?_
    obtain ⟨x24, e24, hs⟩ := aB hs
    refine ev_get C (ci := 0) (k := 4) rfl wu_0 (by decide) wf_X0_37 (gI_F e24) dX0_addOne_24 ?_
    refine ev_iload_n C rfl dX0_addOne_27 ?_
    obtain ⟨h28, e28, hs⟩ := aB hs
    refine ev_iast C e28 dX0_addOne_28 ?_
    refine ev_aload_n C (x := .ref o) rfl trivial dX0_addOne_29 ?_
    obtain ⟨x30, e30, hs⟩ := aB hs
    refine ev_get C (ci := 0) (k := 7) rfl wu_0 (by decide) wf_X0_27 (gO_F e30) dX0_addOne_30 ?_
    refine ev_aload_n C (x := .ref o) rfl trivial dX0_addOne_33 ?_
    obtain ⟨x34, e34, hs⟩ := aB hs
    refine ev_get C (ci := 0) (k := 4) rfl wu_0 (by decide) wf_X0_37 (gI_F e34) dX0_addOne_34 ?_
    refine ev_aload_n C (x := .ref o) rfl trivial dX0_addOne_37 ?_
    obtain ⟨x38, e38, hs⟩ := aB hs
    refine ev_get C (ci := 0) (k := 0) rfl wu_0 (by decide) wf_X0_33 (gI_F e38) dX0_addOne_38 ?_
    obtain ⟨h41, e41, hs⟩ := aB hs
    refine ev_iast C e41 dX0_addOne_41 ?_
    refine ev_aload_n C (x := .ref o) rfl trivial dX0_addOne_42 ?_
    obtain ⟨x43, e43, hs⟩ := aB hs
    refine ev_get C (ci := 0) (k := 8) rfl wu_0 (by decide) wf_X0_30 (gO_F e43) dX0_addOne_43 ?_
    refine ev_aload_n C (x := .ref o) rfl trivial dX0_addOne_46 ?_
    obtain ⟨x47, e47, hs⟩ := aB hs
    refine ev_get C (ci := 0) (k := 4) rfl wu_0 (by decide) wf_X0_37 (gI_F e47) dX0_addOne_47 ?_
    refine ev_iload_n C rfl dX0_addOne_50 ?_
    obtain ⟨h51, e51, hs⟩ := aB hs
    refine ev_iast C e51 dX0_addOne_51 ?_
    refine ev_aload_n C (x := .ref o) rfl trivial dX0_addOne_52 ?_
    refine ev_dup C rfl dX0_addOne_53 ?_
    obtain ⟨x54, e54, hs⟩ := aB hs
    refine ev_get C (ci := 0) (k := 4) rfl wu_0 (by decide) wf_X0_37 (gI_F e54) dX0_addOne_54 ?_
    refine ev_iconst C (v := 1) dX0_addOne_57 (by decide) ?_
    refine ev_iadd C dX0_addOne_58 ?_
    obtain ⟨h59, e59, hs⟩ := aB hs
    refine ev_put C (ci := 0) (k := 4) rfl wu_0 (by decide) tyX0 tyX0_ok nmX0 wf_X0_37 rfl trivial e59 dX0_addOne_59 ?_
    cases hs
    exact ev_vret C rfl rfl (Nat.le_refl _) (Nat.le_refl _) rfl dX0_addOne_62
end
-- X0_take
theorem dX0_take_0 : decode cX0_take 0 = .ok (.aload_n 0, 1) := by decide +kernel
theorem dX0_take_1 : decode cX0_take 1 = .ok (.aload_n 1, 1) := by decide +kernel
theorem dX0_take_2 : decode cX0_take 2 = .ok (.getfield 33, 3) := by decide +kernel
theorem dX0_take_5 : decode cX0_take 5 = .ok (.putfield 33, 3) := by decide +kernel
theorem dX0_take_8 : decode cX0_take 8 = .ok (.aload_n 0, 1) := by decide +kernel
theorem dX0_take_9 : decode cX0_take 9 = .ok (.aload_n 1, 1) := by decide +kernel
theorem dX0_take_10 : decode cX0_take 10 = .ok (.getfield 37, 3) := by decide +kernel
theorem dX0_take_13 : decode cX0_take 13 = .ok (.putfield 37, 3) := by decide +kernel
theorem dX0_take_16 : decode cX0_take 16 = .ok (.aload_n 1, 1) := by decide +kernel
theorem dX0_take_17 : decode cX0_take 17 = .ok (.getfield 11, 3) := by decide +kernel
theorem dX0_take_20 : decode cX0_take 20 = .ok (.iconst 0, 1) := by decide +kernel
theorem dX0_take_21 : decode cX0_take 21 = .ok (.aload_n 0, 1) := by decide +kernel
theorem dX0_take_22 : decode cX0_take 22 = .ok (.getfield 11, 3) := by decide +kernel
theorem dX0_take_25 : decode cX0_take 25 = .ok (.iconst 0, 1) := by decide +kernel
theorem dX0_take_26 : decode cX0_take 26 = .ok (.bipush 60, 2) := by decide +kernel
theorem dX0_take_28 : decode cX0_take 28 = .ok (.invokestatic 40, 3) := by decide +kernel
theorem dX0_take_31 : decode cX0_take 31 = .ok (.aload_n 1, 1) := by decide +kernel
theorem dX0_take_32 : decode cX0_take 32 = .ok (.getfield 15, 3) := by decide +kernel
theorem dX0_take_35 : decode cX0_take 35 = .ok (.iconst 0, 1) := by decide +kernel
theorem dX0_take_36 : decode cX0_take 36 = .ok (.aload_n 0, 1) := by decide +kernel
theorem dX0_take_37 : decode cX0_take 37 = .ok (.getfield 15, 3) := by decide +kernel
theorem dX0_take_40 : decode cX0_take 40 = .ok (.iconst 0, 1) := by decide +kernel
theorem dX0_take_41 : decode cX0_take 41 = .ok (.bipush 60, 2) := by decide +kernel
theorem dX0_take_43 : decode cX0_take 43 = .ok (.invokestatic 40, 3) := by decide +kernel
theorem dX0_take_46 : decode cX0_take 46 = .ok (.aload_n 1, 1) := by decide +kernel
theorem dX0_take_47 : decode cX0_take 47 = .ok (.getfield 18, 3) := by decide +kernel
theorem dX0_take_50 : decode cX0_take 50 = .ok (.iconst 0, 1) := by decide +kernel
theorem dX0_take_51 : decode cX0_take 51 = .ok (.aload_n 0, 1) := by decide +kernel
theorem dX0_take_52 : decode cX0_take 52 = .ok (.getfield 18, 3) := by decide +kernel
theorem dX0_take_55 : decode cX0_take 55 = .ok (.iconst 0, 1) := by decide +kernel
theorem dX0_take_56 : decode cX0_take 56 = .ok (.bipush 60, 2) := by decide +kernel
theorem dX0_take_58 : decode cX0_take 58 = .ok (.invokestatic 40, 3) := by decide +kernel
theorem dX0_take_61 : decode cX0_take 61 = .ok (.aload_n 1, 1) := by decide +kernel
theorem dX0_take_62 : decode cX0_take 62 = .ok (.getfield 21, 3) := by decide +kernel
theorem dX0_take_65 : decode cX0_take 65 = .ok (.iconst 0, 1) := by decide +kernel
theorem dX0_take_66 : decode cX0_take 66 = .ok (.aload_n 0, 1) := by decide +kernel
theorem dX0_take_67 : decode cX0_take 67 = .ok (.getfield 21, 3) := by decide +kernel
theorem dX0_take_70 : decode cX0_take 70 = .ok (.iconst 0, 1) := by decide +kernel
theorem dX0_take_71 : decode cX0_take 71 = .ok (.bipush 30, 2) := by decide +kernel
theorem dX0_take_73 : decode cX0_take 73 = .ok (.invokestatic 40, 3) := by decide +kernel
theorem dX0_take_76 : decode cX0_take 76 = .ok (.aload_n 1, 1) := by decide +kernel
theorem dX0_take_77 : decode cX0_take 77 = .ok (.getfield 24, 3) := by decide +kernel
theorem dX0_take_80 : decode cX0_take 80 = .ok (.iconst 0, 1) := by decide +kernel
theorem dX0_take_81 : decode cX0_take 81 = .ok (.aload_n 0, 1) := by decide +kernel
theorem dX0_take_82 : decode cX0_take 82 = .ok (.getfield 24, 3) := by decide +kernel
theorem dX0_take_85 : decode cX0_take 85 = .ok (.iconst 0, 1) := by decide +kernel
theorem dX0_take_86 : decode cX0_take 86 = .ok (.bipush 30, 2) := by decide +kernel
theorem dX0_take_88 : decode cX0_take 88 = .ok (.invokestatic 40, 3) := by decide +kernel
theorem dX0_take_91 : decode cX0_take 91 = .ok (.aload_n 1, 1) := by decide +kernel
theorem dX0_take_92 : decode cX0_take 92 = .ok (.getfield 27, 3) := by decide +kernel
theorem dX0_take_95 : decode cX0_take 95 = .ok (.iconst 0, 1) := by decide +kernel
theorem dX0_take_96 : decode cX0_take 96 = .ok (.aload_n 0, 1) := by decide +kernel
theorem dX0_take_97 : decode cX0_take 97 = .ok (.getfield 27, 3) := by decide +kernel
theorem dX0_take_100 : decode cX0_take 100 = .ok (.iconst 0, 1) := by decide +kernel
theorem dX0_take_101 : decode cX0_take 101 = .ok (.bipush 30, 2) := by decide +kernel
theorem dX0_take_103 : decode cX0_take 103 = .ok (.invokestatic 40, 3) := by decide +kernel
theorem dX0_take_106 : decode cX0_take 106 = .ok (.aload_n 1, 1) := by decide +kernel
theorem dX0_take_107 : decode cX0_take 107 = .ok (.getfield 30, 3) := by decide +kernel
theorem dX0_take_110 : decode cX0_take 110 = .ok (.iconst 0, 1) := by decide +kernel
theorem dX0_take_111 : decode cX0_take 111 = .ok (.aload_n 0, 1) := by decide +kernel
theorem dX0_take_112 : decode cX0_take 112 = .ok (.getfield 30, 3) := by decide +kernel
theorem dX0_take_115 : decode cX0_take 115 = .ok (.iconst 0, 1) := by decide +kernel
theorem dX0_take_116 : decode cX0_take 116 = .ok (.bipush 30, 2) := by decide +kernel
theorem dX0_take_118 : decode cX0_take 118 = .ok (.invokestatic 40, 3) := by decide +kernel
theorem dX0_take_121 : decode cX0_take 121 = .ok (.return_, 1) := by decide +kernel
def s_X0_take (o : Nat) (a1 : Nat) (h : aH) : aO :=
  (gI h (.ref a1) 0 0).bind fun x2 => (pF h (.ref o) 0 0 (.int x2)).bind fun h5 => (gI h5 (.ref a1) 0 4).bind fun x10 => (pF h5 (.ref o) 0 4 (.int x10)).bind fun h13 => (gO h13 (.ref a1) 0 1).bind fun x17 => (gO h13 (.ref o) 0 1).bind fun x22 => (cpI h13 (.ref x17) 0 (.ref x22) 0 60).bind fun h28 => (gO h28 (.ref a1) 0 2).bind fun x32 => (gO h28 (.ref o) 0 2).bind fun x37 => (cpI h28 (.ref x32) 0 (.ref x37) 0 60).bind fun h43 => (gO h43 (.ref a1) 0 3).bind fun x47 => (gO h43 (.ref o) 0 3).bind fun x52 => (cpI h43 (.ref x47) 0 (.ref x52) 0 60).bind fun h58 => (gO h58 (.ref a1) 0 5).bind fun x62 => (gO h58 (.ref o) 0 5).bind fun x67 => (cpI h58 (.ref x62) 0 (.ref x67) 0 30).bind fun h73 => (gO h73 (.ref a1) 0 6).bind fun x77 => (gO h73 (.ref o) 0 6).bind fun x82 => (cpI h73 (.ref x77) 0 (.ref x82) 0 30).bind fun h88 => (gO h88 (.ref a1) 0 7).bind fun x92 => (gO h88 (.ref o) 0 7).bind fun x97 => (cpI h88 (.ref x92) 0 (.ref x97) 0 30).bind fun h103 => (gO h103 (.ref a1) 0 8).bind fun x107 => (gO h103 (.ref o) 0 8).bind fun x112 => (cpI h103 (.ref x107) 0 (.ref x112) 0 30).bind fun h118 => some (.inl none, h118)
section
variable {p : Program} {l : Launch} {e : Env} {s : State} {m : MethodId} {args : Array Value} {below : List Frame} {meth : Method} {c : Code} {D : va_G} {B0 : Nat} {X : Nat → Nat} {ws0 : va_W} {r : aR} {h' : aH} {mc ms : Nat}
theorem hy_X0_take : yX0_take.cls ≠ "java/lang/invoke/MethodHandle" ∧ yX0_take.cls ≠ "java/lang/invoke/VarHandle" ∧ (parseMethodDescriptor yX0_take.desc).map (fun d => d.parameters.length) = some 1 := by decide +kernel
theorem T_X0_take (o : Nat) (a1 : Nat) (h : aH) (r : aR) (h' : aH) (hs : s_X0_take o a1 h = some (r, h')) : Mt yX0_take (Cond.code yX0_take cX0_take 2 none :: aTB) 1 60 0 0 [.ref o, .ref a1] h r h' := by
  unfold s_X0_take at hs
  refine Mt_of (k := 0) (by decide) rfl (fun p l e s m args below meth c D B0 X ws0 C => ?_)
  show Ev p l e { frames := 1, cells := 0, slots := 0, locals := 60 } s m args below meth c D B0 X ws0 r h' 0 0 2 0 0 0 [some (.ref o), some (.ref a1)] [] h
  refine ev_aload_n C (x := .ref o) rfl trivial dX0_take_0 ?_
  refine ev_aload_n C (x := .ref a1) rfl trivial dX0_take_1 ?_
  obtain ⟨x2, e2, hs⟩ := aB hs
  refine ev_get C (ci := 0) (k := 0) rfl wu_0 (by decide) wf_X0_33 (gI_F e2) dX0_take_2 ?_
  obtain ⟨h5, e5, hs⟩ := aB hs
  refine ev_put C (ci := 0) (k := 0) rfl wu_0 (by decide) tyX0 tyX0_ok nmX0 wf_X0_33 rfl trivial e5 dX0_take_5 ?_
  refine ev_aload_n C (x := .ref o) rfl trivial dX0_take_8 ?_
  refine ev_aload_n C (x := .ref a1) rfl trivial dX0_take_9 ?_
  obtain ⟨x10, e10, hs⟩ := aB hs
  refine ev_get C (ci := 0) (k := 4) rfl wu_0 (by decide) wf_X0_37 (gI_F e10) dX0_take_10 ?_
  obtain ⟨h13, e13, hs⟩ := aB hs
  refine ev_put C (ci := 0) (k := 4) rfl wu_0 (by decide) tyX0 tyX0_ok nmX0 wf_X0_37 rfl trivial e13 dX0_take_13 ?_
  refine ev_aload_n C (x := .ref a1) rfl trivial dX0_take_16 ?_
  obtain ⟨x17, e17, hs⟩ := aB hs
  refine ev_get C (ci := 0) (k := 1) rfl wu_0 (by decide) wf_X0_11 (gO_F e17) dX0_take_17 ?_
  refine ev_iconst C (v := 0) dX0_take_20 (by decide) ?_
  refine ev_aload_n C (x := .ref o) rfl trivial dX0_take_21 ?_
  obtain ⟨x22, e22, hs⟩ := aB hs
  refine ev_get C (ci := 0) (k := 1) rfl wu_0 (by decide) wf_X0_11 (gO_F e22) dX0_take_22 ?_
  refine ev_iconst C (v := 0) dX0_take_25 (by decide) ?_
  refine ev_bipush C (v := 60) dX0_take_26 (by decide) ?_
  obtain ⟨h28, e28, hs⟩ := aB hs
  refine ev_cpI C wm_X0_40 wb_acopy wt_acopy wz_J10 e28 (Nat.le_of_ble_eq_true rfl) (Nat.le_of_ble_eq_true rfl) dX0_take_28 ?_
  refine ev_aload_n C (x := .ref a1) rfl trivial dX0_take_31 ?_
  obtain ⟨x32, e32, hs⟩ := aB hs
  refine ev_get C (ci := 0) (k := 2) rfl wu_0 (by decide) wf_X0_15 (gO_F e32) dX0_take_32 ?_
  refine ev_iconst C (v := 0) dX0_take_35 (by decide) ?_
  refine ev_aload_n C (x := .ref o) rfl trivial dX0_take_36 ?_
  obtain ⟨x37, e37, hs⟩ := aB hs
  refine ev_get C (ci := 0) (k := 2) rfl wu_0 (by decide) wf_X0_15 (gO_F e37) dX0_take_37 ?_
  refine ev_iconst C (v := 0) dX0_take_40 (by decide) ?_
  refine ev_bipush C (v := 60) dX0_take_41 (by decide) ?_
  obtain ⟨h43, e43, hs⟩ := aB hs
  refine ev_cpI C wm_X0_40 wb_acopy wt_acopy wz_J10 e43 (Nat.le_of_ble_eq_true rfl) (Nat.le_of_ble_eq_true rfl) dX0_take_43 ?_
  refine ev_aload_n C (x := .ref a1) rfl trivial dX0_take_46 ?_
  obtain ⟨x47, e47, hs⟩ := aB hs
  refine ev_get C (ci := 0) (k := 3) rfl wu_0 (by decide) wf_X0_18 (gO_F e47) dX0_take_47 ?_
  refine ev_iconst C (v := 0) dX0_take_50 (by decide) ?_
  refine ev_aload_n C (x := .ref o) rfl trivial dX0_take_51 ?_
  obtain ⟨x52, e52, hs⟩ := aB hs
  refine ev_get C (ci := 0) (k := 3) rfl wu_0 (by decide) wf_X0_18 (gO_F e52) dX0_take_52 ?_
  refine ev_iconst C (v := 0) dX0_take_55 (by decide) ?_
  refine ev_bipush C (v := 60) dX0_take_56 (by decide) ?_
  obtain ⟨h58, e58, hs⟩ := aB hs
  refine ev_cpI C wm_X0_40 wb_acopy wt_acopy wz_J10 e58 (Nat.le_of_ble_eq_true rfl) (Nat.le_of_ble_eq_true rfl) dX0_take_58 ?_
  refine ev_aload_n C (x := .ref a1) rfl trivial dX0_take_61 ?_
  obtain ⟨x62, e62, hs⟩ := aB hs
  refine ev_get C (ci := 0) (k := 5) rfl wu_0 (by decide) wf_X0_21 (gO_F e62) dX0_take_62 ?_
  refine ev_iconst C (v := 0) dX0_take_65 (by decide) ?_
  refine ev_aload_n C (x := .ref o) rfl trivial dX0_take_66 ?_
  obtain ⟨x67, e67, hs⟩ := aB hs
  refine ev_get C (ci := 0) (k := 5) rfl wu_0 (by decide) wf_X0_21 (gO_F e67) dX0_take_67 ?_
  refine ev_iconst C (v := 0) dX0_take_70 (by decide) ?_
  refine ev_bipush C (v := 30) dX0_take_71 (by decide) ?_
  obtain ⟨h73, e73, hs⟩ := aB hs
  refine ev_cpI C wm_X0_40 wb_acopy wt_acopy wz_J10 e73 (Nat.le_of_ble_eq_true rfl) (Nat.le_of_ble_eq_true rfl) dX0_take_73 ?_
  refine ev_aload_n C (x := .ref a1) rfl trivial dX0_take_76 ?_
  obtain ⟨x77, e77, hs⟩ := aB hs
  refine ev_get C (ci := 0) (k := 6) rfl wu_0 (by decide) wf_X0_24 (gO_F e77) dX0_take_77 ?_
  refine ev_iconst C (v := 0) dX0_take_80 (by decide) ?_
  refine ev_aload_n C (x := .ref o) rfl trivial dX0_take_81 ?_
  obtain ⟨x82, e82, hs⟩ := aB hs
  refine ev_get C (ci := 0) (k := 6) rfl wu_0 (by decide) wf_X0_24 (gO_F e82) dX0_take_82 ?_
  refine ev_iconst C (v := 0) dX0_take_85 (by decide) ?_
  refine ev_bipush C (v := 30) dX0_take_86 (by decide) ?_
  obtain ⟨h88, e88, hs⟩ := aB hs
  refine ev_cpI C wm_X0_40 wb_acopy wt_acopy wz_J10 e88 (Nat.le_of_ble_eq_true rfl) (Nat.le_of_ble_eq_true rfl) dX0_take_88 ?_
  refine ev_aload_n C (x := .ref a1) rfl trivial dX0_take_91 ?_
  obtain ⟨x92, e92, hs⟩ := aB hs
  refine ev_get C (ci := 0) (k := 7) rfl wu_0 (by decide) wf_X0_27 (gO_F e92) dX0_take_92 ?_
  refine ev_iconst C (v := 0) dX0_take_95 (by decide) ?_
  refine ev_aload_n C (x := .ref o) rfl trivial dX0_take_96 ?_
  obtain ⟨x97, e97, hs⟩ := aB hs
  refine ev_get C (ci := 0) (k := 7) rfl wu_0 (by decide) wf_X0_27 (gO_F e97) dX0_take_97 ?_
  refine ev_iconst C (v := 0) dX0_take_100 (by decide) ?_
  refine ev_bipush C (v := 30) dX0_take_101 (by decide) ?_
  obtain ⟨h103, e103, hs⟩ := aB hs
  refine ev_cpI C wm_X0_40 wb_acopy wt_acopy wz_J10 e103 (Nat.le_of_ble_eq_true rfl) (Nat.le_of_ble_eq_true rfl) dX0_take_103 ?_
  refine ev_aload_n C (x := .ref a1) rfl trivial dX0_take_106 ?_
  obtain ⟨x107, e107, hs⟩ := aB hs
  refine ev_get C (ci := 0) (k := 8) rfl wu_0 (by decide) wf_X0_30 (gO_F e107) dX0_take_107 ?_
  refine ev_iconst C (v := 0) dX0_take_110 (by decide) ?_
  refine ev_aload_n C (x := .ref o) rfl trivial dX0_take_111 ?_
  obtain ⟨x112, e112, hs⟩ := aB hs
  refine ev_get C (ci := 0) (k := 8) rfl wu_0 (by decide) wf_X0_30 (gO_F e112) dX0_take_112 ?_
  refine ev_iconst C (v := 0) dX0_take_115 (by decide) ?_
  refine ev_bipush C (v := 30) dX0_take_116 (by decide) ?_
  obtain ⟨h118, e118, hs⟩ := aB hs
  refine ev_cpI C wm_X0_40 wb_acopy wt_acopy wz_J10 e118 (Nat.le_of_ble_eq_true rfl) (Nat.le_of_ble_eq_true rfl) dX0_take_118 ?_
  cases hs
  exact ev_vret C rfl rfl (Nat.le_refl _) (Nat.le_refl _) rfl dX0_take_121
end
-- X0_sumOf
theorem dX0_sumOf_0 : decode cX0_sumOf 0 = .ok (.iconst 0, 1) := by decide +kernel
theorem dX0_sumOf_1 : decode cX0_sumOf 1 = .ok (.istore 4, 2) := by decide +kernel
theorem dX0_sumOf_3 : decode cX0_sumOf 3 = .ok (.iconst 0, 1) := by decide +kernel
theorem dX0_sumOf_4 : decode cX0_sumOf 4 = .ok (.istore 5, 2) := by decide +kernel
theorem dX0_sumOf_6 : decode cX0_sumOf 6 = .ok (.iconst 0, 1) := by decide +kernel
theorem dX0_sumOf_7 : decode cX0_sumOf 7 = .ok (.istore 6, 2) := by decide +kernel
theorem dX0_sumOf_9 : decode cX0_sumOf 9 = .ok (.iload_n 1, 1) := by decide +kernel
theorem dX0_sumOf_10 : decode cX0_sumOf 10 = .ok (.istore 7, 2) := by decide +kernel
theorem dX0_sumOf_12 : decode cX0_sumOf 12 = .ok (.iload 7, 2) := by decide +kernel
theorem dX0_sumOf_14 : decode cX0_sumOf 14 = .ok (.iload_n 2, 1) := by decide +kernel
theorem dX0_sumOf_15 : decode cX0_sumOf 15 = .ok (.if_icmp .ge 157, 3) := by decide +kernel
theorem dX0_sumOf_18 : decode cX0_sumOf 18 = .ok (.aload_n 0, 1) := by decide +kernel
theorem dX0_sumOf_19 : decode cX0_sumOf 19 = .ok (.getfield 15, 3) := by decide +kernel
theorem dX0_sumOf_22 : decode cX0_sumOf 22 = .ok (.iload 7, 2) := by decide +kernel
theorem dX0_sumOf_24 : decode cX0_sumOf 24 = .ok (.iaload, 1) := by decide +kernel
theorem dX0_sumOf_25 : decode cX0_sumOf 25 = .ok (.ifCond .ge 13, 3) := by decide +kernel
theorem dX0_sumOf_28 : decode cX0_sumOf 28 = .ok (.aload_n 0, 1) := by decide +kernel
theorem dX0_sumOf_29 : decode cX0_sumOf 29 = .ok (.getfield 18, 3) := by decide +kernel
theorem dX0_sumOf_32 : decode cX0_sumOf 32 = .ok (.iload 7, 2) := by decide +kernel
theorem dX0_sumOf_34 : decode cX0_sumOf 34 = .ok (.iaload, 1) := by decide +kernel
theorem dX0_sumOf_35 : decode cX0_sumOf 35 = .ok (.goto 12, 3) := by decide +kernel
theorem dX0_sumOf_38 : decode cX0_sumOf 38 = .ok (.aload_n 3, 1) := by decide +kernel
theorem dX0_sumOf_39 : decode cX0_sumOf 39 = .ok (.aload_n 0, 1) := by decide +kernel
theorem dX0_sumOf_40 : decode cX0_sumOf 40 = .ok (.getfield 15, 3) := by decide +kernel
theorem dX0_sumOf_43 : decode cX0_sumOf 43 = .ok (.iload 7, 2) := by decide +kernel
theorem dX0_sumOf_45 : decode cX0_sumOf 45 = .ok (.iaload, 1) := by decide +kernel
theorem dX0_sumOf_46 : decode cX0_sumOf 46 = .ok (.iaload, 1) := by decide +kernel
theorem dX0_sumOf_47 : decode cX0_sumOf 47 = .ok (.istore 8, 2) := by decide +kernel
theorem dX0_sumOf_49 : decode cX0_sumOf 49 = .ok (.aload_n 0, 1) := by decide +kernel
theorem dX0_sumOf_50 : decode cX0_sumOf 50 = .ok (.getfield 11, 3) := by decide +kernel
theorem dX0_sumOf_53 : decode cX0_sumOf 53 = .ok (.iload 7, 2) := by decide +kernel
theorem dX0_sumOf_55 : decode cX0_sumOf 55 = .ok (.iaload, 1) := by decide +kernel
theorem dX0_sumOf_56 : decode cX0_sumOf 56 = .ok (.iconst 2, 1) := by decide +kernel
theorem dX0_sumOf_57 : decode cX0_sumOf 57 = .ok (.if_icmp .ne 41, 3) := by decide +kernel
theorem dX0_sumOf_60 : decode cX0_sumOf 60 = .ok (.iload 5, 2) := by decide +kernel
theorem dX0_sumOf_62 : decode cX0_sumOf 62 = .ok (.iload 8, 2) := by decide +kernel
theorem dX0_sumOf_64 : decode cX0_sumOf 64 = .ok (.imul, 1) := by decide +kernel
theorem dX0_sumOf_65 : decode cX0_sumOf 65 = .ok (.istore 5, 2) := by decide +kernel
theorem dX0_sumOf_67 : decode cX0_sumOf 67 = .ok (.iload 5, 2) := by decide +kernel
theorem dX0_sumOf_69 : decode cX0_sumOf 69 = .ok (.ldc 46, 2) := by decide +kernel
theorem dX0_sumOf_71 : decode cX0_sumOf 71 = .ok (.if_icmp .le 8, 3) := by decide +kernel
theorem dX0_sumOf_74 : decode cX0_sumOf 74 = .ok (.ldc 46, 2) := by decide +kernel
theorem dX0_sumOf_76 : decode cX0_sumOf 76 = .ok (.goto 17, 3) := by decide +kernel
theorem dX0_sumOf_79 : decode cX0_sumOf 79 = .ok (.iload 5, 2) := by decide +kernel
theorem dX0_sumOf_81 : decode cX0_sumOf 81 = .ok (.ldc 47, 2) := by decide +kernel
theorem dX0_sumOf_83 : decode cX0_sumOf 83 = .ok (.if_icmp .ge 8, 3) := by decide +kernel
theorem dX0_sumOf_86 : decode cX0_sumOf 86 = .ok (.ldc 47, 2) := by decide +kernel
theorem dX0_sumOf_88 : decode cX0_sumOf 88 = .ok (.goto 5, 3) := by decide +kernel
theorem dX0_sumOf_91 : decode cX0_sumOf 91 = .ok (.iload 5, 2) := by decide +kernel
theorem dX0_sumOf_93 : decode cX0_sumOf 93 = .ok (.istore 5, 2) := by decide +kernel
theorem dX0_sumOf_95 : decode cX0_sumOf 95 = .ok (.goto 71, 3) := by decide +kernel
theorem dX0_sumOf_98 : decode cX0_sumOf 98 = .ok (.iload 4, 2) := by decide +kernel
theorem dX0_sumOf_100 : decode cX0_sumOf 100 = .ok (.iload 6, 2) := by decide +kernel
theorem dX0_sumOf_102 : decode cX0_sumOf 102 = .ok (.ifCond .eq 9, 3) := by decide +kernel
theorem dX0_sumOf_105 : decode cX0_sumOf 105 = .ok (.iload 5, 2) := by decide +kernel
theorem dX0_sumOf_107 : decode cX0_sumOf 107 = .ok (.ineg, 1) := by decide +kernel
theorem dX0_sumOf_108 : decode cX0_sumOf 108 = .ok (.goto 5, 3) := by decide +kernel
theorem dX0_sumOf_111 : decode cX0_sumOf 111 = .ok (.iload 5, 2) := by decide +kernel
theorem dX0_sumOf_113 : decode cX0_sumOf 113 = .ok (.iadd, 1) := by decide +kernel
theorem dX0_sumOf_114 : decode cX0_sumOf 114 = .ok (.istore 4, 2) := by decide +kernel
theorem dX0_sumOf_116 : decode cX0_sumOf 116 = .ok (.iload 4, 2) := by decide +kernel
theorem dX0_sumOf_118 : decode cX0_sumOf 118 = .ok (.ldc 46, 2) := by decide +kernel
theorem dX0_sumOf_120 : decode cX0_sumOf 120 = .ok (.if_icmp .le 8, 3) := by decide +kernel
theorem dX0_sumOf_123 : decode cX0_sumOf 123 = .ok (.ldc 46, 2) := by decide +kernel
theorem dX0_sumOf_125 : decode cX0_sumOf 125 = .ok (.goto 17, 3) := by decide +kernel
theorem dX0_sumOf_128 : decode cX0_sumOf 128 = .ok (.iload 4, 2) := by decide +kernel
theorem dX0_sumOf_130 : decode cX0_sumOf 130 = .ok (.ldc 47, 2) := by decide +kernel
theorem dX0_sumOf_132 : decode cX0_sumOf 132 = .ok (.if_icmp .ge 8, 3) := by decide +kernel
theorem dX0_sumOf_135 : decode cX0_sumOf 135 = .ok (.ldc 47, 2) := by decide +kernel
theorem dX0_sumOf_137 : decode cX0_sumOf 137 = .ok (.goto 5, 3) := by decide +kernel
theorem dX0_sumOf_140 : decode cX0_sumOf 140 = .ok (.iload 4, 2) := by decide +kernel
theorem dX0_sumOf_142 : decode cX0_sumOf 142 = .ok (.istore 4, 2) := by decide +kernel
theorem dX0_sumOf_144 : decode cX0_sumOf 144 = .ok (.iload 8, 2) := by decide +kernel
theorem dX0_sumOf_146 : decode cX0_sumOf 146 = .ok (.istore 5, 2) := by decide +kernel
theorem dX0_sumOf_148 : decode cX0_sumOf 148 = .ok (.aload_n 0, 1) := by decide +kernel
theorem dX0_sumOf_149 : decode cX0_sumOf 149 = .ok (.getfield 11, 3) := by decide +kernel
theorem dX0_sumOf_152 : decode cX0_sumOf 152 = .ok (.iload 7, 2) := by decide +kernel
theorem dX0_sumOf_154 : decode cX0_sumOf 154 = .ok (.iaload, 1) := by decide +kernel
theorem dX0_sumOf_155 : decode cX0_sumOf 155 = .ok (.iconst 1, 1) := by decide +kernel
theorem dX0_sumOf_156 : decode cX0_sumOf 156 = .ok (.if_icmp .ne 7, 3) := by decide +kernel
theorem dX0_sumOf_159 : decode cX0_sumOf 159 = .ok (.iconst 1, 1) := by decide +kernel
theorem dX0_sumOf_160 : decode cX0_sumOf 160 = .ok (.goto 4, 3) := by decide +kernel
theorem dX0_sumOf_163 : decode cX0_sumOf 163 = .ok (.iconst 0, 1) := by decide +kernel
theorem dX0_sumOf_164 : decode cX0_sumOf 164 = .ok (.istore 6, 2) := by decide +kernel
theorem dX0_sumOf_166 : decode cX0_sumOf 166 = .ok (.iinc 7 1, 3) := by decide +kernel
theorem dX0_sumOf_169 : decode cX0_sumOf 169 = .ok (.goto (-157), 3) := by decide +kernel
theorem dX0_sumOf_172 : decode cX0_sumOf 172 = .ok (.iload 4, 2) := by decide +kernel
theorem dX0_sumOf_174 : decode cX0_sumOf 174 = .ok (.iload 6, 2) := by decide +kernel
theorem dX0_sumOf_176 : decode cX0_sumOf 176 = .ok (.ifCond .eq 9, 3) := by decide +kernel
theorem dX0_sumOf_179 : decode cX0_sumOf 179 = .ok (.iload 5, 2) := by decide +kernel
theorem dX0_sumOf_181 : decode cX0_sumOf 181 = .ok (.ineg, 1) := by decide +kernel
theorem dX0_sumOf_182 : decode cX0_sumOf 182 = .ok (.goto 5, 3) := by decide +kernel
theorem dX0_sumOf_185 : decode cX0_sumOf 185 = .ok (.iload 5, 2) := by decide +kernel
theorem dX0_sumOf_187 : decode cX0_sumOf 187 = .ok (.iadd, 1) := by decide +kernel
theorem dX0_sumOf_188 : decode cX0_sumOf 188 = .ok (.istore 4, 2) := by decide +kernel
theorem dX0_sumOf_190 : decode cX0_sumOf 190 = .ok (.iload 4, 2) := by decide +kernel
theorem dX0_sumOf_192 : decode cX0_sumOf 192 = .ok (.ldc 46, 2) := by decide +kernel
theorem dX0_sumOf_194 : decode cX0_sumOf 194 = .ok (.if_icmp .le 8, 3) := by decide +kernel
theorem dX0_sumOf_197 : decode cX0_sumOf 197 = .ok (.ldc 46, 2) := by decide +kernel
theorem dX0_sumOf_199 : decode cX0_sumOf 199 = .ok (.goto 17, 3) := by decide +kernel
theorem dX0_sumOf_202 : decode cX0_sumOf 202 = .ok (.iload 4, 2) := by decide +kernel
theorem dX0_sumOf_204 : decode cX0_sumOf 204 = .ok (.ldc 47, 2) := by decide +kernel
theorem dX0_sumOf_206 : decode cX0_sumOf 206 = .ok (.if_icmp .ge 8, 3) := by decide +kernel
theorem dX0_sumOf_209 : decode cX0_sumOf 209 = .ok (.ldc 47, 2) := by decide +kernel
theorem dX0_sumOf_211 : decode cX0_sumOf 211 = .ok (.goto 5, 3) := by decide +kernel
theorem dX0_sumOf_214 : decode cX0_sumOf 214 = .ok (.iload 4, 2) := by decide +kernel
theorem dX0_sumOf_216 : decode cX0_sumOf 216 = .ok (.ireturn, 1) := by decide +kernel
def s_X0_sumOf_187  (s0 : Int32) (s1 : Int32) (h : aH) : aO :=
  if (s1 + s0) ≤ 1000000 then (if (-1000000) ≤ (s1 + s0) then (some (.inl (some (.int (s1 + s0))), h)) else (some (.inl (some (.int (-1000000))), h))) else (some (.inl (some (.int 1000000)), h))
def s_X0_sumOf_164 (k12 : Nat → Int32 → Nat → Int32 → Int32 → Int32 → Int32 → aH → aO) (l0 : Nat) (l2 : Int32) (l3 : Nat) (l4 : Int32) (l5 : Int32) (l7 : Int32) (s0 : Int32) (h : aH) : aO :=
  k12 l0 l2 l3 l4 l5 s0 (l7 + 1) h
def s_X0_sumOf_142 (k12 : Nat → Int32 → Nat → Int32 → Int32 → Int32 → Int32 → aH → aO) (l0 : Nat) (l2 : Int32) (l3 : Nat) (l7 : Int32) (l8 : Int32) (s0 : Int32) (h : aH) : aO :=
  (gO h (.ref l0) 0 1).bind fun x149 => (ldI .int h (.ref x149) l7).bind fun x154 => if x154 = 1 then (s_X0_sumOf_164 k12 l0 l2 l3 s0 l8 l7 1 h) else (s_X0_sumOf_164 k12 l0 l2 l3 s0 l8 l7 0 h)
def s_X0_sumOf_113 (k12 : Nat → Int32 → Nat → Int32 → Int32 → Int32 → Int32 → aH → aO) (l0 : Nat) (l2 : Int32) (l3 : Nat) (l7 : Int32) (l8 : Int32) (s0 : Int32) (s1 : Int32) (h : aH) : aO :=
  if (s1 + s0) ≤ 1000000 then (if (-1000000) ≤ (s1 + s0) then (s_X0_sumOf_142 k12 l0 l2 l3 l7 l8 (s1 + s0) h) else (s_X0_sumOf_142 k12 l0 l2 l3 l7 l8 (-1000000) h)) else (s_X0_sumOf_142 k12 l0 l2 l3 l7 l8 1000000 h)
def s_X0_sumOf_93 (k12 : Nat → Int32 → Nat → Int32 → Int32 → Int32 → Int32 → aH → aO) (l0 : Nat) (l2 : Int32) (l3 : Nat) (l4 : Int32) (l6 : Int32) (l7 : Int32) (s0 : Int32) (h : aH) : aO :=
  k12 l0 l2 l3 l4 s0 l6 (l7 + 1) h
def s_X0_sumOf_47 (k12 : Nat → Int32 → Nat → Int32 → Int32 → Int32 → Int32 → aH → aO) (l0 : Nat) (l2 : Int32) (l3 : Nat) (l4 : Int32) (l5 : Int32) (l6 : Int32) (l7 : Int32) (s0 : Int32) (h : aH) : aO :=
  (gO h (.ref l0) 0 1).bind fun x50 => (ldI .int h (.ref x50) l7).bind fun x55 => if x55 = 2 then (if (l5 * s0) ≤ 1000000 then (if (-1000000) ≤ (l5 * s0) then (s_X0_sumOf_93 k12 l0 l2 l3 l4 l6 l7 (l5 * s0) h) else (s_X0_sumOf_93 k12 l0 l2 l3 l4 l6 l7 (-1000000) h)) else (s_X0_sumOf_93 k12 l0 l2 l3 l4 l6 l7 1000000 h)) else (if l6 = 0 then (s_X0_sumOf_113 k12 l0 l2 l3 l7 s0 l5 l4 h) else (s_X0_sumOf_113 k12 l0 l2 l3 l7 s0 (-l5) l4 h))
def s_X0_sumOf_12_b  (k12 : Nat → Int32 → Nat → Int32 → Int32 → Int32 → Int32 → aH → aO) (l0 : Nat) (l2 : Int32) (l3 : Nat) (l4 : Int32) (l5 : Int32) (l6 : Int32) (l7 : Int32) (h : aH) : aO :=
  if l2 ≤ l7 then (if l6 = 0 then (s_X0_sumOf_187 l5 l4 h) else (s_X0_sumOf_187 (-l5) l4 h)) else ((gO h (.ref l0) 0 2).bind fun x19 => (ldI .int h (.ref x19) l7).bind fun x24 => if 0 ≤ x24 then ((gO h (.ref l0) 0 2).bind fun x40 => (ldI .int h (.ref x40) l7).bind fun x45 => (ldI .int h (.ref l3) x45).bind fun x46 => s_X0_sumOf_47 k12 l0 l2 l3 l4 l5 l6 l7 x46 h) else ((gO h (.ref l0) 0 3).bind fun x29 => (ldI .int h (.ref x29) l7).bind fun x34 => s_X0_sumOf_47 k12 l0 l2 l3 l4 l5 l6 l7 x34 h))
def s_X0_sumOf_12  (n : Nat) : Nat → Int32 → Nat → Int32 → Int32 → Int32 → Int32 → aH → aO := lpF (fun _ _ _ _ _ _ _ _ => none) (s_X0_sumOf_12_b ) n
def s_X0_sumOf (o : Nat) (a1 : Int32) (a2 : Int32) (a3 : Nat) (h : aH) : aO :=
  s_X0_sumOf_12 FU o a2 a3 0 0 0 a1 h
section
variable {p : Program} {l : Launch} {e : Env} {s : State} {m : MethodId} {args : Array Value} {below : List Frame} {meth : Method} {c : Code} {D : va_G} {B0 : Nat} {X : Nat → Nat} {ws0 : va_W} {r : aR} {h' : aH} {mc ms : Nat}
theorem t_X0_sumOf_187 (C : Cx p l s m args meth c B0 X RX0 "sumOf" cX0_sumOf 9 (some .int) [])   {s0 : Int32} {s1 : Int32} {h : aH} (hs : s_X0_sumOf_187  s0 s1 h = some (r, h')) : Ev p l e { frames := 0, cells := mc, slots := ms, locals := 0 } s m args below meth c D B0 X ws0 r h' mc ms 9 mc ms 187 [none, none, none, none, none, none, none, none, none] [.int s0, .int s1] h := by
  unfold s_X0_sumOf_187 at hs
  refine ev_iadd C dX0_sumOf_187 ?_
  refine ev_istore C (by decide) dX0_sumOf_188 ?_
  refine ev_iload C rfl dX0_sumOf_190 ?_
  refine ev_ldc C wv_X0_46 dX0_sumOf_192 ?_
  refine ev_icmp_le C (tgt := 202) (by decide) dX0_sumOf_194 (fun q194 => ?_) (fun q194 => ?_)
  · replace hs := (if_pos q194).symm.trans hs
    refine ev_iload C rfl dX0_sumOf_202 ?_
    refine ev_ldc C wv_X0_47 dX0_sumOf_204 ?_
    refine ev_icmp_ge C (tgt := 214) (by decide) dX0_sumOf_206 (fun q206 => ?_) (fun q206 => ?_)
    · replace hs := (if_pos q206).symm.trans hs
      refine ev_iload C rfl dX0_sumOf_214 ?_
      cases hs
      exact ev_iret C rfl rfl (Nat.le_refl _) (Nat.le_refl _) rfl dX0_sumOf_216
    · replace hs := (if_neg q206).symm.trans hs
      refine ev_ldc C wv_X0_47 dX0_sumOf_209 ?_
      refine ev_goto C (tgt := 216) (by decide) dX0_sumOf_211 ?_
      cases hs
      exact ev_iret C rfl rfl (Nat.le_refl _) (Nat.le_refl _) rfl dX0_sumOf_216
  · replace hs := (if_neg q194).symm.trans hs
    refine ev_ldc C wv_X0_46 dX0_sumOf_197 ?_
    refine ev_goto C (tgt := 216) (by decide) dX0_sumOf_199 ?_
    cases hs
    exact ev_iret C rfl rfl (Nat.le_refl _) (Nat.le_refl _) rfl dX0_sumOf_216
theorem t_X0_sumOf_164 (C : Cx p l s m args meth c B0 X RX0 "sumOf" cX0_sumOf 9 (some .int) []) {k12 : Nat → Int32 → Nat → Int32 → Int32 → Int32 → Int32 → aH → aO} (K12 : ∀ (l0 : Nat) (l2 : Int32) (l3 : Nat) (l4 : Int32) (l5 : Int32) (l6 : Int32) (l7 : Int32) (h : aH), k12 l0 l2 l3 l4 l5 l6 l7 h = some (r, h') → Ev p l e { frames := 0, cells := mc, slots := ms, locals := 0 } s m args below meth c D B0 X ws0 r h' mc ms 9 mc ms 12 [some (.ref l0), none, some (.int l2), some (.ref l3), some (.int l4), some (.int l5), some (.int l6), some (.int l7), none] [] h) {l0 : Nat} {l2 : Int32} {l3 : Nat} {l4 : Int32} {l5 : Int32} {l7 : Int32} {s0 : Int32} {h : aH} (hs : s_X0_sumOf_164 k12 l0 l2 l3 l4 l5 l7 s0 h = some (r, h')) : Ev p l e { frames := 0, cells := mc, slots := ms, locals := 0 } s m args below meth c D B0 X ws0 r h' mc ms 9 mc ms 164 [some (.ref l0), none, some (.int l2), some (.ref l3), some (.int l4), some (.int l5), none, some (.int l7), none] [.int s0] h := by
  unfold s_X0_sumOf_164 at hs
  refine ev_istore C (by decide) dX0_sumOf_164 ?_
  refine ev_iinc C (i := 7) (n := 1) (x := l7) (v := l7 + 1) rfl (congrArg (fun z => l7 + z) (show Int32.ofInt 1 = 1 by decide)) (by decide) dX0_sumOf_166 ?_
  refine ev_goto C (tgt := 12) (by decide) dX0_sumOf_169 ?_
  exact (K12 _ _ _ _ _ _ _ _ hs)
theorem t_X0_sumOf_142 (C : Cx p l s m args meth c B0 X RX0 "sumOf" cX0_sumOf 9 (some .int) []) {k12 : Nat → Int32 → Nat → Int32 → Int32 → Int32 → Int32 → aH → aO} (K12 : ∀ (l0 : Nat) (l2 : Int32) (l3 : Nat) (l4 : Int32) (l5 : Int32) (l6 : Int32) (l7 : Int32) (h : aH), k12 l0 l2 l3 l4 l5 l6 l7 h = some (r, h') → Ev p l e { frames := 0, cells := mc, slots := ms, locals := 0 } s m args below meth c D B0 X ws0 r h' mc ms 9 mc ms 12 [some (.ref l0), none, some (.int l2), some (.ref l3), some (.int l4), some (.int l5), some (.int l6), some (.int l7), none] [] h) {l0 : Nat} {l2 : Int32} {l3 : Nat} {l7 : Int32} {l8 : Int32} {s0 : Int32} {h : aH} (hs : s_X0_sumOf_142 k12 l0 l2 l3 l7 l8 s0 h = some (r, h')) : Ev p l e { frames := 0, cells := mc, slots := ms, locals := 0 } s m args below meth c D B0 X ws0 r h' mc ms 9 mc ms 142 [some (.ref l0), none, some (.int l2), some (.ref l3), none, none, none, some (.int l7), some (.int l8)] [.int s0] h := by
  unfold s_X0_sumOf_142 at hs
  refine ev_istore C (by decide) dX0_sumOf_142 ?_
  refine ev_iload C rfl dX0_sumOf_144 ?_
  refine ev_istore C (by decide) dX0_sumOf_146 ?_
  refine ev_aload_n C (x := .ref l0) rfl trivial dX0_sumOf_148 ?_
  obtain ⟨x149, e149, hs⟩ := aB hs
  refine ev_get C (ci := 0) (k := 1) rfl wu_0 (by decide) wf_X0_11 (gO_F e149) dX0_sumOf_149 ?_
  refine ev_iload C rfl dX0_sumOf_152 ?_
  obtain ⟨x154, e154, hs⟩ := aB hs
  refine ev_iald C e154 dX0_sumOf_154 ?_
  refine ev_iconst C (v := 1) dX0_sumOf_155 (by decide) ?_
  refine ev_icmp_ne C (tgt := 163) (by decide) dX0_sumOf_156 (fun q156 => ?_) (fun q156 => ?_)
  · replace hs := (if_neg q156).symm.trans hs
    refine ev_iconst C (v := 0) dX0_sumOf_163 (by decide) ?_
    exact Ev.keep [true, true, true, true, true, true, true, true, false] (t_X0_sumOf_164 C K12 hs)
  · replace hs := (if_pos q156).symm.trans hs
    refine ev_iconst C (v := 1) dX0_sumOf_159 (by decide) ?_
    refine ev_goto C (tgt := 164) (by decide) dX0_sumOf_160 ?_
    exact Ev.keep [true, true, true, true, true, true, true, true, false] (t_X0_sumOf_164 C K12 hs)
theorem t_X0_sumOf_113 (C : Cx p l s m args meth c B0 X RX0 "sumOf" cX0_sumOf 9 (some .int) []) {k12 : Nat → Int32 → Nat → Int32 → Int32 → Int32 → Int32 → aH → aO} (K12 : ∀ (l0 : Nat) (l2 : Int32) (l3 : Nat) (l4 : Int32) (l5 : Int32) (l6 : Int32) (l7 : Int32) (h : aH), k12 l0 l2 l3 l4 l5 l6 l7 h = some (r, h') → Ev p l e { frames := 0, cells := mc, slots := ms, locals := 0 } s m args below meth c D B0 X ws0 r h' mc ms 9 mc ms 12 [some (.ref l0), none, some (.int l2), some (.ref l3), some (.int l4), some (.int l5), some (.int l6), some (.int l7), none] [] h) {l0 : Nat} {l2 : Int32} {l3 : Nat} {l7 : Int32} {l8 : Int32} {s0 : Int32} {s1 : Int32} {h : aH} (hs : s_X0_sumOf_113 k12 l0 l2 l3 l7 l8 s0 s1 h = some (r, h')) : Ev p l e { frames := 0, cells := mc, slots := ms, locals := 0 } s m args below meth c D B0 X ws0 r h' mc ms 9 mc ms 113 [some (.ref l0), none, some (.int l2), some (.ref l3), none, none, none, some (.int l7), some (.int l8)] [.int s0, .int s1] h := by
  unfold s_X0_sumOf_113 at hs
  refine ev_iadd C dX0_sumOf_113 ?_
  refine ev_istore C (by decide) dX0_sumOf_114 ?_
  refine ev_iload C rfl dX0_sumOf_116 ?_
  refine ev_ldc C wv_X0_46 dX0_sumOf_118 ?_
  refine ev_icmp_le C (tgt := 128) (by decide) dX0_sumOf_120 (fun q120 => ?_) (fun q120 => ?_)
  · replace hs := (if_pos q120).symm.trans hs
    refine ev_iload C rfl dX0_sumOf_128 ?_
    refine ev_ldc C wv_X0_47 dX0_sumOf_130 ?_
    refine ev_icmp_ge C (tgt := 140) (by decide) dX0_sumOf_132 (fun q132 => ?_) (fun q132 => ?_)
    · replace hs := (if_pos q132).symm.trans hs
      refine ev_iload C rfl dX0_sumOf_140 ?_
      exact Ev.keep [true, true, true, true, false, true, true, true, true] (t_X0_sumOf_142 C K12 hs)
    · replace hs := (if_neg q132).symm.trans hs
      refine ev_ldc C wv_X0_47 dX0_sumOf_135 ?_
      refine ev_goto C (tgt := 142) (by decide) dX0_sumOf_137 ?_
      exact Ev.keep [true, true, true, true, false, true, true, true, true] (t_X0_sumOf_142 C K12 hs)
  · replace hs := (if_neg q120).symm.trans hs
    refine ev_ldc C wv_X0_46 dX0_sumOf_123 ?_
    refine ev_goto C (tgt := 142) (by decide) dX0_sumOf_125 ?_
    exact Ev.keep [true, true, true, true, false, true, true, true, true] (t_X0_sumOf_142 C K12 hs)
theorem t_X0_sumOf_93 (C : Cx p l s m args meth c B0 X RX0 "sumOf" cX0_sumOf 9 (some .int) []) {k12 : Nat → Int32 → Nat → Int32 → Int32 → Int32 → Int32 → aH → aO} (K12 : ∀ (l0 : Nat) (l2 : Int32) (l3 : Nat) (l4 : Int32) (l5 : Int32) (l6 : Int32) (l7 : Int32) (h : aH), k12 l0 l2 l3 l4 l5 l6 l7 h = some (r, h') → Ev p l e { frames := 0, cells := mc, slots := ms, locals := 0 } s m args below meth c D B0 X ws0 r h' mc ms 9 mc ms 12 [some (.ref l0), none, some (.int l2), some (.ref l3), some (.int l4), some (.int l5), some (.int l6), some (.int l7), none] [] h) {l0 : Nat} {l2 : Int32} {l3 : Nat} {l4 : Int32} {l6 : Int32} {l7 : Int32} {s0 : Int32} {h : aH} (hs : s_X0_sumOf_93 k12 l0 l2 l3 l4 l6 l7 s0 h = some (r, h')) : Ev p l e { frames := 0, cells := mc, slots := ms, locals := 0 } s m args below meth c D B0 X ws0 r h' mc ms 9 mc ms 93 [some (.ref l0), none, some (.int l2), some (.ref l3), some (.int l4), none, some (.int l6), some (.int l7), none] [.int s0] h := by
  unfold s_X0_sumOf_93 at hs
  refine ev_istore C (by decide) dX0_sumOf_93 ?_
  refine ev_goto C (tgt := 166) (by decide) dX0_sumOf_95 ?_
  refine ev_iinc C (i := 7) (n := 1) (x := l7) (v := l7 + 1) rfl (congrArg (fun z => l7 + z) (show Int32.ofInt 1 = 1 by decide)) (by decide) dX0_sumOf_166 ?_
  refine ev_goto C (tgt := 12) (by decide) dX0_sumOf_169 ?_
  exact (K12 _ _ _ _ _ _ _ _ hs)
theorem t_X0_sumOf_47 (C : Cx p l s m args meth c B0 X RX0 "sumOf" cX0_sumOf 9 (some .int) []) {k12 : Nat → Int32 → Nat → Int32 → Int32 → Int32 → Int32 → aH → aO} (K12 : ∀ (l0 : Nat) (l2 : Int32) (l3 : Nat) (l4 : Int32) (l5 : Int32) (l6 : Int32) (l7 : Int32) (h : aH), k12 l0 l2 l3 l4 l5 l6 l7 h = some (r, h') → Ev p l e { frames := 0, cells := mc, slots := ms, locals := 0 } s m args below meth c D B0 X ws0 r h' mc ms 9 mc ms 12 [some (.ref l0), none, some (.int l2), some (.ref l3), some (.int l4), some (.int l5), some (.int l6), some (.int l7), none] [] h) {l0 : Nat} {l2 : Int32} {l3 : Nat} {l4 : Int32} {l5 : Int32} {l6 : Int32} {l7 : Int32} {s0 : Int32} {h : aH} (hs : s_X0_sumOf_47 k12 l0 l2 l3 l4 l5 l6 l7 s0 h = some (r, h')) : Ev p l e { frames := 0, cells := mc, slots := ms, locals := 0 } s m args below meth c D B0 X ws0 r h' mc ms 9 mc ms 47 [some (.ref l0), none, some (.int l2), some (.ref l3), some (.int l4), some (.int l5), some (.int l6), some (.int l7), none] [.int s0] h := by
  unfold s_X0_sumOf_47 at hs
  refine ev_istore C (by decide) dX0_sumOf_47 ?_
  refine ev_aload_n C (x := .ref l0) rfl trivial dX0_sumOf_49 ?_
  obtain ⟨x50, e50, hs⟩ := aB hs
  refine ev_get C (ci := 0) (k := 1) rfl wu_0 (by decide) wf_X0_11 (gO_F e50) dX0_sumOf_50 ?_
  refine ev_iload C rfl dX0_sumOf_53 ?_
  obtain ⟨x55, e55, hs⟩ := aB hs
  refine ev_iald C e55 dX0_sumOf_55 ?_
  refine ev_iconst C (v := 2) dX0_sumOf_56 (by decide) ?_
  refine ev_icmp_ne C (tgt := 98) (by decide) dX0_sumOf_57 (fun q57 => ?_) (fun q57 => ?_)
  · replace hs := (if_neg q57).symm.trans hs
    refine ev_iload C rfl dX0_sumOf_98 ?_
    refine ev_iload C rfl dX0_sumOf_100 ?_
    refine ev_if_eq C (tgt := 111) (by decide) dX0_sumOf_102 (fun q102 => ?_) (fun q102 => ?_)
    · replace hs := (if_pos q102).symm.trans hs
      refine ev_iload C rfl dX0_sumOf_111 ?_
      exact Ev.keep [true, true, true, true, false, false, false, true, true] (t_X0_sumOf_113 C K12 hs)
    · replace hs := (if_neg q102).symm.trans hs
      refine ev_iload C rfl dX0_sumOf_105 ?_
      refine ev_ineg C dX0_sumOf_107 ?_
      refine ev_goto C (tgt := 113) (by decide) dX0_sumOf_108 ?_
      exact Ev.keep [true, true, true, true, false, false, false, true, true] (t_X0_sumOf_113 C K12 hs)
  · replace hs := (if_pos q57).symm.trans hs
    refine ev_iload C rfl dX0_sumOf_60 ?_
    refine ev_iload C rfl dX0_sumOf_62 ?_
    refine ev_imul C dX0_sumOf_64 ?_
    refine ev_istore C (by decide) dX0_sumOf_65 ?_
    refine ev_iload C rfl dX0_sumOf_67 ?_
    refine ev_ldc C wv_X0_46 dX0_sumOf_69 ?_
    refine ev_icmp_le C (tgt := 79) (by decide) dX0_sumOf_71 (fun q71 => ?_) (fun q71 => ?_)
    · replace hs := (if_pos q71).symm.trans hs
      refine ev_iload C rfl dX0_sumOf_79 ?_
      refine ev_ldc C wv_X0_47 dX0_sumOf_81 ?_
      refine ev_icmp_ge C (tgt := 91) (by decide) dX0_sumOf_83 (fun q83 => ?_) (fun q83 => ?_)
      · replace hs := (if_pos q83).symm.trans hs
        refine ev_iload C rfl dX0_sumOf_91 ?_
        exact Ev.keep [true, true, true, true, true, false, true, true, false] (t_X0_sumOf_93 C K12 hs)
      · replace hs := (if_neg q83).symm.trans hs
        refine ev_ldc C wv_X0_47 dX0_sumOf_86 ?_
        refine ev_goto C (tgt := 93) (by decide) dX0_sumOf_88 ?_
        exact Ev.keep [true, true, true, true, true, false, true, true, false] (t_X0_sumOf_93 C K12 hs)
    · replace hs := (if_neg q71).symm.trans hs
      refine ev_ldc C wv_X0_46 dX0_sumOf_74 ?_
      refine ev_goto C (tgt := 93) (by decide) dX0_sumOf_76 ?_
      exact Ev.keep [true, true, true, true, true, false, true, true, false] (t_X0_sumOf_93 C K12 hs)
theorem t_X0_sumOf_12_b (C : Cx p l s m args meth c B0 X RX0 "sumOf" cX0_sumOf 9 (some .int) [])   {k12 : Nat → Int32 → Nat → Int32 → Int32 → Int32 → Int32 → aH → aO} (K12 : ∀ (l0 : Nat) (l2 : Int32) (l3 : Nat) (l4 : Int32) (l5 : Int32) (l6 : Int32) (l7 : Int32) (h : aH), k12 l0 l2 l3 l4 l5 l6 l7 h = some (r, h') → Ev p l e { frames := 0, cells := mc, slots := ms, locals := 0 } s m args below meth c D B0 X ws0 r h' mc ms 9 mc ms 12 [some (.ref l0), none, some (.int l2), some (.ref l3), some (.int l4), some (.int l5), some (.int l6), some (.int l7), none] [] h) {l0 : Nat} {l2 : Int32} {l3 : Nat} {l4 : Int32} {l5 : Int32} {l6 : Int32} {l7 : Int32} {h : aH} (hs : s_X0_sumOf_12_b  k12 l0 l2 l3 l4 l5 l6 l7 h = some (r, h')) : Ev p l e { frames := 0, cells := mc, slots := ms, locals := 0 } s m args below meth c D B0 X ws0 r h' mc ms 9 mc ms 12 [some (.ref l0), none, some (.int l2), some (.ref l3), some (.int l4), some (.int l5), some (.int l6), some (.int l7), none] [] h := by
  unfold s_X0_sumOf_12_b at hs
  refine ev_iload C rfl dX0_sumOf_12 ?_
  refine ev_iload_n C rfl dX0_sumOf_14 ?_
  refine ev_icmp_ge C (tgt := 172) (by decide) dX0_sumOf_15 (fun q15 => ?_) (fun q15 => ?_)
  · replace hs := (if_pos q15).symm.trans hs
    refine ev_iload C rfl dX0_sumOf_172 ?_
    refine ev_iload C rfl dX0_sumOf_174 ?_
    refine ev_if_eq C (tgt := 185) (by decide) dX0_sumOf_176 (fun q176 => ?_) (fun q176 => ?_)
    · replace hs := (if_pos q176).symm.trans hs
      refine ev_iload C rfl dX0_sumOf_185 ?_
      exact Ev.keep [false, true, false, false, false, false, false, false, true] (t_X0_sumOf_187 C  hs)
    · replace hs := (if_neg q176).symm.trans hs
      refine ev_iload C rfl dX0_sumOf_179 ?_
      refine ev_ineg C dX0_sumOf_181 ?_
      refine ev_goto C (tgt := 187) (by decide) dX0_sumOf_182 ?_
      exact Ev.keep [false, true, false, false, false, false, false, false, true] (t_X0_sumOf_187 C  hs)
  · replace hs := (if_neg q15).symm.trans hs
    refine ev_aload_n C (x := .ref l0) rfl trivial dX0_sumOf_18 ?_
    obtain ⟨x19, e19, hs⟩ := aB hs
    refine ev_get C (ci := 0) (k := 2) rfl wu_0 (by decide) wf_X0_15 (gO_F e19) dX0_sumOf_19 ?_
    refine ev_iload C rfl dX0_sumOf_22 ?_
    obtain ⟨x24, e24, hs⟩ := aB hs
    refine ev_iald C e24 dX0_sumOf_24 ?_
    refine ev_if_ge C (tgt := 38) (by decide) dX0_sumOf_25 (fun q25 => ?_) (fun q25 => ?_)
    · replace hs := (if_pos q25).symm.trans hs
      refine ev_aload_n C (x := .ref l3) rfl trivial dX0_sumOf_38 ?_
      refine ev_aload_n C (x := .ref l0) rfl trivial dX0_sumOf_39 ?_
      obtain ⟨x40, e40, hs⟩ := aB hs
      refine ev_get C (ci := 0) (k := 2) rfl wu_0 (by decide) wf_X0_15 (gO_F e40) dX0_sumOf_40 ?_
      refine ev_iload C rfl dX0_sumOf_43 ?_
      obtain ⟨x45, e45, hs⟩ := aB hs
      refine ev_iald C e45 dX0_sumOf_45 ?_
      obtain ⟨x46, e46, hs⟩ := aB hs
      refine ev_iald C e46 dX0_sumOf_46 ?_
      exact (t_X0_sumOf_47 C K12 hs)
    · replace hs := (if_neg q25).symm.trans hs
      refine ev_aload_n C (x := .ref l0) rfl trivial dX0_sumOf_28 ?_
      obtain ⟨x29, e29, hs⟩ := aB hs
      refine ev_get C (ci := 0) (k := 3) rfl wu_0 (by decide) wf_X0_18 (gO_F e29) dX0_sumOf_29 ?_
      refine ev_iload C rfl dX0_sumOf_32 ?_
      obtain ⟨x34, e34, hs⟩ := aB hs
      refine ev_iald C e34 dX0_sumOf_34 ?_
      refine ev_goto C (tgt := 47) (by decide) dX0_sumOf_35 ?_
      exact (t_X0_sumOf_47 C K12 hs)
theorem t_X0_sumOf_12 (C : Cx p l s m args meth c B0 X RX0 "sumOf" cX0_sumOf 9 (some .int) [])   : ∀ (n : Nat) {l0 : Nat} {l2 : Int32} {l3 : Nat} {l4 : Int32} {l5 : Int32} {l6 : Int32} {l7 : Int32} {h : aH} (hs : s_X0_sumOf_12  n l0 l2 l3 l4 l5 l6 l7 h = some (r, h')), Ev p l e { frames := 0, cells := mc, slots := ms, locals := 0 } s m args below meth c D B0 X ws0 r h' mc ms 9 mc ms 12 [some (.ref l0), none, some (.int l2), some (.ref l3), some (.int l4), some (.int l5), some (.int l6), some (.int l7), none] [] h
  | 0, _, _, _, _, _, _, _, _, hs => nomatch hs
  | n + 1, _, _, _, _, _, _, _, _, hs => t_X0_sumOf_12_b C  (k12 := s_X0_sumOf_12  n) (fun _ _ _ _ _ _ _ _ hs => t_X0_sumOf_12 C  n hs) hs
theorem hy_X0_sumOf : yX0_sumOf.cls ≠ "java/lang/invoke/MethodHandle" ∧ yX0_sumOf.cls ≠ "java/lang/invoke/VarHandle" ∧ (parseMethodDescriptor yX0_sumOf.desc).map (fun d => d.parameters.length) = some 3 := by decide +kernel
theorem T_X0_sumOf (o : Nat) (a1 : Int32) (a2 : Int32) (a3 : Nat) (h : aH) (r : aR) (h' : aH) (hs : s_X0_sumOf o a1 a2 a3 h = some (r, h')) : Mt yX0_sumOf (Cond.code yX0_sumOf cX0_sumOf 9 (some .int) :: aTB) 0 0 0 0 [.ref o, .int a1, .int a2, .ref a3] h r h' := by
  unfold s_X0_sumOf at hs
  refine Mt_of (k := 5) (by decide) rfl (fun p l e s m args below meth c D B0 X ws0 C => ?_)
  show Ev p l e { frames := 0, cells := 0, slots := 0, locals := 0 } s m args below meth c D B0 X ws0 r h' 0 0 9 0 0 0 [some (.ref o), some (.int a1), some (.int a2), some (.ref a3), none, none, none, none, none] [] h
  refine ev_iconst C (v := 0) dX0_sumOf_0 (by decide) ?_
  refine ev_istore C (by decide) dX0_sumOf_1 ?_
  refine ev_iconst C (v := 0) dX0_sumOf_3 (by decide) ?_
  refine ev_istore C (by decide) dX0_sumOf_4 ?_
  refine ev_iconst C (v := 0) dX0_sumOf_6 (by decide) ?_
  refine ev_istore C (by decide) dX0_sumOf_7 ?_
  refine ev_iload_n C rfl dX0_sumOf_9 ?_
  refine ev_istore C (by decide) dX0_sumOf_10 ?_
  exact Ev.keep [true, false, true, true, true, true, true, true, true] (t_X0_sumOf_12 C  FU hs)
end
-- X0_allHold
theorem dX0_allHold_0 : decode cX0_allHold 0 = .ok (.iload_n 1, 1) := by decide +kernel
theorem dX0_allHold_1 : decode cX0_allHold 1 = .ok (.istore 4, 2) := by decide +kernel
theorem dX0_allHold_3 : decode cX0_allHold 3 = .ok (.iload 4, 2) := by decide +kernel
theorem dX0_allHold_5 : decode cX0_allHold 5 = .ok (.iload_n 2, 1) := by decide +kernel
theorem dX0_allHold_6 : decode cX0_allHold 6 = .ok (.if_icmp .ge 126, 3) := by decide +kernel
theorem dX0_allHold_9 : decode cX0_allHold 9 = .ok (.aload_n 0, 1) := by decide +kernel
theorem dX0_allHold_10 : decode cX0_allHold 10 = .ok (.aload_n 0, 1) := by decide +kernel
theorem dX0_allHold_11 : decode cX0_allHold 11 = .ok (.getfield 21, 3) := by decide +kernel
theorem dX0_allHold_14 : decode cX0_allHold 14 = .ok (.iload 4, 2) := by decide +kernel
theorem dX0_allHold_16 : decode cX0_allHold 16 = .ok (.iaload, 1) := by decide +kernel
theorem dX0_allHold_17 : decode cX0_allHold 17 = .ok (.aload_n 0, 1) := by decide +kernel
theorem dX0_allHold_18 : decode cX0_allHold 18 = .ok (.getfield 24, 3) := by decide +kernel
theorem dX0_allHold_21 : decode cX0_allHold 21 = .ok (.iload 4, 2) := by decide +kernel
theorem dX0_allHold_23 : decode cX0_allHold 23 = .ok (.iaload, 1) := by decide +kernel
theorem dX0_allHold_24 : decode cX0_allHold 24 = .ok (.aload_n 3, 1) := by decide +kernel
theorem dX0_allHold_25 : decode cX0_allHold 25 = .ok (.invokevirtual 48, 3) := by decide +kernel
theorem dX0_allHold_28 : decode cX0_allHold 28 = .ok (.istore 5, 2) := by decide +kernel
theorem dX0_allHold_30 : decode cX0_allHold 30 = .ok (.aload_n 0, 1) := by decide +kernel
theorem dX0_allHold_31 : decode cX0_allHold 31 = .ok (.aload_n 0, 1) := by decide +kernel
theorem dX0_allHold_32 : decode cX0_allHold 32 = .ok (.getfield 24, 3) := by decide +kernel
theorem dX0_allHold_35 : decode cX0_allHold 35 = .ok (.iload 4, 2) := by decide +kernel
theorem dX0_allHold_37 : decode cX0_allHold 37 = .ok (.iaload, 1) := by decide +kernel
theorem dX0_allHold_38 : decode cX0_allHold 38 = .ok (.aload_n 0, 1) := by decide +kernel
theorem dX0_allHold_39 : decode cX0_allHold 39 = .ok (.getfield 27, 3) := by decide +kernel
theorem dX0_allHold_42 : decode cX0_allHold 42 = .ok (.iload 4, 2) := by decide +kernel
theorem dX0_allHold_44 : decode cX0_allHold 44 = .ok (.iaload, 1) := by decide +kernel
theorem dX0_allHold_45 : decode cX0_allHold 45 = .ok (.aload_n 3, 1) := by decide +kernel
theorem dX0_allHold_46 : decode cX0_allHold 46 = .ok (.invokevirtual 48, 3) := by decide +kernel
theorem dX0_allHold_49 : decode cX0_allHold 49 = .ok (.istore 6, 2) := by decide +kernel
theorem dX0_allHold_51 : decode cX0_allHold 51 = .ok (.aload_n 0, 1) := by decide +kernel
theorem dX0_allHold_52 : decode cX0_allHold 52 = .ok (.getfield 30, 3) := by decide +kernel
theorem dX0_allHold_55 : decode cX0_allHold 55 = .ok (.iload 4, 2) := by decide +kernel
theorem dX0_allHold_57 : decode cX0_allHold 57 = .ok (.iaload, 1) := by decide +kernel
theorem dX0_allHold_58 : decode cX0_allHold 58 = .ok (.bipush 60, 2) := by decide +kernel
theorem dX0_allHold_60 : decode cX0_allHold 60 = .ok (.if_icmp .ne 18, 3) := by decide +kernel
theorem dX0_allHold_63 : decode cX0_allHold 63 = .ok (.iload 5, 2) := by decide +kernel
theorem dX0_allHold_65 : decode cX0_allHold 65 = .ok (.iload 6, 2) := by decide +kernel
theorem dX0_allHold_67 : decode cX0_allHold 67 = .ok (.if_icmp .ge 7, 3) := by decide +kernel
theorem dX0_allHold_70 : decode cX0_allHold 70 = .ok (.iconst 1, 1) := by decide +kernel
theorem dX0_allHold_71 : decode cX0_allHold 71 = .ok (.goto 46, 3) := by decide +kernel
theorem dX0_allHold_74 : decode cX0_allHold 74 = .ok (.iconst 0, 1) := by decide +kernel
theorem dX0_allHold_75 : decode cX0_allHold 75 = .ok (.goto 42, 3) := by decide +kernel
theorem dX0_allHold_78 : decode cX0_allHold 78 = .ok (.aload_n 0, 1) := by decide +kernel
theorem dX0_allHold_79 : decode cX0_allHold 79 = .ok (.getfield 30, 3) := by decide +kernel
theorem dX0_allHold_82 : decode cX0_allHold 82 = .ok (.iload 4, 2) := by decide +kernel
theorem dX0_allHold_84 : decode cX0_allHold 84 = .ok (.iaload, 1) := by decide +kernel
theorem dX0_allHold_85 : decode cX0_allHold 85 = .ok (.bipush 62, 2) := by decide +kernel
theorem dX0_allHold_87 : decode cX0_allHold 87 = .ok (.if_icmp .ne 18, 3) := by decide +kernel
theorem dX0_allHold_90 : decode cX0_allHold 90 = .ok (.iload 5, 2) := by decide +kernel
theorem dX0_allHold_92 : decode cX0_allHold 92 = .ok (.iload 6, 2) := by decide +kernel
theorem dX0_allHold_94 : decode cX0_allHold 94 = .ok (.if_icmp .le 7, 3) := by decide +kernel
theorem dX0_allHold_97 : decode cX0_allHold 97 = .ok (.iconst 1, 1) := by decide +kernel
theorem dX0_allHold_98 : decode cX0_allHold 98 = .ok (.goto 19, 3) := by decide +kernel
theorem dX0_allHold_101 : decode cX0_allHold 101 = .ok (.iconst 0, 1) := by decide +kernel
theorem dX0_allHold_102 : decode cX0_allHold 102 = .ok (.goto 15, 3) := by decide +kernel
theorem dX0_allHold_105 : decode cX0_allHold 105 = .ok (.iload 5, 2) := by decide +kernel
theorem dX0_allHold_107 : decode cX0_allHold 107 = .ok (.iload 6, 2) := by decide +kernel
theorem dX0_allHold_109 : decode cX0_allHold 109 = .ok (.if_icmp .ne 7, 3) := by decide +kernel
theorem dX0_allHold_112 : decode cX0_allHold 112 = .ok (.iconst 1, 1) := by decide +kernel
theorem dX0_allHold_113 : decode cX0_allHold 113 = .ok (.goto 4, 3) := by decide +kernel
theorem dX0_allHold_116 : decode cX0_allHold 116 = .ok (.iconst 0, 1) := by decide +kernel
theorem dX0_allHold_117 : decode cX0_allHold 117 = .ok (.istore 7, 2) := by decide +kernel
theorem dX0_allHold_119 : decode cX0_allHold 119 = .ok (.iload 7, 2) := by decide +kernel
theorem dX0_allHold_121 : decode cX0_allHold 121 = .ok (.ifCond .ne 5, 3) := by decide +kernel
theorem dX0_allHold_124 : decode cX0_allHold 124 = .ok (.iconst 0, 1) := by decide +kernel
theorem dX0_allHold_125 : decode cX0_allHold 125 = .ok (.ireturn, 1) := by decide +kernel
theorem dX0_allHold_126 : decode cX0_allHold 126 = .ok (.iinc 4 1, 3) := by decide +kernel
theorem dX0_allHold_129 : decode cX0_allHold 129 = .ok (.goto (-126), 3) := by decide +kernel
theorem dX0_allHold_132 : decode cX0_allHold 132 = .ok (.iconst 1, 1) := by decide +kernel
theorem dX0_allHold_133 : decode cX0_allHold 133 = .ok (.ireturn, 1) := by decide +kernel
def s_X0_allHold_117 (k3 : Nat → Int32 → Nat → Int32 → aH → aO) (l0 : Nat) (l2 : Int32) (l3 : Nat) (l4 : Int32) (s0 : Int32) (h : aH) : aO :=
  if s0 = 0 then (rtZ 0 h) else (k3 l0 l2 l3 (l4 + 1) h)
def s_X0_allHold_3_b  (k3 : Nat → Int32 → Nat → Int32 → aH → aO) (l0 : Nat) (l2 : Int32) (l3 : Nat) (l4 : Int32) (h : aH) : aO :=
  if l2 ≤ l4 then (rtZ 1 h) else ((gO h (.ref l0) 0 5).bind fun x11 => (ldI .int h (.ref x11) l4).bind fun x16 => (gO h (.ref l0) 0 6).bind fun x18 => (ldI .int h (.ref x18) l4).bind fun x23 => kO h l0 0 (cI (s_X0_sumOf l0 x16 x23 l3 h) fun x25 h25 => (gO h25 (.ref l0) 0 6).bind fun x32 => (ldI .int h25 (.ref x32) l4).bind fun x37 => (gO h25 (.ref l0) 0 7).bind fun x39 => (ldI .int h25 (.ref x39) l4).bind fun x44 => kO h25 l0 0 (cI (s_X0_sumOf l0 x37 x44 l3 h25) fun x46 h46 => (gO h46 (.ref l0) 0 8).bind fun x52 => (ldI .int h46 (.ref x52) l4).bind fun x57 => if x57 = 60 then (if x46 ≤ x25 then (s_X0_allHold_117 k3 l0 l2 l3 l4 0 h46) else (s_X0_allHold_117 k3 l0 l2 l3 l4 1 h46)) else ((gO h46 (.ref l0) 0 8).bind fun x79 => (ldI .int h46 (.ref x79) l4).bind fun x84 => if x84 = 62 then (if x25 ≤ x46 then (s_X0_allHold_117 k3 l0 l2 l3 l4 0 h46) else (s_X0_allHold_117 k3 l0 l2 l3 l4 1 h46)) else (if x25 = x46 then (s_X0_allHold_117 k3 l0 l2 l3 l4 1 h46) else (s_X0_allHold_117 k3 l0 l2 l3 l4 0 h46))))))
def s_X0_allHold_3  (n : Nat) : Nat → Int32 → Nat → Int32 → aH → aO := lpF (fun _ _ _ _ _ => none) (s_X0_allHold_3_b ) n
def s_X0_allHold (o : Nat) (a1 : Int32) (a2 : Int32) (a3 : Nat) (h : aH) : aO :=
  s_X0_allHold_3 FU o a2 a3 a1 h
section
variable {p : Program} {l : Launch} {e : Env} {s : State} {m : MethodId} {args : Array Value} {below : List Frame} {meth : Method} {c : Code} {D : va_G} {B0 : Nat} {X : Nat → Nat} {ws0 : va_W} {r : aR} {h' : aH} {mc ms : Nat}
theorem t_X0_allHold_117 (C : Cx p l s m args meth c B0 X RX0 "allHold" cX0_allHold 8 (some .boolean) []) {k3 : Nat → Int32 → Nat → Int32 → aH → aO} (K3 : ∀ (l0 : Nat) (l2 : Int32) (l3 : Nat) (l4 : Int32) (h : aH), k3 l0 l2 l3 l4 h = some (r, h') → Ev p l e { frames := 1, cells := mc, slots := ms, locals := 28 } s m args below meth c D B0 X ws0 r h' mc ms 8 mc ms 3 [some (.ref l0), none, some (.int l2), some (.ref l3), some (.int l4), none, none, none] [] h) {l0 : Nat} {l2 : Int32} {l3 : Nat} {l4 : Int32} {s0 : Int32} {h : aH} (hs : s_X0_allHold_117 k3 l0 l2 l3 l4 s0 h = some (r, h')) : Ev p l e { frames := 1, cells := mc, slots := ms, locals := 28 } s m args below meth c D B0 X ws0 r h' mc ms 8 mc ms 117 [some (.ref l0), none, some (.int l2), some (.ref l3), some (.int l4), none, none, none] [.int s0] h := by
  unfold s_X0_allHold_117 at hs
  refine ev_istore C (by decide) dX0_allHold_117 ?_
  refine ev_iload C rfl dX0_allHold_119 ?_
  refine ev_if_ne C (tgt := 126) (by decide) dX0_allHold_121 (fun q121 => ?_) (fun q121 => ?_)
  · replace hs := (if_neg q121).symm.trans hs
    refine ev_iinc C (i := 4) (n := 1) (x := l4) (v := l4 + 1) rfl (congrArg (fun z => l4 + z) (show Int32.ofInt 1 = 1 by decide)) (by decide) dX0_allHold_126 ?_
    refine ev_goto C (tgt := 3) (by decide) dX0_allHold_129 ?_
    exact Ev.keep [true, true, true, true, true, true, true, false] (K3 _ _ _ _ _ hs)
  · replace hs := (if_pos q121).symm.trans hs
    refine ev_iconst C (v := 0) dX0_allHold_124 (by decide) ?_
    obtain ⟨hz, rfl, rfl⟩ := rtZ_at hs
    exact ev_zret C rfl hz rfl (Nat.le_refl _) (Nat.le_refl _) rfl dX0_allHold_125
theorem t_X0_allHold_3_b (C : Cx p l s m args meth c B0 X RX0 "allHold" cX0_allHold 8 (some .boolean) [])   {k3 : Nat → Int32 → Nat → Int32 → aH → aO} (K3 : ∀ (l0 : Nat) (l2 : Int32) (l3 : Nat) (l4 : Int32) (h : aH), k3 l0 l2 l3 l4 h = some (r, h') → Ev p l e { frames := 1, cells := mc, slots := ms, locals := 28 } s m args below meth c D B0 X ws0 r h' mc ms 8 mc ms 3 [some (.ref l0), none, some (.int l2), some (.ref l3), some (.int l4), none, none, none] [] h) {l0 : Nat} {l2 : Int32} {l3 : Nat} {l4 : Int32} {h : aH} (hs : s_X0_allHold_3_b  k3 l0 l2 l3 l4 h = some (r, h')) : Ev p l e { frames := 1, cells := mc, slots := ms, locals := 28 } s m args below meth c D B0 X ws0 r h' mc ms 8 mc ms 3 [some (.ref l0), none, some (.int l2), some (.ref l3), some (.int l4), none, none, none] [] h := by
  unfold s_X0_allHold_3_b at hs
  refine ev_iload C rfl dX0_allHold_3 ?_
  refine ev_iload_n C rfl dX0_allHold_5 ?_
  refine ev_icmp_ge C (tgt := 132) (by decide) dX0_allHold_6 (fun q6 => ?_) (fun q6 => ?_)
  · replace hs := (if_pos q6).symm.trans hs
    refine ev_iconst C (v := 1) dX0_allHold_132 (by decide) ?_
    obtain ⟨hz, rfl, rfl⟩ := rtZ_at hs
    exact ev_zret C rfl hz rfl (Nat.le_refl _) (Nat.le_refl _) rfl dX0_allHold_133
  · replace hs := (if_neg q6).symm.trans hs
    refine ev_aload_n C (x := .ref l0) rfl trivial dX0_allHold_9 ?_
    refine ev_aload_n C (x := .ref l0) rfl trivial dX0_allHold_10 ?_
    obtain ⟨x11, e11, hs⟩ := aB hs
    refine ev_get C (ci := 0) (k := 5) rfl wu_0 (by decide) wf_X0_21 (gO_F e11) dX0_allHold_11 ?_
    refine ev_iload C rfl dX0_allHold_14 ?_
    obtain ⟨x16, e16, hs⟩ := aB hs
    refine ev_iald C e16 dX0_allHold_16 ?_
    refine ev_aload_n C (x := .ref l0) rfl trivial dX0_allHold_17 ?_
    obtain ⟨x18, e18, hs⟩ := aB hs
    refine ev_get C (ci := 0) (k := 6) rfl wu_0 (by decide) wf_X0_24 (gO_F e18) dX0_allHold_18 ?_
    refine ev_iload C rfl dX0_allHold_21 ?_
    obtain ⟨x23, e23, hs⟩ := aB hs
    refine ev_iald C e23 dX0_allHold_23 ?_
    refine ev_aload_n C (x := .ref l3) rfl trivial dX0_allHold_24 ?_
    obtain ⟨eo25, hs⟩ := kO_at hs
    obtain ⟨x25, h25, e25, hs⟩ := cI_at hs
    refine ev_callV C (T_X0_sumOf _ _ _ _ _ _ _ e25) (ci := 0) rfl eo25 wc_X0_sumOf wm_X0_48 wi_X0_sumOf ws_X0_sumOf wz_X0 hy_X0_sumOf ⟨(Nat.le_of_ble_eq_true rfl), (Nat.le_of_ble_eq_true rfl)⟩ ⟨(Nat.le_refl _), (Nat.le_refl _)⟩ (Nat.le_of_ble_eq_true rfl) rfl dX0_allHold_25 ?_
    refine ev_istore C (by decide) dX0_allHold_28 ?_
    refine ev_aload_n C (x := .ref l0) rfl trivial dX0_allHold_30 ?_
    refine ev_aload_n C (x := .ref l0) rfl trivial dX0_allHold_31 ?_
    obtain ⟨x32, e32, hs⟩ := aB hs
    refine ev_get C (ci := 0) (k := 6) rfl wu_0 (by decide) wf_X0_24 (gO_F e32) dX0_allHold_32 ?_
    refine ev_iload C rfl dX0_allHold_35 ?_
    obtain ⟨x37, e37, hs⟩ := aB hs
    refine ev_iald C e37 dX0_allHold_37 ?_
    refine ev_aload_n C (x := .ref l0) rfl trivial dX0_allHold_38 ?_
    obtain ⟨x39, e39, hs⟩ := aB hs
    refine ev_get C (ci := 0) (k := 7) rfl wu_0 (by decide) wf_X0_27 (gO_F e39) dX0_allHold_39 ?_
    refine ev_iload C rfl dX0_allHold_42 ?_
    obtain ⟨x44, e44, hs⟩ := aB hs
    refine ev_iald C e44 dX0_allHold_44 ?_
    refine ev_aload_n C (x := .ref l3) rfl trivial dX0_allHold_45 ?_
    obtain ⟨eo46, hs⟩ := kO_at hs
    obtain ⟨x46, h46, e46, hs⟩ := cI_at hs
    refine ev_callV C (T_X0_sumOf _ _ _ _ _ _ _ e46) (ci := 0) rfl eo46 wc_X0_sumOf wm_X0_48 wi_X0_sumOf ws_X0_sumOf wz_X0 hy_X0_sumOf ⟨(Nat.le_of_ble_eq_true rfl), (Nat.le_of_ble_eq_true rfl)⟩ ⟨(Nat.le_refl _), (Nat.le_refl _)⟩ (Nat.le_of_ble_eq_true rfl) rfl dX0_allHold_46 ?_
    refine ev_istore C (by decide) dX0_allHold_49 ?_
    refine ev_aload_n C (x := .ref l0) rfl trivial dX0_allHold_51 ?_
    obtain ⟨x52, e52, hs⟩ := aB hs
    refine ev_get C (ci := 0) (k := 8) rfl wu_0 (by decide) wf_X0_30 (gO_F e52) dX0_allHold_52 ?_
    refine ev_iload C rfl dX0_allHold_55 ?_
    obtain ⟨x57, e57, hs⟩ := aB hs
    refine ev_iald C e57 dX0_allHold_57 ?_
    refine ev_bipush C (v := 60) dX0_allHold_58 (by decide) ?_
    refine ev_icmp_ne C (tgt := 78) (by decide) dX0_allHold_60 (fun q60 => ?_) (fun q60 => ?_)
    · replace hs := (if_neg q60).symm.trans hs
      refine ev_aload_n C (x := .ref l0) rfl trivial dX0_allHold_78 ?_
      obtain ⟨x79, e79, hs⟩ := aB hs
      refine ev_get C (ci := 0) (k := 8) rfl wu_0 (by decide) wf_X0_30 (gO_F e79) dX0_allHold_79 ?_
      refine ev_iload C rfl dX0_allHold_82 ?_
      obtain ⟨x84, e84, hs⟩ := aB hs
      refine ev_iald C e84 dX0_allHold_84 ?_
      refine ev_bipush C (v := 62) dX0_allHold_85 (by decide) ?_
      refine ev_icmp_ne C (tgt := 105) (by decide) dX0_allHold_87 (fun q87 => ?_) (fun q87 => ?_)
      · replace hs := (if_neg q87).symm.trans hs
        refine ev_iload C rfl dX0_allHold_105 ?_
        refine ev_iload C rfl dX0_allHold_107 ?_
        refine ev_icmp_ne C (tgt := 116) (by decide) dX0_allHold_109 (fun q109 => ?_) (fun q109 => ?_)
        · replace hs := (if_neg q109).symm.trans hs
          refine ev_iconst C (v := 0) dX0_allHold_116 (by decide) ?_
          exact Ev.keep [true, true, true, true, true, false, false, true] (t_X0_allHold_117 C K3 hs)
        · replace hs := (if_pos q109).symm.trans hs
          refine ev_iconst C (v := 1) dX0_allHold_112 (by decide) ?_
          refine ev_goto C (tgt := 117) (by decide) dX0_allHold_113 ?_
          exact Ev.keep [true, true, true, true, true, false, false, true] (t_X0_allHold_117 C K3 hs)
      · replace hs := (if_pos q87).symm.trans hs
        refine ev_iload C rfl dX0_allHold_90 ?_
        refine ev_iload C rfl dX0_allHold_92 ?_
        refine ev_icmp_le C (tgt := 101) (by decide) dX0_allHold_94 (fun q94 => ?_) (fun q94 => ?_)
        · replace hs := (if_pos q94).symm.trans hs
          refine ev_iconst C (v := 0) dX0_allHold_101 (by decide) ?_
          refine ev_goto C (tgt := 117) (by decide) dX0_allHold_102 ?_
          exact Ev.keep [true, true, true, true, true, false, false, true] (t_X0_allHold_117 C K3 hs)
        · replace hs := (if_neg q94).symm.trans hs
          refine ev_iconst C (v := 1) dX0_allHold_97 (by decide) ?_
          refine ev_goto C (tgt := 117) (by decide) dX0_allHold_98 ?_
          exact Ev.keep [true, true, true, true, true, false, false, true] (t_X0_allHold_117 C K3 hs)
    · replace hs := (if_pos q60).symm.trans hs
      refine ev_iload C rfl dX0_allHold_63 ?_
      refine ev_iload C rfl dX0_allHold_65 ?_
      refine ev_icmp_ge C (tgt := 74) (by decide) dX0_allHold_67 (fun q67 => ?_) (fun q67 => ?_)
      · replace hs := (if_pos q67).symm.trans hs
        refine ev_iconst C (v := 0) dX0_allHold_74 (by decide) ?_
        refine ev_goto C (tgt := 117) (by decide) dX0_allHold_75 ?_
        exact Ev.keep [true, true, true, true, true, false, false, true] (t_X0_allHold_117 C K3 hs)
      · replace hs := (if_neg q67).symm.trans hs
        refine ev_iconst C (v := 1) dX0_allHold_70 (by decide) ?_
        refine ev_goto C (tgt := 117) (by decide) dX0_allHold_71 ?_
        exact Ev.keep [true, true, true, true, true, false, false, true] (t_X0_allHold_117 C K3 hs)
theorem t_X0_allHold_3 (C : Cx p l s m args meth c B0 X RX0 "allHold" cX0_allHold 8 (some .boolean) [])   : ∀ (n : Nat) {l0 : Nat} {l2 : Int32} {l3 : Nat} {l4 : Int32} {h : aH} (hs : s_X0_allHold_3  n l0 l2 l3 l4 h = some (r, h')), Ev p l e { frames := 1, cells := mc, slots := ms, locals := 28 } s m args below meth c D B0 X ws0 r h' mc ms 8 mc ms 3 [some (.ref l0), none, some (.int l2), some (.ref l3), some (.int l4), none, none, none] [] h
  | 0, _, _, _, _, _, hs => nomatch hs
  | n + 1, _, _, _, _, _, hs => t_X0_allHold_3_b C  (k3 := s_X0_allHold_3  n) (fun _ _ _ _ _ hs => t_X0_allHold_3 C  n hs) hs
theorem hy_X0_allHold : yX0_allHold.cls ≠ "java/lang/invoke/MethodHandle" ∧ yX0_allHold.cls ≠ "java/lang/invoke/VarHandle" ∧ (parseMethodDescriptor yX0_allHold.desc).map (fun d => d.parameters.length) = some 3 := by decide +kernel
theorem T_X0_allHold (o : Nat) (a1 : Int32) (a2 : Int32) (a3 : Nat) (h : aH) (r : aR) (h' : aH) (hs : s_X0_allHold o a1 a2 a3 h = some (r, h')) : Mt yX0_allHold (Cond.code yX0_allHold cX0_allHold 8 (some .boolean) :: aTB) 1 28 0 0 [.ref o, .int a1, .int a2, .ref a3] h r h' := by
  unfold s_X0_allHold at hs
  refine Mt_of (k := 4) (by decide) rfl (fun p l e s m args below meth c D B0 X ws0 C => ?_)
  show Ev p l e { frames := 1, cells := 0, slots := 0, locals := 28 } s m args below meth c D B0 X ws0 r h' 0 0 8 0 0 0 [some (.ref o), some (.int a1), some (.int a2), some (.ref a3), none, none, none, none] [] h
  refine ev_iload_n C rfl dX0_allHold_0 ?_
  refine ev_istore C (by decide) dX0_allHold_1 ?_
  exact Ev.keep [true, false, true, true, true, true, true, true] (t_X0_allHold_3 C  FU hs)
end
-- X1_init
theorem dX1_init_0 : decode cX1_init 0 = .ok (.aload_n 0, 1) := by decide +kernel
theorem dX1_init_1 : decode cX1_init 1 = .ok (.invokespecial 3, 3) := by decide +kernel
theorem dX1_init_4 : decode cX1_init 4 = .ok (.aload_n 0, 1) := by decide +kernel
theorem dX1_init_5 : decode cX1_init 5 = .ok (.bipush 9, 2) := by decide +kernel
theorem dX1_init_7 : decode cX1_init 7 = .ok (.newarray .int, 2) := by decide +kernel
theorem dX1_init_9 : decode cX1_init 9 = .ok (.putfield 9, 3) := by decide +kernel
theorem dX1_init_12 : decode cX1_init 12 = .ok (.aload_n 0, 1) := by decide +kernel
theorem dX1_init_13 : decode cX1_init 13 = .ok (.bipush 6, 2) := by decide +kernel
theorem dX1_init_15 : decode cX1_init 15 = .ok (.newarray .int, 2) := by decide +kernel
theorem dX1_init_17 : decode cX1_init 17 = .ok (.putfield 15, 3) := by decide +kernel
theorem dX1_init_20 : decode cX1_init 20 = .ok (.aload_n 0, 1) := by decide +kernel
theorem dX1_init_21 : decode cX1_init 21 = .ok (.bipush 6, 2) := by decide +kernel
theorem dX1_init_23 : decode cX1_init 23 = .ok (.newarray .int, 2) := by decide +kernel
theorem dX1_init_25 : decode cX1_init 25 = .ok (.putfield 18, 3) := by decide +kernel
theorem dX1_init_28 : decode cX1_init 28 = .ok (.aload_n 0, 1) := by decide +kernel
theorem dX1_init_29 : decode cX1_init 29 = .ok (.iconst 4, 1) := by decide +kernel
theorem dX1_init_30 : decode cX1_init 30 = .ok (.newarray .long, 2) := by decide +kernel
theorem dX1_init_32 : decode cX1_init 32 = .ok (.putfield 21, 3) := by decide +kernel
theorem dX1_init_35 : decode cX1_init 35 = .ok (.aload_n 0, 1) := by decide +kernel
theorem dX1_init_36 : decode cX1_init 36 = .ok (.bipush 18, 2) := by decide +kernel
theorem dX1_init_38 : decode cX1_init 38 = .ok (.newarray .long, 2) := by decide +kernel
theorem dX1_init_40 : decode cX1_init 40 = .ok (.putfield 25, 3) := by decide +kernel
theorem dX1_init_43 : decode cX1_init 43 = .ok (.aload_n 0, 1) := by decide +kernel
theorem dX1_init_44 : decode cX1_init 44 = .ok (.iconst 3, 1) := by decide +kernel
theorem dX1_init_45 : decode cX1_init 45 = .ok (.newarray .long, 2) := by decide +kernel
theorem dX1_init_47 : decode cX1_init 47 = .ok (.putfield 28, 3) := by decide +kernel
theorem dX1_init_50 : decode cX1_init 50 = .ok (.aload_n 0, 1) := by decide +kernel
theorem dX1_init_51 : decode cX1_init 51 = .ok (.iconst 3, 1) := by decide +kernel
theorem dX1_init_52 : decode cX1_init 52 = .ok (.newarray .long, 2) := by decide +kernel
theorem dX1_init_54 : decode cX1_init 54 = .ok (.putfield 31, 3) := by decide +kernel
theorem dX1_init_57 : decode cX1_init 57 = .ok (.aload_n 0, 1) := by decide +kernel
theorem dX1_init_58 : decode cX1_init 58 = .ok (.iconst 3, 1) := by decide +kernel
theorem dX1_init_59 : decode cX1_init 59 = .ok (.newarray .long, 2) := by decide +kernel
theorem dX1_init_61 : decode cX1_init 61 = .ok (.putfield 34, 3) := by decide +kernel
theorem dX1_init_64 : decode cX1_init 64 = .ok (.aload_n 0, 1) := by decide +kernel
theorem dX1_init_65 : decode cX1_init 65 = .ok (.iconst 4, 1) := by decide +kernel
theorem dX1_init_66 : decode cX1_init 66 = .ok (.newarray .long, 2) := by decide +kernel
theorem dX1_init_68 : decode cX1_init 68 = .ok (.putfield 37, 3) := by decide +kernel
theorem dX1_init_71 : decode cX1_init 71 = .ok (.aload_n 0, 1) := by decide +kernel
theorem dX1_init_72 : decode cX1_init 72 = .ok (.iconst 4, 1) := by decide +kernel
theorem dX1_init_73 : decode cX1_init 73 = .ok (.newarray .long, 2) := by decide +kernel
theorem dX1_init_75 : decode cX1_init 75 = .ok (.putfield 40, 3) := by decide +kernel
theorem dX1_init_78 : decode cX1_init 78 = .ok (.aload_n 0, 1) := by decide +kernel
theorem dX1_init_79 : decode cX1_init 79 = .ok (.aload_n 1, 1) := by decide +kernel
theorem dX1_init_80 : decode cX1_init 80 = .ok (.putfield 43, 3) := by decide +kernel
theorem dX1_init_83 : decode cX1_init 83 = .ok (.return_, 1) := by decide +kernel
def s_X1_init (o : Nat) (a1 : Nat) (h : aH) : aP :=
  bP (nwA .int h 9) fun o7 h7 => ck (0 + 1) (0 + Int32.toNatClampNeg 9) ((pF h7 (.ref o) 1 3 (.ref o7)).bind fun h9 => bP (nwA .int h9 6) fun o15 h15 => ck (0 + 1 + 1) (0 + Int32.toNatClampNeg 9 + Int32.toNatClampNeg 6) ((pF h15 (.ref o) 1 4 (.ref o15)).bind fun h17 => bP (nwA .int h17 6) fun o23 h23 => ck (0 + 1 + 1 + 1) (0 + Int32.toNatClampNeg 9 + Int32.toNatClampNeg 6 + Int32.toNatClampNeg 6) ((pF h23 (.ref o) 1 5 (.ref o23)).bind fun h25 => bP (nwA .long h25 4) fun o30 h30 => ck (0 + 1 + 1 + 1 + 1) (0 + Int32.toNatClampNeg 9 + Int32.toNatClampNeg 6 + Int32.toNatClampNeg 6 + Int32.toNatClampNeg 4) ((pF h30 (.ref o) 1 6 (.ref o30)).bind fun h32 => bP (nwA .long h32 18) fun o38 h38 => ck (0 + 1 + 1 + 1 + 1 + 1) (0 + Int32.toNatClampNeg 9 + Int32.toNatClampNeg 6 + Int32.toNatClampNeg 6 + Int32.toNatClampNeg 4 + Int32.toNatClampNeg 18) ((pF h38 (.ref o) 1 7 (.ref o38)).bind fun h40 => bP (nwA .long h40 3) fun o45 h45 => ck (0 + 1 + 1 + 1 + 1 + 1 + 1) (0 + Int32.toNatClampNeg 9 + Int32.toNatClampNeg 6 + Int32.toNatClampNeg 6 + Int32.toNatClampNeg 4 + Int32.toNatClampNeg 18 + Int32.toNatClampNeg 3) ((pF h45 (.ref o) 1 9 (.ref o45)).bind fun h47 => bP (nwA .long h47 3) fun o52 h52 => ck (0 + 1 + 1 + 1 + 1 + 1 + 1 + 1) (0 + Int32.toNatClampNeg 9 + Int32.toNatClampNeg 6 + Int32.toNatClampNeg 6 + Int32.toNatClampNeg 4 + Int32.toNatClampNeg 18 + Int32.toNatClampNeg 3 + Int32.toNatClampNeg 3) ((pF h52 (.ref o) 1 10 (.ref o52)).bind fun h54 => bP (nwA .long h54 3) fun o59 h59 => ck (0 + 1 + 1 + 1 + 1 + 1 + 1 + 1 + 1) (0 + Int32.toNatClampNeg 9 + Int32.toNatClampNeg 6 + Int32.toNatClampNeg 6 + Int32.toNatClampNeg 4 + Int32.toNatClampNeg 18 + Int32.toNatClampNeg 3 + Int32.toNatClampNeg 3 + Int32.toNatClampNeg 3) ((pF h59 (.ref o) 1 11 (.ref o59)).bind fun h61 => bP (nwA .long h61 4) fun o66 h66 => ck (0 + 1 + 1 + 1 + 1 + 1 + 1 + 1 + 1 + 1) (0 + Int32.toNatClampNeg 9 + Int32.toNatClampNeg 6 + Int32.toNatClampNeg 6 + Int32.toNatClampNeg 4 + Int32.toNatClampNeg 18 + Int32.toNatClampNeg 3 + Int32.toNatClampNeg 3 + Int32.toNatClampNeg 3 + Int32.toNatClampNeg 4) ((pF h66 (.ref o) 1 12 (.ref o66)).bind fun h68 => bP (nwA .long h68 4) fun o73 h73 => ck (0 + 1 + 1 + 1 + 1 + 1 + 1 + 1 + 1 + 1 + 1) (0 + Int32.toNatClampNeg 9 + Int32.toNatClampNeg 6 + Int32.toNatClampNeg 6 + Int32.toNatClampNeg 4 + Int32.toNatClampNeg 18 + Int32.toNatClampNeg 3 + Int32.toNatClampNeg 3 + Int32.toNatClampNeg 3 + Int32.toNatClampNeg 4 + Int32.toNatClampNeg 4) (wC (0 + 1 + 1 + 1 + 1 + 1 + 1 + 1 + 1 + 1 + 1) (0 + Int32.toNatClampNeg 9 + Int32.toNatClampNeg 6 + Int32.toNatClampNeg 6 + Int32.toNatClampNeg 4 + Int32.toNatClampNeg 18 + Int32.toNatClampNeg 3 + Int32.toNatClampNeg 3 + Int32.toNatClampNeg 3 + Int32.toNatClampNeg 4 + Int32.toNatClampNeg 4) ((pF h73 (.ref o) 1 13 (.ref o73)).bind fun h75 => (pF h75 (.ref o) 1 0 (.ref a1)).bind fun h80 => some (.inl none, h80))))))))))))
section
variable {p : Program} {l : Launch} {e : Env} {s : State} {m : MethodId} {args : Array Value} {below : List Frame} {meth : Method} {c : Code} {D : va_G} {B0 : Nat} {X : Nat → Nat} {ws0 : va_W} {r : aR} {h' : aH} {mc ms : Nat}
theorem hy_X1_init : yX1_init.cls ≠ "java/lang/invoke/MethodHandle" ∧ yX1_init.cls ≠ "java/lang/invoke/VarHandle" ∧ (parseMethodDescriptor yX1_init.desc).map (fun d => d.parameters.length) = some 1 := by decide +kernel
theorem T_X1_init (o : Nat) (a1 : Nat) (h : aH) (r : aR) (h' : aH) (mc ms : Nat) (hs : s_X1_init o a1 h = some (r, h', mc, ms)) : Mt yX1_init (Cond.code yX1_init cX1_init 2 none :: aTB) 1 20 mc ms [.ref o, .ref a1] h r h' := by
  unfold s_X1_init at hs
  refine Mt_of (k := 0) (by decide) rfl (fun p l e s m args below meth c D B0 X ws0 C => ?_)
  show Ev p l e { frames := 1, cells := mc, slots := ms, locals := 20 } s m args below meth c D B0 X ws0 r h' mc ms 2 0 0 0 [some (.ref o), some (.ref a1)] [] h
  refine ev_aload_n C (x := .ref o) rfl trivial dX1_init_0 ?_
  refine ev_objInit C wm_X1_3 wi_oinit wc_oinit (Nat.le_of_ble_eq_true rfl) (Nat.le_of_ble_eq_true rfl) dX1_init_1 ?_
  refine ev_aload_n C (x := .ref o) rfl trivial dX1_init_4 ?_
  refine ev_bipush C (v := 9) dX1_init_5 (by decide) ?_
  obtain ⟨o7, h7, e7, hs⟩ := bP_at hs
  obtain ⟨c7, z7, hs⟩ := ck_at hs
  refine ev_newa C (atype := .int) (ty := .int) rfl wa_int (fun _ _ => rfl) e7 c7 z7 dX1_init_7 ?_
  obtain ⟨h9, e9, hs⟩ := aB hs
  refine ev_putF C (ci := 1) (k := 3) rfl wu_1 (by decide) tyX1 tyX1_ok nmX1 wf_X1_9 rfl rfl rfl trivial e9 dX1_init_9 ?_
  refine ev_aload_n C (x := .ref o) rfl trivial dX1_init_12 ?_
  refine ev_bipush C (v := 6) dX1_init_13 (by decide) ?_
  obtain ⟨o15, h15, e15, hs⟩ := bP_at hs
  obtain ⟨c15, z15, hs⟩ := ck_at hs
  refine ev_newa C (atype := .int) (ty := .int) rfl wa_int (fun _ _ => rfl) e15 c15 z15 dX1_init_15 ?_
  obtain ⟨h17, e17, hs⟩ := aB hs
  refine ev_putF C (ci := 1) (k := 4) rfl wu_1 (by decide) tyX1 tyX1_ok nmX1 wf_X1_15 rfl rfl rfl trivial e17 dX1_init_17 ?_
  refine ev_aload_n C (x := .ref o) rfl trivial dX1_init_20 ?_
  refine ev_bipush C (v := 6) dX1_init_21 (by decide) ?_
  obtain ⟨o23, h23, e23, hs⟩ := bP_at hs
  obtain ⟨c23, z23, hs⟩ := ck_at hs
  refine ev_newa C (atype := .int) (ty := .int) rfl wa_int (fun _ _ => rfl) e23 c23 z23 dX1_init_23 ?_
  obtain ⟨h25, e25, hs⟩ := aB hs
  refine ev_putF C (ci := 1) (k := 5) rfl wu_1 (by decide) tyX1 tyX1_ok nmX1 wf_X1_18 rfl rfl rfl trivial e25 dX1_init_25 ?_
  refine ev_aload_n C (x := .ref o) rfl trivial dX1_init_28 ?_
  refine ev_iconst C (v := 4) dX1_init_29 (by decide) ?_
  obtain ⟨o30, h30, e30, hs⟩ := bP_at hs
  obtain ⟨c30, z30, hs⟩ := ck_at hs
  refine ev_newa C (atype := .long) (ty := .long) rfl wa_long (fun _ _ => rfl) e30 c30 z30 dX1_init_30 ?_
  obtain ⟨h32, e32, hs⟩ := aB hs
  refine ev_putF C (ci := 1) (k := 6) rfl wu_1 (by decide) tyX1 tyX1_ok nmX1 wf_X1_21 rfl rfl rfl trivial e32 dX1_init_32 ?_
  refine ev_aload_n C (x := .ref o) rfl trivial dX1_init_35 ?_
  refine ev_bipush C (v := 18) dX1_init_36 (by decide) ?_
  obtain ⟨o38, h38, e38, hs⟩ := bP_at hs
  obtain ⟨c38, z38, hs⟩ := ck_at hs
  refine ev_newa C (atype := .long) (ty := .long) rfl wa_long (fun _ _ => rfl) e38 c38 z38 dX1_init_38 ?_
  obtain ⟨h40, e40, hs⟩ := aB hs
  refine ev_putF C (ci := 1) (k := 7) rfl wu_1 (by decide) tyX1 tyX1_ok nmX1 wf_X1_25 rfl rfl rfl trivial e40 dX1_init_40 ?_
  refine ev_aload_n C (x := .ref o) rfl trivial dX1_init_43 ?_
  refine ev_iconst C (v := 3) dX1_init_44 (by decide) ?_
  obtain ⟨o45, h45, e45, hs⟩ := bP_at hs
  obtain ⟨c45, z45, hs⟩ := ck_at hs
  refine ev_newa C (atype := .long) (ty := .long) rfl wa_long (fun _ _ => rfl) e45 c45 z45 dX1_init_45 ?_
  obtain ⟨h47, e47, hs⟩ := aB hs
  refine ev_putF C (ci := 1) (k := 9) rfl wu_1 (by decide) tyX1 tyX1_ok nmX1 wf_X1_28 rfl rfl rfl trivial e47 dX1_init_47 ?_
  refine ev_aload_n C (x := .ref o) rfl trivial dX1_init_50 ?_
  refine ev_iconst C (v := 3) dX1_init_51 (by decide) ?_
  obtain ⟨o52, h52, e52, hs⟩ := bP_at hs
  obtain ⟨c52, z52, hs⟩ := ck_at hs
  refine ev_newa C (atype := .long) (ty := .long) rfl wa_long (fun _ _ => rfl) e52 c52 z52 dX1_init_52 ?_
  obtain ⟨h54, e54, hs⟩ := aB hs
  refine ev_putF C (ci := 1) (k := 10) rfl wu_1 (by decide) tyX1 tyX1_ok nmX1 wf_X1_31 rfl rfl rfl trivial e54 dX1_init_54 ?_
  refine ev_aload_n C (x := .ref o) rfl trivial dX1_init_57 ?_
  refine ev_iconst C (v := 3) dX1_init_58 (by decide) ?_
  obtain ⟨o59, h59, e59, hs⟩ := bP_at hs
  obtain ⟨c59, z59, hs⟩ := ck_at hs
  refine ev_newa C (atype := .long) (ty := .long) rfl wa_long (fun _ _ => rfl) e59 c59 z59 dX1_init_59 ?_
  obtain ⟨h61, e61, hs⟩ := aB hs
  refine ev_putF C (ci := 1) (k := 11) rfl wu_1 (by decide) tyX1 tyX1_ok nmX1 wf_X1_34 rfl rfl rfl trivial e61 dX1_init_61 ?_
  refine ev_aload_n C (x := .ref o) rfl trivial dX1_init_64 ?_
  refine ev_iconst C (v := 4) dX1_init_65 (by decide) ?_
  obtain ⟨o66, h66, e66, hs⟩ := bP_at hs
  obtain ⟨c66, z66, hs⟩ := ck_at hs
  refine ev_newa C (atype := .long) (ty := .long) rfl wa_long (fun _ _ => rfl) e66 c66 z66 dX1_init_66 ?_
  obtain ⟨h68, e68, hs⟩ := aB hs
  refine ev_putF C (ci := 1) (k := 12) rfl wu_1 (by decide) tyX1 tyX1_ok nmX1 wf_X1_37 rfl rfl rfl trivial e68 dX1_init_68 ?_
  refine ev_aload_n C (x := .ref o) rfl trivial dX1_init_71 ?_
  refine ev_iconst C (v := 4) dX1_init_72 (by decide) ?_
  obtain ⟨o73, h73, e73, hs⟩ := bP_at hs
  obtain ⟨c73, z73, hs⟩ := ck_at hs
  refine ev_newa C (atype := .long) (ty := .long) rfl wa_long (fun _ _ => rfl) e73 c73 z73 dX1_init_73 ?_
  obtain ⟨hw9, rfl, rfl⟩ := wC_at hs
  have hs := hw9
  obtain ⟨h75, e75, hs⟩ := aB hs
  refine ev_putF C (ci := 1) (k := 13) rfl wu_1 (by decide) tyX1 tyX1_ok nmX1 wf_X1_40 rfl rfl rfl trivial e75 dX1_init_75 ?_
  refine ev_aload_n C (x := .ref o) rfl trivial dX1_init_78 ?_
  refine ev_aload_n C (x := .ref a1) rfl trivial dX1_init_79 ?_
  obtain ⟨h80, e80, hs⟩ := aB hs
  refine ev_putF C (ci := 1) (k := 0) rfl wu_1 (by decide) tyX1 tyX1_ok nmX1 wf_X1_43 rfl rfl rfl trivial e80 dX1_init_80 ?_
  cases hs
  exact ev_vret C rfl rfl (Nat.le_refl _) (Nat.le_refl _) rfl dX1_init_83
end
-- X1_forget
theorem dX1_forget_0 : decode cX1_forget 0 = .ok (.aload_n 0, 1) := by decide +kernel
theorem dX1_forget_1 : decode cX1_forget 1 = .ok (.iconst 0, 1) := by decide +kernel
theorem dX1_forget_2 : decode cX1_forget 2 = .ok (.putfield 47, 3) := by decide +kernel
theorem dX1_forget_5 : decode cX1_forget 5 = .ok (.return_, 1) := by decide +kernel
def s_X1_forget (o : Nat) (h : aH) : aO :=
  (pZ h (.ref o) 1 1 0).bind fun h2 => some (.inl none, h2)
section
variable {p : Program} {l : Launch} {e : Env} {s : State} {m : MethodId} {args : Array Value} {below : List Frame} {meth : Method} {c : Code} {D : va_G} {B0 : Nat} {X : Nat → Nat} {ws0 : va_W} {r : aR} {h' : aH} {mc ms : Nat}
theorem hy_X1_forget : yX1_forget.cls ≠ "java/lang/invoke/MethodHandle" ∧ yX1_forget.cls ≠ "java/lang/invoke/VarHandle" ∧ (parseMethodDescriptor yX1_forget.desc).map (fun d => d.parameters.length) = some 0 := by decide +kernel
theorem T_X1_forget (o : Nat) (h : aH) (r : aR) (h' : aH) (hs : s_X1_forget o h = some (r, h')) : Mt yX1_forget (Cond.code yX1_forget cX1_forget 1 none :: aTB) 0 0 0 0 [.ref o] h r h' := by
  unfold s_X1_forget at hs
  refine Mt_of (k := 0) (by decide) rfl (fun p l e s m args below meth c D B0 X ws0 C => ?_)
  show Ev p l e { frames := 0, cells := 0, slots := 0, locals := 0 } s m args below meth c D B0 X ws0 r h' 0 0 1 0 0 0 [some (.ref o)] [] h
  refine ev_aload_n C (x := .ref o) rfl trivial dX1_forget_0 ?_
  refine ev_iconst C (v := 0) dX1_forget_1 (by decide) ?_
  obtain ⟨h2, e2, hs⟩ := aB hs
  refine ev_put C (ci := 1) (k := 1) rfl wu_1 (by decide) tyX1 tyX1_ok nmX1 wf_X1_47 rfl (pZ_F e2).2 (pZ_F e2).1 dX1_forget_2 ?_
  cases hs
  exact ev_vret C rfl rfl (Nat.le_refl _) (Nat.le_refl _) rfl dX1_forget_5
end
-- J7_fill_53178
theorem dJ7_fill_53178_0 : decode cJ7_fill_53178 0 = .ok (.iconst 0, 1) := by decide +kernel
theorem dJ7_fill_53178_1 : decode cJ7_fill_53178 1 = .ok (.istore_n 2, 1) := by decide +kernel
theorem dJ7_fill_53178_2 : decode cJ7_fill_53178 2 = .ok (.aload_n 0, 1) := by decide +kernel
theorem dJ7_fill_53178_3 : decode cJ7_fill_53178 3 = .ok (.arraylength, 1) := by decide +kernel
theorem dJ7_fill_53178_4 : decode cJ7_fill_53178 4 = .ok (.istore_n 3, 1) := by decide +kernel
theorem dJ7_fill_53178_5 : decode cJ7_fill_53178 5 = .ok (.iload_n 2, 1) := by decide +kernel
theorem dJ7_fill_53178_6 : decode cJ7_fill_53178 6 = .ok (.iload_n 3, 1) := by decide +kernel
theorem dJ7_fill_53178_7 : decode cJ7_fill_53178 7 = .ok (.if_icmp .ge 13, 3) := by decide +kernel
theorem dJ7_fill_53178_10 : decode cJ7_fill_53178 10 = .ok (.aload_n 0, 1) := by decide +kernel
theorem dJ7_fill_53178_11 : decode cJ7_fill_53178 11 = .ok (.iload_n 2, 1) := by decide +kernel
theorem dJ7_fill_53178_12 : decode cJ7_fill_53178 12 = .ok (.iload_n 1, 1) := by decide +kernel
theorem dJ7_fill_53178_13 : decode cJ7_fill_53178 13 = .ok (.iastore, 1) := by decide +kernel
theorem dJ7_fill_53178_14 : decode cJ7_fill_53178 14 = .ok (.iinc 2 1, 3) := by decide +kernel
theorem dJ7_fill_53178_17 : decode cJ7_fill_53178 17 = .ok (.goto (-12), 3) := by decide +kernel
theorem dJ7_fill_53178_20 : decode cJ7_fill_53178 20 = .ok (.return_, 1) := by decide +kernel
def s_J7_fill_53178_5_b  (k5 : Nat → Int32 → Int32 → Int32 → aH → aO) (l0 : Nat) (l1 : Int32) (l2 : Int32) (l3 : Int32) (h : aH) : aO :=
  if l3 ≤ l2 then (some (.inl none, h)) else ((stI h (.ref l0) l2 l1).bind fun h13 => k5 l0 l1 (l2 + 1) l3 h13)
def s_J7_fill_53178_5  (n : Nat) : Nat → Int32 → Int32 → Int32 → aH → aO := lpF (fun _ _ _ _ _ => none) (s_J7_fill_53178_5_b ) n
def s_J7_fill_53178 (a1 : Nat) (a2 : Int32) (h : aH) : aO :=
  (lnA h (.ref a1)).bind fun x3 => s_J7_fill_53178_5 FU a1 a2 0 x3 h
section
variable {p : Program} {l : Launch} {e : Env} {s : State} {m : MethodId} {args : Array Value} {below : List Frame} {meth : Method} {c : Code} {D : va_G} {B0 : Nat} {X : Nat → Nat} {ws0 : va_W} {r : aR} {h' : aH} {mc ms : Nat}
theorem t_J7_fill_53178_5_b (C : Cx p l s m args meth c B0 X RJ7 "fill" cJ7_fill_53178 4 none [])   {k5 : Nat → Int32 → Int32 → Int32 → aH → aO} (K5 : ∀ (l0 : Nat) (l1 : Int32) (l2 : Int32) (l3 : Int32) (h : aH), k5 l0 l1 l2 l3 h = some (r, h') → Ev p l e { frames := 0, cells := mc, slots := ms, locals := 0 } s m args below meth c D B0 X ws0 r h' mc ms 4 mc ms 5 [some (.ref l0), some (.int l1), some (.int l2), some (.int l3)] [] h) {l0 : Nat} {l1 : Int32} {l2 : Int32} {l3 : Int32} {h : aH} (hs : s_J7_fill_53178_5_b  k5 l0 l1 l2 l3 h = some (r, h')) : Ev p l e { frames := 0, cells := mc, slots := ms, locals := 0 } s m args below meth c D B0 X ws0 r h' mc ms 4 mc ms 5 [some (.ref l0), some (.int l1), some (.int l2), some (.int l3)] [] h := by
  unfold s_J7_fill_53178_5_b at hs
  refine ev_iload_n C rfl dJ7_fill_53178_5 ?_
  refine ev_iload_n C rfl dJ7_fill_53178_6 ?_
  refine ev_icmp_ge C (tgt := 20) (by decide) dJ7_fill_53178_7 (fun q7 => ?_) (fun q7 => ?_)
  · replace hs := (if_pos q7).symm.trans hs
    cases hs
    exact ev_vret C rfl rfl (Nat.le_refl _) (Nat.le_refl _) rfl dJ7_fill_53178_20
  · replace hs := (if_neg q7).symm.trans hs
    refine ev_aload_n C (x := .ref l0) rfl trivial dJ7_fill_53178_10 ?_
    refine ev_iload_n C rfl dJ7_fill_53178_11 ?_
    refine ev_iload_n C rfl dJ7_fill_53178_12 ?_
    obtain ⟨h13, e13, hs⟩ := aB hs
    refine ev_iast C e13 dJ7_fill_53178_13 ?_
    refine ev_iinc C (i := 2) (n := 1) (x := l2) (v := l2 + 1) rfl (congrArg (fun z => l2 + z) (show Int32.ofInt 1 = 1 by decide)) (by decide) dJ7_fill_53178_14 ?_
    refine ev_goto C (tgt := 5) (by decide) dJ7_fill_53178_17 ?_
    exact (K5 _ _ _ _ _ hs)
theorem t_J7_fill_53178_5 (C : Cx p l s m args meth c B0 X RJ7 "fill" cJ7_fill_53178 4 none [])   : ∀ (n : Nat) {l0 : Nat} {l1 : Int32} {l2 : Int32} {l3 : Int32} {h : aH} (hs : s_J7_fill_53178_5  n l0 l1 l2 l3 h = some (r, h')), Ev p l e { frames := 0, cells := mc, slots := ms, locals := 0 } s m args below meth c D B0 X ws0 r h' mc ms 4 mc ms 5 [some (.ref l0), some (.int l1), some (.int l2), some (.int l3)] [] h
  | 0, _, _, _, _, _, hs => nomatch hs
  | n + 1, _, _, _, _, _, hs => t_J7_fill_53178_5_b C  (k5 := s_J7_fill_53178_5  n) (fun _ _ _ _ _ hs => t_J7_fill_53178_5 C  n hs) hs
theorem hy_J7_fill_53178 : yJ7_fill_53178.cls ≠ "java/lang/invoke/MethodHandle" ∧ yJ7_fill_53178.cls ≠ "java/lang/invoke/VarHandle" ∧ (parseMethodDescriptor yJ7_fill_53178.desc).map (fun d => d.parameters.length) = some 2 := by decide +kernel
theorem T_J7_fill_53178 (a1 : Nat) (a2 : Int32) (h : aH) (r : aR) (h' : aH) (hs : s_J7_fill_53178 a1 a2 h = some (r, h')) : Mt yJ7_fill_53178 (Cond.code yJ7_fill_53178 cJ7_fill_53178 4 none :: aTB) 0 0 0 0 [.ref a1, .int a2] h r h' := by
  unfold s_J7_fill_53178 at hs
  refine Mt_of (k := 2) (by decide) rfl (fun p l e s m args below meth c D B0 X ws0 C => ?_)
  show Ev p l e { frames := 0, cells := 0, slots := 0, locals := 0 } s m args below meth c D B0 X ws0 r h' 0 0 4 0 0 0 [some (.ref a1), some (.int a2), none, none] [] h
  refine ev_iconst C (v := 0) dJ7_fill_53178_0 (by decide) ?_
  refine ev_istore_n C (by decide) dJ7_fill_53178_1 ?_
  refine ev_aload_n C (x := .ref a1) rfl trivial dJ7_fill_53178_2 ?_
  obtain ⟨x3, e3, hs⟩ := aB hs
  refine ev_alen C e3 dJ7_fill_53178_3 ?_
  refine ev_istore_n C (by decide) dJ7_fill_53178_4 ?_
  exact (t_J7_fill_53178_5 C  FU hs)
end
-- X1_addTerm
theorem dX1_addTerm_0 : decode cX1_addTerm 0 = .ok (.iload_n 1, 1) := by decide +kernel
theorem dX1_addTerm_1 : decode cX1_addTerm 1 = .ok (.ifCond .ge 5, 3) := by decide +kernel
theorem dX1_addTerm_4 : decode cX1_addTerm 4 = .ok (.iconst 1, 1) := by decide +kernel
theorem dX1_addTerm_5 : decode cX1_addTerm 5 = .ok (.ireturn, 1) := by decide +kernel
theorem dX1_addTerm_6 : decode cX1_addTerm 6 = .ok (.iload_n 2, 1) := by decide +kernel
theorem dX1_addTerm_7 : decode cX1_addTerm 7 = .ok (.bipush (-20), 2) := by decide +kernel
theorem dX1_addTerm_9 : decode cX1_addTerm 9 = .ok (.if_icmp .lt 9, 3) := by decide +kernel
theorem dX1_addTerm_12 : decode cX1_addTerm 12 = .ok (.iload_n 2, 1) := by decide +kernel
theorem dX1_addTerm_13 : decode cX1_addTerm 13 = .ok (.bipush 20, 2) := by decide +kernel
theorem dX1_addTerm_15 : decode cX1_addTerm 15 = .ok (.if_icmp .le 5, 3) := by decide +kernel
theorem dX1_addTerm_18 : decode cX1_addTerm 18 = .ok (.iconst 0, 1) := by decide +kernel
theorem dX1_addTerm_19 : decode cX1_addTerm 19 = .ok (.ireturn, 1) := by decide +kernel
theorem dX1_addTerm_20 : decode cX1_addTerm 20 = .ok (.iload_n 1, 1) := by decide +kernel
theorem dX1_addTerm_21 : decode cX1_addTerm 21 = .ok (.getstatic 120, 3) := by decide +kernel
theorem dX1_addTerm_24 : decode cX1_addTerm 24 = .ok (.iconst 1, 1) := by decide +kernel
theorem dX1_addTerm_25 : decode cX1_addTerm 25 = .ok (.iaload, 1) := by decide +kernel
theorem dX1_addTerm_26 : decode cX1_addTerm 26 = .ok (.if_icmp .ge 36, 3) := by decide +kernel
theorem dX1_addTerm_29 : decode cX1_addTerm 29 = .ok (.iload 4, 2) := by decide +kernel
theorem dX1_addTerm_31 : decode cX1_addTerm 31 = .ok (.ifCond .eq 10, 3) := by decide +kernel
theorem dX1_addTerm_34 : decode cX1_addTerm 34 = .ok (.aload_n 0, 1) := by decide +kernel
theorem dX1_addTerm_35 : decode cX1_addTerm 35 = .ok (.getfield 18, 3) := by decide +kernel
theorem dX1_addTerm_38 : decode cX1_addTerm 38 = .ok (.goto 7, 3) := by decide +kernel
theorem dX1_addTerm_41 : decode cX1_addTerm 41 = .ok (.aload_n 0, 1) := by decide +kernel
theorem dX1_addTerm_42 : decode cX1_addTerm 42 = .ok (.getfield 9, 3) := by decide +kernel
theorem dX1_addTerm_45 : decode cX1_addTerm 45 = .ok (.astore 5, 2) := by decide +kernel
theorem dX1_addTerm_47 : decode cX1_addTerm 47 = .ok (.aload 5, 2) := by decide +kernel
theorem dX1_addTerm_49 : decode cX1_addTerm 49 = .ok (.iload_n 3, 1) := by decide +kernel
theorem dX1_addTerm_50 : decode cX1_addTerm 50 = .ok (.iconst 3, 1) := by decide +kernel
theorem dX1_addTerm_51 : decode cX1_addTerm 51 = .ok (.imul, 1) := by decide +kernel
theorem dX1_addTerm_52 : decode cX1_addTerm 52 = .ok (.iload_n 1, 1) := by decide +kernel
theorem dX1_addTerm_53 : decode cX1_addTerm 53 = .ok (.iadd, 1) := by decide +kernel
theorem dX1_addTerm_54 : decode cX1_addTerm 54 = .ok (.dup2, 1) := by decide +kernel
theorem dX1_addTerm_55 : decode cX1_addTerm 55 = .ok (.iaload, 1) := by decide +kernel
theorem dX1_addTerm_56 : decode cX1_addTerm 56 = .ok (.iload_n 2, 1) := by decide +kernel
theorem dX1_addTerm_57 : decode cX1_addTerm 57 = .ok (.iadd, 1) := by decide +kernel
theorem dX1_addTerm_58 : decode cX1_addTerm 58 = .ok (.iastore, 1) := by decide +kernel
theorem dX1_addTerm_59 : decode cX1_addTerm 59 = .ok (.goto 37, 3) := by decide +kernel
theorem dX1_addTerm_62 : decode cX1_addTerm 62 = .ok (.iload_n 1, 1) := by decide +kernel
theorem dX1_addTerm_63 : decode cX1_addTerm 63 = .ok (.getstatic 120, 3) := by decide +kernel
theorem dX1_addTerm_66 : decode cX1_addTerm 66 = .ok (.iconst 2, 1) := by decide +kernel
theorem dX1_addTerm_67 : decode cX1_addTerm 67 = .ok (.iaload, 1) := by decide +kernel
theorem dX1_addTerm_68 : decode cX1_addTerm 68 = .ok (.if_icmp .ge 28, 3) := by decide +kernel
theorem dX1_addTerm_71 : decode cX1_addTerm 71 = .ok (.iload 4, 2) := by decide +kernel
theorem dX1_addTerm_73 : decode cX1_addTerm 73 = .ok (.ifCond .ne 23, 3) := by decide +kernel
theorem dX1_addTerm_76 : decode cX1_addTerm 76 = .ok (.aload_n 0, 1) := by decide +kernel
theorem dX1_addTerm_77 : decode cX1_addTerm 77 = .ok (.getfield 15, 3) := by decide +kernel
theorem dX1_addTerm_80 : decode cX1_addTerm 80 = .ok (.iload_n 3, 1) := by decide +kernel
theorem dX1_addTerm_81 : decode cX1_addTerm 81 = .ok (.iconst 2, 1) := by decide +kernel
theorem dX1_addTerm_82 : decode cX1_addTerm 82 = .ok (.imul, 1) := by decide +kernel
theorem dX1_addTerm_83 : decode cX1_addTerm 83 = .ok (.iload_n 1, 1) := by decide +kernel
theorem dX1_addTerm_84 : decode cX1_addTerm 84 = .ok (.iadd, 1) := by decide +kernel
theorem dX1_addTerm_85 : decode cX1_addTerm 85 = .ok (.getstatic 120, 3) := by decide +kernel
theorem dX1_addTerm_88 : decode cX1_addTerm 88 = .ok (.iconst 1, 1) := by decide +kernel
theorem dX1_addTerm_89 : decode cX1_addTerm 89 = .ok (.iaload, 1) := by decide +kernel
theorem dX1_addTerm_90 : decode cX1_addTerm 90 = .ok (.isub, 1) := by decide +kernel
theorem dX1_addTerm_91 : decode cX1_addTerm 91 = .ok (.dup2, 1) := by decide +kernel
theorem dX1_addTerm_92 : decode cX1_addTerm 92 = .ok (.iaload, 1) := by decide +kernel
theorem dX1_addTerm_93 : decode cX1_addTerm 93 = .ok (.iload_n 2, 1) := by decide +kernel
theorem dX1_addTerm_94 : decode cX1_addTerm 94 = .ok (.iadd, 1) := by decide +kernel
theorem dX1_addTerm_95 : decode cX1_addTerm 95 = .ok (.iastore, 1) := by decide +kernel
theorem dX1_addTerm_96 : decode cX1_addTerm 96 = .ok (.iconst 1, 1) := by decide +kernel
theorem dX1_addTerm_97 : decode cX1_addTerm 97 = .ok (.ireturn, 1) := by decide +kernel
def s_X1_addTerm_45  (l1 : Int32) (l2 : Int32) (l3 : Int32) (s0 : Nat) (h : aH) : aO :=
  (ldI .int h (.ref s0) ((l3 * 3) + l1)).bind fun x55 => (stI h (.ref s0) ((l3 * 3) + l1) (x55 + l2)).bind fun h58 => rtZ 1 h58
def s_X1_addTerm (o : Nat) (a1 : Int32) (a2 : Int32) (a3 : Int32) (a4 : Int32) (h : aH) : aO :=
  if 0 ≤ a1 then (if a2 < (-20) then (rtZ 0 h) else (if a2 ≤ 20 then ((ldI .int h (.ref (aE + 1)) 1).bind fun x25 => if x25 ≤ a1 then ((ldI .int h (.ref (aE + 1)) 2).bind fun x67 => if x67 ≤ a1 then (rtZ 1 h) else (if a4 = 0 then ((gO h (.ref o) 1 4).bind fun x77 => (ldI .int h (.ref (aE + 1)) 1).bind fun x89 => (ldI .int h (.ref x77) (((a3 * 2) + a1) - x89)).bind fun x92 => (stI h (.ref x77) (((a3 * 2) + a1) - x89) (x92 + a2)).bind fun h95 => rtZ 1 h95) else (rtZ 1 h))) else (if a4 = 0 then ((gO h (.ref o) 1 3).bind fun x42 => s_X1_addTerm_45 a1 a2 a3 x42 h) else ((gO h (.ref o) 1 5).bind fun x35 => s_X1_addTerm_45 a1 a2 a3 x35 h))) else (rtZ 0 h))) else (rtZ 1 h)
section
variable {p : Program} {l : Launch} {e : Env} {s : State} {m : MethodId} {args : Array Value} {below : List Frame} {meth : Method} {c : Code} {D : va_G} {B0 : Nat} {X : Nat → Nat} {ws0 : va_W} {r : aR} {h' : aH} {mc ms : Nat}
theorem t_X1_addTerm_45 (C : Cx p l s m args meth c B0 X RX1 "addTerm" cX1_addTerm 6 (some .boolean) [])   {l1 : Int32} {l2 : Int32} {l3 : Int32} {s0 : Nat} {h : aH} (hs : s_X1_addTerm_45  l1 l2 l3 s0 h = some (r, h')) : Ev p l e { frames := 0, cells := mc, slots := ms, locals := 0 } s m args below meth c D B0 X ws0 r h' mc ms 6 mc ms 45 [none, some (.int l1), some (.int l2), some (.int l3), none, none] [.ref s0] h := by
  unfold s_X1_addTerm_45 at hs
  refine ev_astore C (x := .ref s0) trivial (by decide) dX1_addTerm_45 ?_
  refine ev_aload C (x := .ref s0) rfl trivial dX1_addTerm_47 ?_
  refine ev_iload_n C rfl dX1_addTerm_49 ?_
  refine ev_iconst C (v := 3) dX1_addTerm_50 (by decide) ?_
  refine ev_imul C dX1_addTerm_51 ?_
  refine ev_iload_n C rfl dX1_addTerm_52 ?_
  refine ev_iadd C dX1_addTerm_53 ?_
  refine ev_dup2 C rfl rfl dX1_addTerm_54 ?_
  obtain ⟨x55, e55, hs⟩ := aB hs
  refine ev_iald C e55 dX1_addTerm_55 ?_
  refine ev_iload_n C rfl dX1_addTerm_56 ?_
  refine ev_iadd C dX1_addTerm_57 ?_
  obtain ⟨h58, e58, hs⟩ := aB hs
  refine ev_iast C e58 dX1_addTerm_58 ?_
  refine ev_goto C (tgt := 96) (by decide) dX1_addTerm_59 ?_
  refine ev_iconst C (v := 1) dX1_addTerm_96 (by decide) ?_
  obtain ⟨hz, rfl, rfl⟩ := rtZ_at hs
  exact ev_zret C rfl hz rfl (Nat.le_refl _) (Nat.le_refl _) rfl dX1_addTerm_97
theorem hy_X1_addTerm : yX1_addTerm.cls ≠ "java/lang/invoke/MethodHandle" ∧ yX1_addTerm.cls ≠ "java/lang/invoke/VarHandle" ∧ (parseMethodDescriptor yX1_addTerm.desc).map (fun d => d.parameters.length) = some 4 := by decide +kernel
theorem T_X1_addTerm (o : Nat) (a1 : Int32) (a2 : Int32) (a3 : Int32) (a4 : Int32) (h : aH) (r : aR) (h' : aH) (hs : s_X1_addTerm o a1 a2 a3 a4 h = some (r, h')) : Mt yX1_addTerm (Cond.code yX1_addTerm cX1_addTerm 6 (some .boolean) :: aTB) 0 0 0 0 [.ref o, .int a1, .int a2, .int a3, .int a4] h r h' := by
  unfold s_X1_addTerm at hs
  refine Mt_of (k := 1) (by decide) rfl (fun p l e s m args below meth c D B0 X ws0 C => ?_)
  show Ev p l e { frames := 0, cells := 0, slots := 0, locals := 0 } s m args below meth c D B0 X ws0 r h' 0 0 6 0 0 0 [some (.ref o), some (.int a1), some (.int a2), some (.int a3), some (.int a4), none] [] h
  refine ev_iload_n C rfl dX1_addTerm_0 ?_
  refine ev_if_ge C (tgt := 6) (by decide) dX1_addTerm_1 (fun q1 => ?_) (fun q1 => ?_)
  · replace hs := (if_pos q1).symm.trans hs
    refine ev_iload_n C rfl dX1_addTerm_6 ?_
    refine ev_bipush C (v := (-20)) dX1_addTerm_7 (by decide) ?_
    refine ev_icmp_lt C (tgt := 18) (by decide) dX1_addTerm_9 (fun q9 => ?_) (fun q9 => ?_)
    · replace hs := (if_pos q9).symm.trans hs
      refine ev_iconst C (v := 0) dX1_addTerm_18 (by decide) ?_
      obtain ⟨hz, rfl, rfl⟩ := rtZ_at hs
      exact ev_zret C rfl hz rfl (Nat.le_refl _) (Nat.le_refl _) rfl dX1_addTerm_19
    · replace hs := (if_neg q9).symm.trans hs
      refine ev_iload_n C rfl dX1_addTerm_12 ?_
      refine ev_bipush C (v := 20) dX1_addTerm_13 (by decide) ?_
      refine ev_icmp_le C (tgt := 20) (by decide) dX1_addTerm_15 (fun q15 => ?_) (fun q15 => ?_)
      · replace hs := (if_pos q15).symm.trans hs
        refine ev_iload_n C rfl dX1_addTerm_20 ?_
        refine ev_getsBASEN C wg_X1_120 dX1_addTerm_21 ?_
        refine ev_iconst C (v := 1) dX1_addTerm_24 (by decide) ?_
        obtain ⟨x25, e25, hs⟩ := aB hs
        refine ev_iald C e25 dX1_addTerm_25 ?_
        refine ev_icmp_ge C (tgt := 62) (by decide) dX1_addTerm_26 (fun q26 => ?_) (fun q26 => ?_)
        · replace hs := (if_pos q26).symm.trans hs
          refine ev_iload_n C rfl dX1_addTerm_62 ?_
          refine ev_getsBASEN C wg_X1_120 dX1_addTerm_63 ?_
          refine ev_iconst C (v := 2) dX1_addTerm_66 (by decide) ?_
          obtain ⟨x67, e67, hs⟩ := aB hs
          refine ev_iald C e67 dX1_addTerm_67 ?_
          refine ev_icmp_ge C (tgt := 96) (by decide) dX1_addTerm_68 (fun q68 => ?_) (fun q68 => ?_)
          · replace hs := (if_pos q68).symm.trans hs
            refine ev_iconst C (v := 1) dX1_addTerm_96 (by decide) ?_
            obtain ⟨hz, rfl, rfl⟩ := rtZ_at hs
            exact ev_zret C rfl hz rfl (Nat.le_refl _) (Nat.le_refl _) rfl dX1_addTerm_97
          · replace hs := (if_neg q68).symm.trans hs
            refine ev_iload C rfl dX1_addTerm_71 ?_
            refine ev_if_ne C (tgt := 96) (by decide) dX1_addTerm_73 (fun q73 => ?_) (fun q73 => ?_)
            · replace hs := (if_neg q73).symm.trans hs
              refine ev_iconst C (v := 1) dX1_addTerm_96 (by decide) ?_
              obtain ⟨hz, rfl, rfl⟩ := rtZ_at hs
              exact ev_zret C rfl hz rfl (Nat.le_refl _) (Nat.le_refl _) rfl dX1_addTerm_97
            · replace hs := (if_pos q73).symm.trans hs
              refine ev_aload_n C (x := .ref o) rfl trivial dX1_addTerm_76 ?_
              obtain ⟨x77, e77, hs⟩ := aB hs
              refine ev_get C (ci := 1) (k := 4) rfl wu_1 (by decide) wf_X1_15 (gO_F e77) dX1_addTerm_77 ?_
              refine ev_iload_n C rfl dX1_addTerm_80 ?_
              refine ev_iconst C (v := 2) dX1_addTerm_81 (by decide) ?_
              refine ev_imul C dX1_addTerm_82 ?_
              refine ev_iload_n C rfl dX1_addTerm_83 ?_
              refine ev_iadd C dX1_addTerm_84 ?_
              refine ev_getsBASEN C wg_X1_120 dX1_addTerm_85 ?_
              refine ev_iconst C (v := 1) dX1_addTerm_88 (by decide) ?_
              obtain ⟨x89, e89, hs⟩ := aB hs
              refine ev_iald C e89 dX1_addTerm_89 ?_
              refine ev_isub C dX1_addTerm_90 ?_
              refine ev_dup2 C rfl rfl dX1_addTerm_91 ?_
              obtain ⟨x92, e92, hs⟩ := aB hs
              refine ev_iald C e92 dX1_addTerm_92 ?_
              refine ev_iload_n C rfl dX1_addTerm_93 ?_
              refine ev_iadd C dX1_addTerm_94 ?_
              obtain ⟨h95, e95, hs⟩ := aB hs
              refine ev_iast C e95 dX1_addTerm_95 ?_
              refine ev_iconst C (v := 1) dX1_addTerm_96 (by decide) ?_
              obtain ⟨hz, rfl, rfl⟩ := rtZ_at hs
              exact ev_zret C rfl hz rfl (Nat.le_refl _) (Nat.le_refl _) rfl dX1_addTerm_97
        · replace hs := (if_neg q26).symm.trans hs
          refine ev_iload C rfl dX1_addTerm_29 ?_
          refine ev_if_eq C (tgt := 41) (by decide) dX1_addTerm_31 (fun q31 => ?_) (fun q31 => ?_)
          · replace hs := (if_pos q31).symm.trans hs
            refine ev_aload_n C (x := .ref o) rfl trivial dX1_addTerm_41 ?_
            obtain ⟨x42, e42, hs⟩ := aB hs
            refine ev_get C (ci := 1) (k := 3) rfl wu_1 (by decide) wf_X1_9 (gO_F e42) dX1_addTerm_42 ?_
            exact Ev.keep [false, true, true, true, false, true] (t_X1_addTerm_45 C  hs)
          · replace hs := (if_neg q31).symm.trans hs
            refine ev_aload_n C (x := .ref o) rfl trivial dX1_addTerm_34 ?_
            obtain ⟨x35, e35, hs⟩ := aB hs
            refine ev_get C (ci := 1) (k := 5) rfl wu_1 (by decide) wf_X1_18 (gO_F e35) dX1_addTerm_35 ?_
            refine ev_goto C (tgt := 45) (by decide) dX1_addTerm_38 ?_
            exact Ev.keep [false, true, true, true, false, true] (t_X1_addTerm_45 C  hs)
      · replace hs := (if_neg q15).symm.trans hs
        refine ev_iconst C (v := 0) dX1_addTerm_18 (by decide) ?_
        obtain ⟨hz, rfl, rfl⟩ := rtZ_at hs
        exact ev_zret C rfl hz rfl (Nat.le_refl _) (Nat.le_refl _) rfl dX1_addTerm_19
  · replace hs := (if_neg q1).symm.trans hs
    refine ev_iconst C (v := 1) dX1_addTerm_4 (by decide) ?_
    obtain ⟨hz, rfl, rfl⟩ := rtZ_at hs
    exact ev_zret C rfl hz rfl (Nat.le_refl _) (Nat.le_refl _) rfl dX1_addTerm_5
end
-- X1_addTerms
theorem dX1_addTerms_0 : decode cX1_addTerms 0 = .ok (.aload_n 0, 1) := by decide +kernel
theorem dX1_addTerms_1 : decode cX1_addTerms 1 = .ok (.getfield 43, 3) := by decide +kernel
theorem dX1_addTerms_4 : decode cX1_addTerms 4 = .ok (.getfield 105, 3) := by decide +kernel
theorem dX1_addTerms_7 : decode cX1_addTerms 7 = .ok (.astore 5, 2) := by decide +kernel
theorem dX1_addTerms_9 : decode cX1_addTerms 9 = .ok (.iconst (-1), 1) := by decide +kernel
theorem dX1_addTerms_10 : decode cX1_addTerms 10 = .ok (.istore 6, 2) := by decide +kernel
theorem dX1_addTerms_12 : decode cX1_addTerms 12 = .ok (.iconst 0, 1) := by decide +kernel
theorem dX1_addTerms_13 : decode cX1_addTerms 13 = .ok (.istore 7, 2) := by decide +kernel
theorem dX1_addTerms_15 : decode cX1_addTerms 15 = .ok (.iload_n 1, 1) := by decide +kernel
theorem dX1_addTerms_16 : decode cX1_addTerms 16 = .ok (.istore 8, 2) := by decide +kernel
theorem dX1_addTerms_18 : decode cX1_addTerms 18 = .ok (.iload 8, 2) := by decide +kernel
theorem dX1_addTerms_20 : decode cX1_addTerms 20 = .ok (.iload_n 2, 1) := by decide +kernel
theorem dX1_addTerms_21 : decode cX1_addTerms 21 = .ok (.if_icmp .ge 160, 3) := by decide +kernel
theorem dX1_addTerms_24 : decode cX1_addTerms 24 = .ok (.aload 5, 2) := by decide +kernel
theorem dX1_addTerms_26 : decode cX1_addTerms 26 = .ok (.getfield 109, 3) := by decide +kernel
theorem dX1_addTerms_29 : decode cX1_addTerms 29 = .ok (.iload 8, 2) := by decide +kernel
theorem dX1_addTerms_31 : decode cX1_addTerms 31 = .ok (.iaload, 1) := by decide +kernel
theorem dX1_addTerms_32 : decode cX1_addTerms 32 = .ok (.iconst 2, 1) := by decide +kernel
theorem dX1_addTerms_33 : decode cX1_addTerms 33 = .ok (.if_icmp .eq 41, 3) := by decide +kernel
theorem dX1_addTerms_36 : decode cX1_addTerms 36 = .ok (.aload_n 0, 1) := by decide +kernel
theorem dX1_addTerms_37 : decode cX1_addTerms 37 = .ok (.iload 6, 2) := by decide +kernel
theorem dX1_addTerms_39 : decode cX1_addTerms 39 = .ok (.iload 7, 2) := by decide +kernel
theorem dX1_addTerms_41 : decode cX1_addTerms 41 = .ok (.iload_n 3, 1) := by decide +kernel
theorem dX1_addTerms_42 : decode cX1_addTerms 42 = .ok (.iload 4, 2) := by decide +kernel
theorem dX1_addTerms_44 : decode cX1_addTerms 44 = .ok (.invokevirtual 114, 3) := by decide +kernel
theorem dX1_addTerms_47 : decode cX1_addTerms 47 = .ok (.ifCond .ne 5, 3) := by decide +kernel
theorem dX1_addTerms_50 : decode cX1_addTerms 50 = .ok (.iconst 0, 1) := by decide +kernel
theorem dX1_addTerms_51 : decode cX1_addTerms 51 = .ok (.ireturn, 1) := by decide +kernel
theorem dX1_addTerms_52 : decode cX1_addTerms 52 = .ok (.iconst (-1), 1) := by decide +kernel
theorem dX1_addTerms_53 : decode cX1_addTerms 53 = .ok (.istore 6, 2) := by decide +kernel
theorem dX1_addTerms_55 : decode cX1_addTerms 55 = .ok (.aload 5, 2) := by decide +kernel
theorem dX1_addTerms_57 : decode cX1_addTerms 57 = .ok (.getfield 109, 3) := by decide +kernel
theorem dX1_addTerms_60 : decode cX1_addTerms 60 = .ok (.iload 8, 2) := by decide +kernel
theorem dX1_addTerms_62 : decode cX1_addTerms 62 = .ok (.iaload, 1) := by decide +kernel
theorem dX1_addTerms_63 : decode cX1_addTerms 63 = .ok (.iconst 1, 1) := by decide +kernel
theorem dX1_addTerms_64 : decode cX1_addTerms 64 = .ok (.if_icmp .ne 7, 3) := by decide +kernel
theorem dX1_addTerms_67 : decode cX1_addTerms 67 = .ok (.iconst (-1), 1) := by decide +kernel
theorem dX1_addTerms_68 : decode cX1_addTerms 68 = .ok (.goto 4, 3) := by decide +kernel
theorem dX1_addTerms_71 : decode cX1_addTerms 71 = .ok (.iconst 1, 1) := by decide +kernel
theorem dX1_addTerms_72 : decode cX1_addTerms 72 = .ok (.istore 7, 2) := by decide +kernel
theorem dX1_addTerms_74 : decode cX1_addTerms 74 = .ok (.aload 5, 2) := by decide +kernel
theorem dX1_addTerms_76 : decode cX1_addTerms 76 = .ok (.getfield 117, 3) := by decide +kernel
theorem dX1_addTerms_79 : decode cX1_addTerms 79 = .ok (.iload 8, 2) := by decide +kernel
theorem dX1_addTerms_81 : decode cX1_addTerms 81 = .ok (.iaload, 1) := by decide +kernel
theorem dX1_addTerms_82 : decode cX1_addTerms 82 = .ok (.istore 9, 2) := by decide +kernel
theorem dX1_addTerms_84 : decode cX1_addTerms 84 = .ok (.iload 9, 2) := by decide +kernel
theorem dX1_addTerms_86 : decode cX1_addTerms 86 = .ok (.ifCond .lt 17, 3) := by decide +kernel
theorem dX1_addTerms_89 : decode cX1_addTerms 89 = .ok (.iload 9, 2) := by decide +kernel
theorem dX1_addTerms_91 : decode cX1_addTerms 91 = .ok (.getstatic 120, 3) := by decide +kernel
theorem dX1_addTerms_94 : decode cX1_addTerms 94 = .ok (.iconst 3, 1) := by decide +kernel
theorem dX1_addTerms_95 : decode cX1_addTerms 95 = .ok (.iaload, 1) := by decide +kernel
theorem dX1_addTerms_96 : decode cX1_addTerms 96 = .ok (.if_icmp .ge 7, 3) := by decide +kernel
theorem dX1_addTerms_99 : decode cX1_addTerms 99 = .ok (.iconst 1, 1) := by decide +kernel
theorem dX1_addTerms_100 : decode cX1_addTerms 100 = .ok (.goto 4, 3) := by decide +kernel
theorem dX1_addTerms_103 : decode cX1_addTerms 103 = .ok (.iconst 0, 1) := by decide +kernel
theorem dX1_addTerms_104 : decode cX1_addTerms 104 = .ok (.istore 10, 2) := by decide +kernel
theorem dX1_addTerms_106 : decode cX1_addTerms 106 = .ok (.iload 10, 2) := by decide +kernel
theorem dX1_addTerms_108 : decode cX1_addTerms 108 = .ok (.ifCond .eq 10, 3) := by decide +kernel
theorem dX1_addTerms_111 : decode cX1_addTerms 111 = .ok (.iload 6, 2) := by decide +kernel
theorem dX1_addTerms_113 : decode cX1_addTerms 113 = .ok (.ifCond .lt 5, 3) := by decide +kernel
theorem dX1_addTerms_116 : decode cX1_addTerms 116 = .ok (.iconst 0, 1) := by decide +kernel
theorem dX1_addTerms_117 : decode cX1_addTerms 117 = .ok (.ireturn, 1) := by decide +kernel
theorem dX1_addTerms_118 : decode cX1_addTerms 118 = .ok (.iload 10, 2) := by decide +kernel
theorem dX1_addTerms_120 : decode cX1_addTerms 120 = .ok (.ifCond .eq 10, 3) := by decide +kernel
theorem dX1_addTerms_123 : decode cX1_addTerms 123 = .ok (.iload 9, 2) := by decide +kernel
theorem dX1_addTerms_125 : decode cX1_addTerms 125 = .ok (.istore 6, 2) := by decide +kernel
theorem dX1_addTerms_127 : decode cX1_addTerms 127 = .ok (.goto 48, 3) := by decide +kernel
theorem dX1_addTerms_130 : decode cX1_addTerms 130 = .ok (.iload 9, 2) := by decide +kernel
theorem dX1_addTerms_132 : decode cX1_addTerms 132 = .ok (.ifCond .ge 14, 3) := by decide +kernel
theorem dX1_addTerms_135 : decode cX1_addTerms 135 = .ok (.aload 5, 2) := by decide +kernel
theorem dX1_addTerms_137 : decode cX1_addTerms 137 = .ok (.getfield 123, 3) := by decide +kernel
theorem dX1_addTerms_140 : decode cX1_addTerms 140 = .ok (.iload 8, 2) := by decide +kernel
theorem dX1_addTerms_142 : decode cX1_addTerms 142 = .ok (.iaload, 1) := by decide +kernel
theorem dX1_addTerms_143 : decode cX1_addTerms 143 = .ok (.goto 13, 3) := by decide +kernel
theorem dX1_addTerms_146 : decode cX1_addTerms 146 = .ok (.aload_n 0, 1) := by decide +kernel
theorem dX1_addTerms_147 : decode cX1_addTerms 147 = .ok (.getfield 43, 3) := by decide +kernel
theorem dX1_addTerms_150 : decode cX1_addTerms 150 = .ok (.getfield 126, 3) := by decide +kernel
theorem dX1_addTerms_153 : decode cX1_addTerms 153 = .ok (.iload 9, 2) := by decide +kernel
theorem dX1_addTerms_155 : decode cX1_addTerms 155 = .ok (.iaload, 1) := by decide +kernel
theorem dX1_addTerms_156 : decode cX1_addTerms 156 = .ok (.istore 11, 2) := by decide +kernel
theorem dX1_addTerms_158 : decode cX1_addTerms 158 = .ok (.ldc 129, 2) := by decide +kernel
theorem dX1_addTerms_160 : decode cX1_addTerms 160 = .ok (.ldc 130, 2) := by decide +kernel
theorem dX1_addTerms_162 : decode cX1_addTerms 162 = .ok (.iload 7, 2) := by decide +kernel
theorem dX1_addTerms_164 : decode cX1_addTerms 164 = .ok (.iload 11, 2) := by decide +kernel
theorem dX1_addTerms_166 : decode cX1_addTerms 166 = .ok (.imul, 1) := by decide +kernel
theorem dX1_addTerms_167 : decode cX1_addTerms 167 = .ok (.invokestatic 131, 3) := by decide +kernel
theorem dX1_addTerms_170 : decode cX1_addTerms 170 = .ok (.invokestatic 137, 3) := by decide +kernel
theorem dX1_addTerms_173 : decode cX1_addTerms 173 = .ok (.istore 7, 2) := by decide +kernel
theorem dX1_addTerms_175 : decode cX1_addTerms 175 = .ok (.iinc 8 1, 3) := by decide +kernel
theorem dX1_addTerms_178 : decode cX1_addTerms 178 = .ok (.goto (-160), 3) := by decide +kernel
theorem dX1_addTerms_181 : decode cX1_addTerms 181 = .ok (.aload_n 0, 1) := by decide +kernel
theorem dX1_addTerms_182 : decode cX1_addTerms 182 = .ok (.iload 6, 2) := by decide +kernel
theorem dX1_addTerms_184 : decode cX1_addTerms 184 = .ok (.iload 7, 2) := by decide +kernel
theorem dX1_addTerms_186 : decode cX1_addTerms 186 = .ok (.iload_n 3, 1) := by decide +kernel
theorem dX1_addTerms_187 : decode cX1_addTerms 187 = .ok (.iload 4, 2) := by decide +kernel
theorem dX1_addTerms_189 : decode cX1_addTerms 189 = .ok (.invokevirtual 114, 3) := by decide +kernel
theorem dX1_addTerms_192 : decode cX1_addTerms 192 = .ok (.ireturn, 1) := by decide +kernel
def s_X1_addTerms_156 (k18 : Nat → Int32 → Int32 → Int32 → Nat → Int32 → Int32 → Int32 → aH → aO) (l0 : Nat) (l2 : Int32) (l3 : Int32) (l4 : Int32) (l5 : Nat) (l6 : Int32) (l7 : Int32) (l8 : Int32) (s0 : Int32) (h : aH) : aO :=
  k18 l0 l2 l3 l4 l5 l6 (jmax (-1000000) (jmin 1000000 (l7 * s0))) (l8 + 1) h
def s_X1_addTerms_118 (k18 : Nat → Int32 → Int32 → Int32 → Nat → Int32 → Int32 → Int32 → aH → aO) (l0 : Nat) (l2 : Int32) (l3 : Int32) (l4 : Int32) (l5 : Nat) (l6 : Int32) (l7 : Int32) (l8 : Int32) (l9 : Int32) (l10 : Int32) (h : aH) : aO :=
  if l10 = 0 then (if 0 ≤ l9 then ((gO h (.ref l0) 1 0).bind fun x147 => (gO h (.ref x147) 2 2).bind fun x150 => (ldI .int h (.ref x150) l9).bind fun x155 => s_X1_addTerms_156 k18 l0 l2 l3 l4 l5 l6 l7 l8 x155 h) else ((gO h (.ref l5) 0 3).bind fun x137 => (ldI .int h (.ref x137) l8).bind fun x142 => s_X1_addTerms_156 k18 l0 l2 l3 l4 l5 l6 l7 l8 x142 h)) else (k18 l0 l2 l3 l4 l5 l9 l7 (l8 + 1) h)
def s_X1_addTerms_104 (k18 : Nat → Int32 → Int32 → Int32 → Nat → Int32 → Int32 → Int32 → aH → aO) (l0 : Nat) (l2 : Int32) (l3 : Int32) (l4 : Int32) (l5 : Nat) (l6 : Int32) (l7 : Int32) (l8 : Int32) (l9 : Int32) (s0 : Int32) (h : aH) : aO :=
  if s0 = 0 then (s_X1_addTerms_118 k18 l0 l2 l3 l4 l5 l6 l7 l8 l9 s0 h) else (if l6 < 0 then (s_X1_addTerms_118 k18 l0 l2 l3 l4 l5 l6 l7 l8 l9 s0 h) else (rtZ 0 h))
def s_X1_addTerms_103 (k18 : Nat → Int32 → Int32 → Int32 → Nat → Int32 → Int32 → Int32 → aH → aO) (l0 : Nat) (l2 : Int32) (l3 : Int32) (l4 : Int32) (l5 : Nat) (l6 : Int32) (l7 : Int32) (l8 : Int32) (l9 : Int32) (h : aH) : aO :=
  s_X1_addTerms_104 k18 l0 l2 l3 l4 l5 l6 l7 l8 l9 0 h
def s_X1_addTerms_74 (k18 : Nat → Int32 → Int32 → Int32 → Nat → Int32 → Int32 → Int32 → aH → aO) (l0 : Nat) (l2 : Int32) (l3 : Int32) (l4 : Int32) (l5 : Nat) (l6 : Int32) (l7 : Int32) (l8 : Int32) (h : aH) : aO :=
  (gO h (.ref l5) 0 2).bind fun x76 => (ldI .int h (.ref x76) l8).bind fun x81 => if x81 < 0 then (s_X1_addTerms_103 k18 l0 l2 l3 l4 l5 l6 l7 l8 x81 h) else ((ldI .int h (.ref (aE + 1)) 3).bind fun x95 => if x95 ≤ x81 then (s_X1_addTerms_103 k18 l0 l2 l3 l4 l5 l6 l7 l8 x81 h) else (s_X1_addTerms_104 k18 l0 l2 l3 l4 l5 l6 l7 l8 x81 1 h))
def s_X1_addTerms_72 (k18 : Nat → Int32 → Int32 → Int32 → Nat → Int32 → Int32 → Int32 → aH → aO) (l0 : Nat) (l2 : Int32) (l3 : Int32) (l4 : Int32) (l5 : Nat) (l6 : Int32) (l8 : Int32) (s0 : Int32) (h : aH) : aO :=
  s_X1_addTerms_74 k18 l0 l2 l3 l4 l5 l6 s0 l8 h
def s_X1_addTerms_18_b  (k18 : Nat → Int32 → Int32 → Int32 → Nat → Int32 → Int32 → Int32 → aH → aO) (l0 : Nat) (l2 : Int32) (l3 : Int32) (l4 : Int32) (l5 : Nat) (l6 : Int32) (l7 : Int32) (l8 : Int32) (h : aH) : aO :=
  if l2 ≤ l8 then (kO h l0 1 (cI (s_X1_addTerm l0 l6 l7 l3 l4 h) fun x189 h189 => rtZ x189 h189)) else ((gO h (.ref l5) 0 1).bind fun x26 => (ldI .int h (.ref x26) l8).bind fun x31 => if x31 = 2 then (s_X1_addTerms_74 k18 l0 l2 l3 l4 l5 l6 l7 l8 h) else (kO h l0 1 (cI (s_X1_addTerm l0 l6 l7 l3 l4 h) fun x44 h44 => if x44 = 0 then (rtZ 0 h44) else ((gO h44 (.ref l5) 0 1).bind fun x57 => (ldI .int h44 (.ref x57) l8).bind fun x62 => if x62 = 1 then (s_X1_addTerms_72 k18 l0 l2 l3 l4 l5 (-1) l8 (-1) h44) else (s_X1_addTerms_72 k18 l0 l2 l3 l4 l5 (-1) l8 1 h44)))))
def s_X1_addTerms_18  (n : Nat) : Nat → Int32 → Int32 → Int32 → Nat → Int32 → Int32 → Int32 → aH → aO := lpF (fun _ _ _ _ _ _ _ _ _ => none) (s_X1_addTerms_18_b ) n
def s_X1_addTerms (o : Nat) (a1 : Int32) (a2 : Int32) (a3 : Int32) (a4 : Int32) (h : aH) : aO :=
  (gO h (.ref o) 1 0).bind fun x1 => (gO h (.ref x1) 2 16).bind fun x4 => s_X1_addTerms_18 FU o a2 a3 a4 x4 (-1) 0 a1 h
section
variable {p : Program} {l : Launch} {e : Env} {s : State} {m : MethodId} {args : Array Value} {below : List Frame} {meth : Method} {c : Code} {D : va_G} {B0 : Nat} {X : Nat → Nat} {ws0 : va_W} {r : aR} {h' : aH} {mc ms : Nat}
theorem t_X1_addTerms_156 (C : Cx p l s m args meth c B0 X RX1 "addTerms" cX1_addTerms 12 (some .boolean) []) {k18 : Nat → Int32 → Int32 → Int32 → Nat → Int32 → Int32 → Int32 → aH → aO} (K18 : ∀ (l0 : Nat) (l2 : Int32) (l3 : Int32) (l4 : Int32) (l5 : Nat) (l6 : Int32) (l7 : Int32) (l8 : Int32) (h : aH), k18 l0 l2 l3 l4 l5 l6 l7 l8 h = some (r, h') → Ev p l e { frames := 1, cells := mc, slots := ms, locals := 25 } s m args below meth c D B0 X ws0 r h' mc ms 12 mc ms 18 [some (.ref l0), none, some (.int l2), some (.int l3), some (.int l4), some (.ref l5), some (.int l6), some (.int l7), some (.int l8), none, none, none] [] h) {l0 : Nat} {l2 : Int32} {l3 : Int32} {l4 : Int32} {l5 : Nat} {l6 : Int32} {l7 : Int32} {l8 : Int32} {s0 : Int32} {h : aH} (hs : s_X1_addTerms_156 k18 l0 l2 l3 l4 l5 l6 l7 l8 s0 h = some (r, h')) : Ev p l e { frames := 1, cells := mc, slots := ms, locals := 25 } s m args below meth c D B0 X ws0 r h' mc ms 12 mc ms 156 [some (.ref l0), none, some (.int l2), some (.int l3), some (.int l4), some (.ref l5), some (.int l6), some (.int l7), some (.int l8), none, none, none] [.int s0] h := by
  unfold s_X1_addTerms_156 at hs
  refine ev_istore C (by decide) dX1_addTerms_156 ?_
  refine ev_ldc C wv_X1_129 dX1_addTerms_158 ?_
  refine ev_ldc C wv_X1_130 dX1_addTerms_160 ?_
  refine ev_iload C rfl dX1_addTerms_162 ?_
  refine ev_iload C rfl dX1_addTerms_164 ?_
  refine ev_imul C dX1_addTerms_166 ?_
  refine ev_mmin C wm_X1_131 wt_mmin wz_J9 wc_mmin (Nat.le_of_ble_eq_true rfl) (Nat.le_of_ble_eq_true rfl) (Nat.le_refl _) (Nat.le_refl _) dX1_addTerms_167 ?_
  refine ev_mmax C wm_X1_137 wt_mmax wz_J9 wc_mmax (Nat.le_of_ble_eq_true rfl) (Nat.le_of_ble_eq_true rfl) (Nat.le_refl _) (Nat.le_refl _) dX1_addTerms_170 ?_
  refine ev_istore C (by decide) dX1_addTerms_173 ?_
  refine ev_iinc C (i := 8) (n := 1) (x := l8) (v := l8 + 1) rfl (congrArg (fun z => l8 + z) (show Int32.ofInt 1 = 1 by decide)) (by decide) dX1_addTerms_175 ?_
  refine ev_goto C (tgt := 18) (by decide) dX1_addTerms_178 ?_
  exact Ev.keep [true, true, true, true, true, true, true, true, true, true, true, false] (K18 _ _ _ _ _ _ _ _ _ hs)
theorem t_X1_addTerms_118 (C : Cx p l s m args meth c B0 X RX1 "addTerms" cX1_addTerms 12 (some .boolean) []) {k18 : Nat → Int32 → Int32 → Int32 → Nat → Int32 → Int32 → Int32 → aH → aO} (K18 : ∀ (l0 : Nat) (l2 : Int32) (l3 : Int32) (l4 : Int32) (l5 : Nat) (l6 : Int32) (l7 : Int32) (l8 : Int32) (h : aH), k18 l0 l2 l3 l4 l5 l6 l7 l8 h = some (r, h') → Ev p l e { frames := 1, cells := mc, slots := ms, locals := 25 } s m args below meth c D B0 X ws0 r h' mc ms 12 mc ms 18 [some (.ref l0), none, some (.int l2), some (.int l3), some (.int l4), some (.ref l5), some (.int l6), some (.int l7), some (.int l8), none, none, none] [] h) {l0 : Nat} {l2 : Int32} {l3 : Int32} {l4 : Int32} {l5 : Nat} {l6 : Int32} {l7 : Int32} {l8 : Int32} {l9 : Int32} {l10 : Int32} {h : aH} (hs : s_X1_addTerms_118 k18 l0 l2 l3 l4 l5 l6 l7 l8 l9 l10 h = some (r, h')) : Ev p l e { frames := 1, cells := mc, slots := ms, locals := 25 } s m args below meth c D B0 X ws0 r h' mc ms 12 mc ms 118 [some (.ref l0), none, some (.int l2), some (.int l3), some (.int l4), some (.ref l5), some (.int l6), some (.int l7), some (.int l8), some (.int l9), some (.int l10), none] [] h := by
  unfold s_X1_addTerms_118 at hs
  refine ev_iload C rfl dX1_addTerms_118 ?_
  refine ev_if_eq C (tgt := 130) (by decide) dX1_addTerms_120 (fun q120 => ?_) (fun q120 => ?_)
  · replace hs := (if_pos q120).symm.trans hs
    refine ev_iload C rfl dX1_addTerms_130 ?_
    refine ev_if_ge C (tgt := 146) (by decide) dX1_addTerms_132 (fun q132 => ?_) (fun q132 => ?_)
    · replace hs := (if_pos q132).symm.trans hs
      refine ev_aload_n C (x := .ref l0) rfl trivial dX1_addTerms_146 ?_
      obtain ⟨x147, e147, hs⟩ := aB hs
      refine ev_get C (ci := 1) (k := 0) rfl wu_1 (by decide) wf_X1_43 (gO_F e147) dX1_addTerms_147 ?_
      obtain ⟨x150, e150, hs⟩ := aB hs
      refine ev_getN C (ci := 2) (k := 2) rfl wu_2 (by decide) wg_X1_126 (gO_F e150) dX1_addTerms_150 ?_
      refine ev_iload C rfl dX1_addTerms_153 ?_
      obtain ⟨x155, e155, hs⟩ := aB hs
      refine ev_iald C e155 dX1_addTerms_155 ?_
      exact Ev.keep [true, true, true, true, true, true, true, true, true, false, false, true] (t_X1_addTerms_156 C K18 hs)
    · replace hs := (if_neg q132).symm.trans hs
      refine ev_aload C (x := .ref l5) rfl trivial dX1_addTerms_135 ?_
      obtain ⟨x137, e137, hs⟩ := aB hs
      refine ev_getN C (ci := 0) (k := 3) rfl wu_0 (by decide) wg_X1_123 (gO_F e137) dX1_addTerms_137 ?_
      refine ev_iload C rfl dX1_addTerms_140 ?_
      obtain ⟨x142, e142, hs⟩ := aB hs
      refine ev_iald C e142 dX1_addTerms_142 ?_
      refine ev_goto C (tgt := 156) (by decide) dX1_addTerms_143 ?_
      exact Ev.keep [true, true, true, true, true, true, true, true, true, false, false, true] (t_X1_addTerms_156 C K18 hs)
  · replace hs := (if_neg q120).symm.trans hs
    refine ev_iload C rfl dX1_addTerms_123 ?_
    refine ev_istore C (by decide) dX1_addTerms_125 ?_
    refine ev_goto C (tgt := 175) (by decide) dX1_addTerms_127 ?_
    refine ev_iinc C (i := 8) (n := 1) (x := l8) (v := l8 + 1) rfl (congrArg (fun z => l8 + z) (show Int32.ofInt 1 = 1 by decide)) (by decide) dX1_addTerms_175 ?_
    refine ev_goto C (tgt := 18) (by decide) dX1_addTerms_178 ?_
    exact Ev.keep [true, true, true, true, true, true, true, true, true, false, false, true] (K18 _ _ _ _ _ _ _ _ _ hs)
theorem t_X1_addTerms_104 (C : Cx p l s m args meth c B0 X RX1 "addTerms" cX1_addTerms 12 (some .boolean) []) {k18 : Nat → Int32 → Int32 → Int32 → Nat → Int32 → Int32 → Int32 → aH → aO} (K18 : ∀ (l0 : Nat) (l2 : Int32) (l3 : Int32) (l4 : Int32) (l5 : Nat) (l6 : Int32) (l7 : Int32) (l8 : Int32) (h : aH), k18 l0 l2 l3 l4 l5 l6 l7 l8 h = some (r, h') → Ev p l e { frames := 1, cells := mc, slots := ms, locals := 25 } s m args below meth c D B0 X ws0 r h' mc ms 12 mc ms 18 [some (.ref l0), none, some (.int l2), some (.int l3), some (.int l4), some (.ref l5), some (.int l6), some (.int l7), some (.int l8), none, none, none] [] h) {l0 : Nat} {l2 : Int32} {l3 : Int32} {l4 : Int32} {l5 : Nat} {l6 : Int32} {l7 : Int32} {l8 : Int32} {l9 : Int32} {s0 : Int32} {h : aH} (hs : s_X1_addTerms_104 k18 l0 l2 l3 l4 l5 l6 l7 l8 l9 s0 h = some (r, h')) : Ev p l e { frames := 1, cells := mc, slots := ms, locals := 25 } s m args below meth c D B0 X ws0 r h' mc ms 12 mc ms 104 [some (.ref l0), none, some (.int l2), some (.int l3), some (.int l4), some (.ref l5), some (.int l6), some (.int l7), some (.int l8), some (.int l9), none, none] [.int s0] h := by
  unfold s_X1_addTerms_104 at hs
  refine ev_istore C (by decide) dX1_addTerms_104 ?_
  refine ev_iload C rfl dX1_addTerms_106 ?_
  refine ev_if_eq C (tgt := 118) (by decide) dX1_addTerms_108 (fun q108 => ?_) (fun q108 => ?_)
  · replace hs := (if_pos q108).symm.trans hs
    exact (t_X1_addTerms_118 C K18 hs)
  · replace hs := (if_neg q108).symm.trans hs
    refine ev_iload C rfl dX1_addTerms_111 ?_
    refine ev_if_lt C (tgt := 118) (by decide) dX1_addTerms_113 (fun q113 => ?_) (fun q113 => ?_)
    · replace hs := (if_pos q113).symm.trans hs
      exact (t_X1_addTerms_118 C K18 hs)
    · replace hs := (if_neg q113).symm.trans hs
      refine ev_iconst C (v := 0) dX1_addTerms_116 (by decide) ?_
      obtain ⟨hz, rfl, rfl⟩ := rtZ_at hs
      exact ev_zret C rfl hz rfl (Nat.le_refl _) (Nat.le_refl _) rfl dX1_addTerms_117
theorem t_X1_addTerms_103 (C : Cx p l s m args meth c B0 X RX1 "addTerms" cX1_addTerms 12 (some .boolean) []) {k18 : Nat → Int32 → Int32 → Int32 → Nat → Int32 → Int32 → Int32 → aH → aO} (K18 : ∀ (l0 : Nat) (l2 : Int32) (l3 : Int32) (l4 : Int32) (l5 : Nat) (l6 : Int32) (l7 : Int32) (l8 : Int32) (h : aH), k18 l0 l2 l3 l4 l5 l6 l7 l8 h = some (r, h') → Ev p l e { frames := 1, cells := mc, slots := ms, locals := 25 } s m args below meth c D B0 X ws0 r h' mc ms 12 mc ms 18 [some (.ref l0), none, some (.int l2), some (.int l3), some (.int l4), some (.ref l5), some (.int l6), some (.int l7), some (.int l8), none, none, none] [] h) {l0 : Nat} {l2 : Int32} {l3 : Int32} {l4 : Int32} {l5 : Nat} {l6 : Int32} {l7 : Int32} {l8 : Int32} {l9 : Int32} {h : aH} (hs : s_X1_addTerms_103 k18 l0 l2 l3 l4 l5 l6 l7 l8 l9 h = some (r, h')) : Ev p l e { frames := 1, cells := mc, slots := ms, locals := 25 } s m args below meth c D B0 X ws0 r h' mc ms 12 mc ms 103 [some (.ref l0), none, some (.int l2), some (.int l3), some (.int l4), some (.ref l5), some (.int l6), some (.int l7), some (.int l8), some (.int l9), none, none] [] h := by
  unfold s_X1_addTerms_103 at hs
  refine ev_iconst C (v := 0) dX1_addTerms_103 (by decide) ?_
  exact (t_X1_addTerms_104 C K18 hs)
theorem t_X1_addTerms_74 (C : Cx p l s m args meth c B0 X RX1 "addTerms" cX1_addTerms 12 (some .boolean) []) {k18 : Nat → Int32 → Int32 → Int32 → Nat → Int32 → Int32 → Int32 → aH → aO} (K18 : ∀ (l0 : Nat) (l2 : Int32) (l3 : Int32) (l4 : Int32) (l5 : Nat) (l6 : Int32) (l7 : Int32) (l8 : Int32) (h : aH), k18 l0 l2 l3 l4 l5 l6 l7 l8 h = some (r, h') → Ev p l e { frames := 1, cells := mc, slots := ms, locals := 25 } s m args below meth c D B0 X ws0 r h' mc ms 12 mc ms 18 [some (.ref l0), none, some (.int l2), some (.int l3), some (.int l4), some (.ref l5), some (.int l6), some (.int l7), some (.int l8), none, none, none] [] h) {l0 : Nat} {l2 : Int32} {l3 : Int32} {l4 : Int32} {l5 : Nat} {l6 : Int32} {l7 : Int32} {l8 : Int32} {h : aH} (hs : s_X1_addTerms_74 k18 l0 l2 l3 l4 l5 l6 l7 l8 h = some (r, h')) : Ev p l e { frames := 1, cells := mc, slots := ms, locals := 25 } s m args below meth c D B0 X ws0 r h' mc ms 12 mc ms 74 [some (.ref l0), none, some (.int l2), some (.int l3), some (.int l4), some (.ref l5), some (.int l6), some (.int l7), some (.int l8), none, none, none] [] h := by
  unfold s_X1_addTerms_74 at hs
  refine ev_aload C (x := .ref l5) rfl trivial dX1_addTerms_74 ?_
  obtain ⟨x76, e76, hs⟩ := aB hs
  refine ev_getN C (ci := 0) (k := 2) rfl wu_0 (by decide) wg_X1_117 (gO_F e76) dX1_addTerms_76 ?_
  refine ev_iload C rfl dX1_addTerms_79 ?_
  obtain ⟨x81, e81, hs⟩ := aB hs
  refine ev_iald C e81 dX1_addTerms_81 ?_
  refine ev_istore C (by decide) dX1_addTerms_82 ?_
  refine ev_iload C rfl dX1_addTerms_84 ?_
  refine ev_if_lt C (tgt := 103) (by decide) dX1_addTerms_86 (fun q86 => ?_) (fun q86 => ?_)
  · replace hs := (if_pos q86).symm.trans hs
    exact (t_X1_addTerms_103 C K18 hs)
  · replace hs := (if_neg q86).symm.trans hs
    refine ev_iload C rfl dX1_addTerms_89 ?_
    refine ev_getsBASEN C wg_X1_120 dX1_addTerms_91 ?_
    refine ev_iconst C (v := 3) dX1_addTerms_94 (by decide) ?_
    obtain ⟨x95, e95, hs⟩ := aB hs
    refine ev_iald C e95 dX1_addTerms_95 ?_
    refine ev_icmp_ge C (tgt := 103) (by decide) dX1_addTerms_96 (fun q96 => ?_) (fun q96 => ?_)
    · replace hs := (if_pos q96).symm.trans hs
      exact (t_X1_addTerms_103 C K18 hs)
    · replace hs := (if_neg q96).symm.trans hs
      refine ev_iconst C (v := 1) dX1_addTerms_99 (by decide) ?_
      refine ev_goto C (tgt := 104) (by decide) dX1_addTerms_100 ?_
      exact (t_X1_addTerms_104 C K18 hs)
theorem t_X1_addTerms_72 (C : Cx p l s m args meth c B0 X RX1 "addTerms" cX1_addTerms 12 (some .boolean) []) {k18 : Nat → Int32 → Int32 → Int32 → Nat → Int32 → Int32 → Int32 → aH → aO} (K18 : ∀ (l0 : Nat) (l2 : Int32) (l3 : Int32) (l4 : Int32) (l5 : Nat) (l6 : Int32) (l7 : Int32) (l8 : Int32) (h : aH), k18 l0 l2 l3 l4 l5 l6 l7 l8 h = some (r, h') → Ev p l e { frames := 1, cells := mc, slots := ms, locals := 25 } s m args below meth c D B0 X ws0 r h' mc ms 12 mc ms 18 [some (.ref l0), none, some (.int l2), some (.int l3), some (.int l4), some (.ref l5), some (.int l6), some (.int l7), some (.int l8), none, none, none] [] h) {l0 : Nat} {l2 : Int32} {l3 : Int32} {l4 : Int32} {l5 : Nat} {l6 : Int32} {l8 : Int32} {s0 : Int32} {h : aH} (hs : s_X1_addTerms_72 k18 l0 l2 l3 l4 l5 l6 l8 s0 h = some (r, h')) : Ev p l e { frames := 1, cells := mc, slots := ms, locals := 25 } s m args below meth c D B0 X ws0 r h' mc ms 12 mc ms 72 [some (.ref l0), none, some (.int l2), some (.int l3), some (.int l4), some (.ref l5), some (.int l6), none, some (.int l8), none, none, none] [.int s0] h := by
  unfold s_X1_addTerms_72 at hs
  refine ev_istore C (by decide) dX1_addTerms_72 ?_
  exact (t_X1_addTerms_74 C K18 hs)
theorem t_X1_addTerms_18_b (C : Cx p l s m args meth c B0 X RX1 "addTerms" cX1_addTerms 12 (some .boolean) [])   {k18 : Nat → Int32 → Int32 → Int32 → Nat → Int32 → Int32 → Int32 → aH → aO} (K18 : ∀ (l0 : Nat) (l2 : Int32) (l3 : Int32) (l4 : Int32) (l5 : Nat) (l6 : Int32) (l7 : Int32) (l8 : Int32) (h : aH), k18 l0 l2 l3 l4 l5 l6 l7 l8 h = some (r, h') → Ev p l e { frames := 1, cells := mc, slots := ms, locals := 25 } s m args below meth c D B0 X ws0 r h' mc ms 12 mc ms 18 [some (.ref l0), none, some (.int l2), some (.int l3), some (.int l4), some (.ref l5), some (.int l6), some (.int l7), some (.int l8), none, none, none] [] h) {l0 : Nat} {l2 : Int32} {l3 : Int32} {l4 : Int32} {l5 : Nat} {l6 : Int32} {l7 : Int32} {l8 : Int32} {h : aH} (hs : s_X1_addTerms_18_b  k18 l0 l2 l3 l4 l5 l6 l7 l8 h = some (r, h')) : Ev p l e { frames := 1, cells := mc, slots := ms, locals := 25 } s m args below meth c D B0 X ws0 r h' mc ms 12 mc ms 18 [some (.ref l0), none, some (.int l2), some (.int l3), some (.int l4), some (.ref l5), some (.int l6), some (.int l7), some (.int l8), none, none, none] [] h := by
  unfold s_X1_addTerms_18_b at hs
  refine ev_iload C rfl dX1_addTerms_18 ?_
  refine ev_iload_n C rfl dX1_addTerms_20 ?_
  refine ev_icmp_ge C (tgt := 181) (by decide) dX1_addTerms_21 (fun q21 => ?_) (fun q21 => ?_)
  · replace hs := (if_pos q21).symm.trans hs
    refine ev_aload_n C (x := .ref l0) rfl trivial dX1_addTerms_181 ?_
    refine ev_iload C rfl dX1_addTerms_182 ?_
    refine ev_iload C rfl dX1_addTerms_184 ?_
    refine ev_iload_n C rfl dX1_addTerms_186 ?_
    refine ev_iload C rfl dX1_addTerms_187 ?_
    obtain ⟨eo189, hs⟩ := kO_at hs
    obtain ⟨x189, h189, e189, hs⟩ := cI_at hs
    refine ev_callV C (T_X1_addTerm _ _ _ _ _ _ _ _ e189) (ci := 1) rfl eo189 wc_X1_addTerm wm_X1_114 wi_X1_addTerm ws_X1_addTerm wz_X1 hy_X1_addTerm ⟨(Nat.le_of_ble_eq_true rfl), (Nat.le_of_ble_eq_true rfl)⟩ ⟨(Nat.le_refl _), (Nat.le_refl _)⟩ (Nat.le_of_ble_eq_true rfl) rfl dX1_addTerms_189 ?_
    obtain ⟨hz, rfl, rfl⟩ := rtZ_at hs
    exact ev_zret C rfl hz rfl (Nat.le_refl _) (Nat.le_refl _) rfl dX1_addTerms_192
  · replace hs := (if_neg q21).symm.trans hs
    refine ev_aload C (x := .ref l5) rfl trivial dX1_addTerms_24 ?_
    obtain ⟨x26, e26, hs⟩ := aB hs
    refine ev_getN C (ci := 0) (k := 1) rfl wu_0 (by decide) wg_X1_109 (gO_F e26) dX1_addTerms_26 ?_
    refine ev_iload C rfl dX1_addTerms_29 ?_
    obtain ⟨x31, e31, hs⟩ := aB hs
    refine ev_iald C e31 dX1_addTerms_31 ?_
    refine ev_iconst C (v := 2) dX1_addTerms_32 (by decide) ?_
    refine ev_icmp_eq C (tgt := 74) (by decide) dX1_addTerms_33 (fun q33 => ?_) (fun q33 => ?_)
    · replace hs := (if_pos q33).symm.trans hs
      exact (t_X1_addTerms_74 C K18 hs)
    · replace hs := (if_neg q33).symm.trans hs
      refine ev_aload_n C (x := .ref l0) rfl trivial dX1_addTerms_36 ?_
      refine ev_iload C rfl dX1_addTerms_37 ?_
      refine ev_iload C rfl dX1_addTerms_39 ?_
      refine ev_iload_n C rfl dX1_addTerms_41 ?_
      refine ev_iload C rfl dX1_addTerms_42 ?_
      obtain ⟨eo44, hs⟩ := kO_at hs
      obtain ⟨x44, h44, e44, hs⟩ := cI_at hs
      refine ev_callV C (T_X1_addTerm _ _ _ _ _ _ _ _ e44) (ci := 1) rfl eo44 wc_X1_addTerm wm_X1_114 wi_X1_addTerm ws_X1_addTerm wz_X1 hy_X1_addTerm ⟨(Nat.le_of_ble_eq_true rfl), (Nat.le_of_ble_eq_true rfl)⟩ ⟨(Nat.le_refl _), (Nat.le_refl _)⟩ (Nat.le_of_ble_eq_true rfl) rfl dX1_addTerms_44 ?_
      refine ev_if_ne C (tgt := 52) (by decide) dX1_addTerms_47 (fun q47 => ?_) (fun q47 => ?_)
      · replace hs := (if_neg q47).symm.trans hs
        refine ev_iconst C (v := (-1)) dX1_addTerms_52 (by decide) ?_
        refine ev_istore C (by decide) dX1_addTerms_53 ?_
        refine ev_aload C (x := .ref l5) rfl trivial dX1_addTerms_55 ?_
        obtain ⟨x57, e57, hs⟩ := aB hs
        refine ev_getN C (ci := 0) (k := 1) rfl wu_0 (by decide) wg_X1_109 (gO_F e57) dX1_addTerms_57 ?_
        refine ev_iload C rfl dX1_addTerms_60 ?_
        obtain ⟨x62, e62, hs⟩ := aB hs
        refine ev_iald C e62 dX1_addTerms_62 ?_
        refine ev_iconst C (v := 1) dX1_addTerms_63 (by decide) ?_
        refine ev_icmp_ne C (tgt := 71) (by decide) dX1_addTerms_64 (fun q64 => ?_) (fun q64 => ?_)
        · replace hs := (if_neg q64).symm.trans hs
          refine ev_iconst C (v := 1) dX1_addTerms_71 (by decide) ?_
          exact Ev.keep [true, true, true, true, true, true, true, false, true, true, true, true] (t_X1_addTerms_72 C K18 hs)
        · replace hs := (if_pos q64).symm.trans hs
          refine ev_iconst C (v := (-1)) dX1_addTerms_67 (by decide) ?_
          refine ev_goto C (tgt := 72) (by decide) dX1_addTerms_68 ?_
          exact Ev.keep [true, true, true, true, true, true, true, false, true, true, true, true] (t_X1_addTerms_72 C K18 hs)
      · replace hs := (if_pos q47).symm.trans hs
        refine ev_iconst C (v := 0) dX1_addTerms_50 (by decide) ?_
        obtain ⟨hz, rfl, rfl⟩ := rtZ_at hs
        exact ev_zret C rfl hz rfl (Nat.le_refl _) (Nat.le_refl _) rfl dX1_addTerms_51
theorem t_X1_addTerms_18 (C : Cx p l s m args meth c B0 X RX1 "addTerms" cX1_addTerms 12 (some .boolean) [])   : ∀ (n : Nat) {l0 : Nat} {l2 : Int32} {l3 : Int32} {l4 : Int32} {l5 : Nat} {l6 : Int32} {l7 : Int32} {l8 : Int32} {h : aH} (hs : s_X1_addTerms_18  n l0 l2 l3 l4 l5 l6 l7 l8 h = some (r, h')), Ev p l e { frames := 1, cells := mc, slots := ms, locals := 25 } s m args below meth c D B0 X ws0 r h' mc ms 12 mc ms 18 [some (.ref l0), none, some (.int l2), some (.int l3), some (.int l4), some (.ref l5), some (.int l6), some (.int l7), some (.int l8), none, none, none] [] h
  | 0, _, _, _, _, _, _, _, _, _, hs => nomatch hs
  | n + 1, _, _, _, _, _, _, _, _, _, hs => t_X1_addTerms_18_b C  (k18 := s_X1_addTerms_18  n) (fun _ _ _ _ _ _ _ _ _ hs => t_X1_addTerms_18 C  n hs) hs
theorem hy_X1_addTerms : yX1_addTerms.cls ≠ "java/lang/invoke/MethodHandle" ∧ yX1_addTerms.cls ≠ "java/lang/invoke/VarHandle" ∧ (parseMethodDescriptor yX1_addTerms.desc).map (fun d => d.parameters.length) = some 4 := by decide +kernel
theorem T_X1_addTerms (o : Nat) (a1 : Int32) (a2 : Int32) (a3 : Int32) (a4 : Int32) (h : aH) (r : aR) (h' : aH) (hs : s_X1_addTerms o a1 a2 a3 a4 h = some (r, h')) : Mt yX1_addTerms (Cond.code yX1_addTerms cX1_addTerms 12 (some .boolean) :: aTB) 1 25 0 0 [.ref o, .int a1, .int a2, .int a3, .int a4] h r h' := by
  unfold s_X1_addTerms at hs
  refine Mt_of (k := 7) (by decide) rfl (fun p l e s m args below meth c D B0 X ws0 C => ?_)
  show Ev p l e { frames := 1, cells := 0, slots := 0, locals := 25 } s m args below meth c D B0 X ws0 r h' 0 0 12 0 0 0 [some (.ref o), some (.int a1), some (.int a2), some (.int a3), some (.int a4), none, none, none, none, none, none, none] [] h
  refine ev_aload_n C (x := .ref o) rfl trivial dX1_addTerms_0 ?_
  obtain ⟨x1, e1, hs⟩ := aB hs
  refine ev_get C (ci := 1) (k := 0) rfl wu_1 (by decide) wf_X1_43 (gO_F e1) dX1_addTerms_1 ?_
  obtain ⟨x4, e4, hs⟩ := aB hs
  refine ev_getN C (ci := 2) (k := 16) rfl wu_2 (by decide) wg_X1_105 (gO_F e4) dX1_addTerms_4 ?_
  refine ev_astore C (x := .ref x4) trivial (by decide) dX1_addTerms_7 ?_
  refine ev_iconst C (v := (-1)) dX1_addTerms_9 (by decide) ?_
  refine ev_istore C (by decide) dX1_addTerms_10 ?_
  refine ev_iconst C (v := 0) dX1_addTerms_12 (by decide) ?_
  refine ev_istore C (by decide) dX1_addTerms_13 ?_
  refine ev_iload_n C rfl dX1_addTerms_15 ?_
  refine ev_istore C (by decide) dX1_addTerms_16 ?_
  exact Ev.keep [true, false, true, true, true, true, true, true, true, true, true, true] (t_X1_addTerms_18 C  FU hs)
end
-- X1_allNear
theorem dX1_allNear_0 : decode cX1_allNear 0 = .ok (.aload_n 0, 1) := by decide +kernel
theorem dX1_allNear_1 : decode cX1_allNear 1 = .ok (.astore_n 1, 1) := by decide +kernel
theorem dX1_allNear_2 : decode cX1_allNear 2 = .ok (.aload_n 1, 1) := by decide +kernel
theorem dX1_allNear_3 : decode cX1_allNear 3 = .ok (.arraylength, 1) := by decide +kernel
theorem dX1_allNear_4 : decode cX1_allNear 4 = .ok (.istore_n 2, 1) := by decide +kernel
theorem dX1_allNear_5 : decode cX1_allNear 5 = .ok (.iconst 0, 1) := by decide +kernel
theorem dX1_allNear_6 : decode cX1_allNear 6 = .ok (.istore_n 3, 1) := by decide +kernel
theorem dX1_allNear_7 : decode cX1_allNear 7 = .ok (.iload_n 3, 1) := by decide +kernel
theorem dX1_allNear_8 : decode cX1_allNear 8 = .ok (.iload_n 2, 1) := by decide +kernel
theorem dX1_allNear_9 : decode cX1_allNear 9 = .ok (.if_icmp .ge 30, 3) := by decide +kernel
theorem dX1_allNear_12 : decode cX1_allNear 12 = .ok (.aload_n 1, 1) := by decide +kernel
theorem dX1_allNear_13 : decode cX1_allNear 13 = .ok (.iload_n 3, 1) := by decide +kernel
theorem dX1_allNear_14 : decode cX1_allNear 14 = .ok (.iaload, 1) := by decide +kernel
theorem dX1_allNear_15 : decode cX1_allNear 15 = .ok (.istore 4, 2) := by decide +kernel
theorem dX1_allNear_17 : decode cX1_allNear 17 = .ok (.iload 4, 2) := by decide +kernel
theorem dX1_allNear_19 : decode cX1_allNear 19 = .ok (.bipush (-20), 2) := by decide +kernel
theorem dX1_allNear_21 : decode cX1_allNear 21 = .ok (.if_icmp .lt 10, 3) := by decide +kernel
theorem dX1_allNear_24 : decode cX1_allNear 24 = .ok (.iload 4, 2) := by decide +kernel
theorem dX1_allNear_26 : decode cX1_allNear 26 = .ok (.bipush 20, 2) := by decide +kernel
theorem dX1_allNear_28 : decode cX1_allNear 28 = .ok (.if_icmp .le 5, 3) := by decide +kernel
theorem dX1_allNear_31 : decode cX1_allNear 31 = .ok (.iconst 0, 1) := by decide +kernel
theorem dX1_allNear_32 : decode cX1_allNear 32 = .ok (.ireturn, 1) := by decide +kernel
theorem dX1_allNear_33 : decode cX1_allNear 33 = .ok (.iinc 3 1, 3) := by decide +kernel
theorem dX1_allNear_36 : decode cX1_allNear 36 = .ok (.goto (-29), 3) := by decide +kernel
theorem dX1_allNear_39 : decode cX1_allNear 39 = .ok (.iconst 1, 1) := by decide +kernel
theorem dX1_allNear_40 : decode cX1_allNear 40 = .ok (.ireturn, 1) := by decide +kernel
def s_X1_allNear_7_b  (k7 : Nat → Int32 → Int32 → aH → aO) (l1 : Nat) (l2 : Int32) (l3 : Int32) (h : aH) : aO :=
  if l2 ≤ l3 then (rtZ 1 h) else ((ldI .int h (.ref l1) l3).bind fun x14 => if x14 < (-20) then (rtZ 0 h) else (if x14 ≤ 20 then (k7 l1 l2 (l3 + 1) h) else (rtZ 0 h)))
def s_X1_allNear_7  (n : Nat) : Nat → Int32 → Int32 → aH → aO := lpF (fun _ _ _ _ => none) (s_X1_allNear_7_b ) n
def s_X1_allNear (a1 : Nat) (h : aH) : aO :=
  (lnA h (.ref a1)).bind fun x3 => s_X1_allNear_7 FU a1 x3 0 h
section
variable {p : Program} {l : Launch} {e : Env} {s : State} {m : MethodId} {args : Array Value} {below : List Frame} {meth : Method} {c : Code} {D : va_G} {B0 : Nat} {X : Nat → Nat} {ws0 : va_W} {r : aR} {h' : aH} {mc ms : Nat}
theorem t_X1_allNear_7_b (C : Cx p l s m args meth c B0 X RX1 "allNear" cX1_allNear 5 (some .boolean) [])   {k7 : Nat → Int32 → Int32 → aH → aO} (K7 : ∀ (l1 : Nat) (l2 : Int32) (l3 : Int32) (h : aH), k7 l1 l2 l3 h = some (r, h') → Ev p l e { frames := 0, cells := mc, slots := ms, locals := 0 } s m args below meth c D B0 X ws0 r h' mc ms 5 mc ms 7 [none, some (.ref l1), some (.int l2), some (.int l3), none] [] h) {l1 : Nat} {l2 : Int32} {l3 : Int32} {h : aH} (hs : s_X1_allNear_7_b  k7 l1 l2 l3 h = some (r, h')) : Ev p l e { frames := 0, cells := mc, slots := ms, locals := 0 } s m args below meth c D B0 X ws0 r h' mc ms 5 mc ms 7 [none, some (.ref l1), some (.int l2), some (.int l3), none] [] h := by
  unfold s_X1_allNear_7_b at hs
  refine ev_iload_n C rfl dX1_allNear_7 ?_
  refine ev_iload_n C rfl dX1_allNear_8 ?_
  refine ev_icmp_ge C (tgt := 39) (by decide) dX1_allNear_9 (fun q9 => ?_) (fun q9 => ?_)
  · replace hs := (if_pos q9).symm.trans hs
    refine ev_iconst C (v := 1) dX1_allNear_39 (by decide) ?_
    obtain ⟨hz, rfl, rfl⟩ := rtZ_at hs
    exact ev_zret C rfl hz rfl (Nat.le_refl _) (Nat.le_refl _) rfl dX1_allNear_40
  · replace hs := (if_neg q9).symm.trans hs
    refine ev_aload_n C (x := .ref l1) rfl trivial dX1_allNear_12 ?_
    refine ev_iload_n C rfl dX1_allNear_13 ?_
    obtain ⟨x14, e14, hs⟩ := aB hs
    refine ev_iald C e14 dX1_allNear_14 ?_
    refine ev_istore C (by decide) dX1_allNear_15 ?_
    refine ev_iload C rfl dX1_allNear_17 ?_
    refine ev_bipush C (v := (-20)) dX1_allNear_19 (by decide) ?_
    refine ev_icmp_lt C (tgt := 31) (by decide) dX1_allNear_21 (fun q21 => ?_) (fun q21 => ?_)
    · replace hs := (if_pos q21).symm.trans hs
      refine ev_iconst C (v := 0) dX1_allNear_31 (by decide) ?_
      obtain ⟨hz, rfl, rfl⟩ := rtZ_at hs
      exact ev_zret C rfl hz rfl (Nat.le_refl _) (Nat.le_refl _) rfl dX1_allNear_32
    · replace hs := (if_neg q21).symm.trans hs
      refine ev_iload C rfl dX1_allNear_24 ?_
      refine ev_bipush C (v := 20) dX1_allNear_26 (by decide) ?_
      refine ev_icmp_le C (tgt := 33) (by decide) dX1_allNear_28 (fun q28 => ?_) (fun q28 => ?_)
      · replace hs := (if_pos q28).symm.trans hs
        refine ev_iinc C (i := 3) (n := 1) (x := l3) (v := l3 + 1) rfl (congrArg (fun z => l3 + z) (show Int32.ofInt 1 = 1 by decide)) (by decide) dX1_allNear_33 ?_
        refine ev_goto C (tgt := 7) (by decide) dX1_allNear_36 ?_
        exact Ev.keep [true, true, true, true, false] (K7 _ _ _ _ hs)
      · replace hs := (if_neg q28).symm.trans hs
        refine ev_iconst C (v := 0) dX1_allNear_31 (by decide) ?_
        obtain ⟨hz, rfl, rfl⟩ := rtZ_at hs
        exact ev_zret C rfl hz rfl (Nat.le_refl _) (Nat.le_refl _) rfl dX1_allNear_32
theorem t_X1_allNear_7 (C : Cx p l s m args meth c B0 X RX1 "allNear" cX1_allNear 5 (some .boolean) [])   : ∀ (n : Nat) {l1 : Nat} {l2 : Int32} {l3 : Int32} {h : aH} (hs : s_X1_allNear_7  n l1 l2 l3 h = some (r, h')), Ev p l e { frames := 0, cells := mc, slots := ms, locals := 0 } s m args below meth c D B0 X ws0 r h' mc ms 5 mc ms 7 [none, some (.ref l1), some (.int l2), some (.int l3), none] [] h
  | 0, _, _, _, _, hs => nomatch hs
  | n + 1, _, _, _, _, hs => t_X1_allNear_7_b C  (k7 := s_X1_allNear_7  n) (fun _ _ _ _ hs => t_X1_allNear_7 C  n hs) hs
theorem hy_X1_allNear : yX1_allNear.cls ≠ "java/lang/invoke/MethodHandle" ∧ yX1_allNear.cls ≠ "java/lang/invoke/VarHandle" ∧ (parseMethodDescriptor yX1_allNear.desc).map (fun d => d.parameters.length) = some 1 := by decide +kernel
theorem T_X1_allNear (a1 : Nat) (h : aH) (r : aR) (h' : aH) (hs : s_X1_allNear a1 h = some (r, h')) : Mt yX1_allNear (Cond.code yX1_allNear cX1_allNear 5 (some .boolean) :: aTB) 0 0 0 0 [.ref a1] h r h' := by
  unfold s_X1_allNear at hs
  refine Mt_of (k := 4) (by decide) rfl (fun p l e s m args below meth c D B0 X ws0 C => ?_)
  show Ev p l e { frames := 0, cells := 0, slots := 0, locals := 0 } s m args below meth c D B0 X ws0 r h' 0 0 5 0 0 0 [some (.ref a1), none, none, none, none] [] h
  refine ev_aload_n C (x := .ref a1) rfl trivial dX1_allNear_0 ?_
  refine ev_astore_n C (x := .ref a1) trivial (by decide) dX1_allNear_1 ?_
  refine ev_aload_n C (x := .ref a1) rfl trivial dX1_allNear_2 ?_
  obtain ⟨x3, e3, hs⟩ := aB hs
  refine ev_alen C e3 dX1_allNear_3 ?_
  refine ev_istore_n C (by decide) dX1_allNear_4 ?_
  refine ev_iconst C (v := 0) dX1_allNear_5 (by decide) ?_
  refine ev_istore_n C (by decide) dX1_allNear_6 ?_
  exact Ev.keep [false, true, true, true, true] (t_X1_allNear_7 C  FU hs)
end
-- X1_look
theorem dX1_look_0 : decode cX1_look 0 = .ok (.aload_n 0, 1) := by decide +kernel
theorem dX1_look_1 : decode cX1_look 1 = .ok (.getfield 9, 3) := by decide +kernel
theorem dX1_look_4 : decode cX1_look 4 = .ok (.iconst 0, 1) := by decide +kernel
theorem dX1_look_5 : decode cX1_look 5 = .ok (.invokestatic 61, 3) := by decide +kernel
theorem dX1_look_8 : decode cX1_look 8 = .ok (.aload_n 0, 1) := by decide +kernel
theorem dX1_look_9 : decode cX1_look 9 = .ok (.getfield 15, 3) := by decide +kernel
theorem dX1_look_12 : decode cX1_look 12 = .ok (.iconst 0, 1) := by decide +kernel
theorem dX1_look_13 : decode cX1_look 13 = .ok (.invokestatic 61, 3) := by decide +kernel
theorem dX1_look_16 : decode cX1_look 16 = .ok (.aload_n 0, 1) := by decide +kernel
theorem dX1_look_17 : decode cX1_look 17 = .ok (.getfield 18, 3) := by decide +kernel
theorem dX1_look_20 : decode cX1_look 20 = .ok (.iconst 0, 1) := by decide +kernel
theorem dX1_look_21 : decode cX1_look 21 = .ok (.invokestatic 61, 3) := by decide +kernel
theorem dX1_look_24 : decode cX1_look 24 = .ok (.iconst 0, 1) := by decide +kernel
theorem dX1_look_25 : decode cX1_look 25 = .ok (.istore_n 1, 1) := by decide +kernel
theorem dX1_look_26 : decode cX1_look 26 = .ok (.iconst 0, 1) := by decide +kernel
theorem dX1_look_27 : decode cX1_look 27 = .ok (.istore_n 2, 1) := by decide +kernel
theorem dX1_look_28 : decode cX1_look 28 = .ok (.iload_n 2, 1) := by decide +kernel
theorem dX1_look_29 : decode cX1_look 29 = .ok (.aload_n 0, 1) := by decide +kernel
theorem dX1_look_30 : decode cX1_look 30 = .ok (.getfield 43, 3) := by decide +kernel
theorem dX1_look_33 : decode cX1_look 33 = .ok (.getfield 67, 3) := by decide +kernel
theorem dX1_look_36 : decode cX1_look 36 = .ok (.if_icmp .ge 97, 3) := by decide +kernel
theorem dX1_look_39 : decode cX1_look 39 = .ok (.aload_n 0, 1) := by decide +kernel
theorem dX1_look_40 : decode cX1_look 40 = .ok (.getfield 43, 3) := by decide +kernel
theorem dX1_look_43 : decode cX1_look 43 = .ok (.getfield 73, 3) := by decide +kernel
theorem dX1_look_46 : decode cX1_look 46 = .ok (.iload_n 2, 1) := by decide +kernel
theorem dX1_look_47 : decode cX1_look 47 = .ok (.iaload, 1) := by decide +kernel
theorem dX1_look_48 : decode cX1_look 48 = .ok (.istore_n 3, 1) := by decide +kernel
theorem dX1_look_49 : decode cX1_look 49 = .ok (.aload_n 0, 1) := by decide +kernel
theorem dX1_look_50 : decode cX1_look 50 = .ok (.getfield 43, 3) := by decide +kernel
theorem dX1_look_53 : decode cX1_look 53 = .ok (.getfield 76, 3) := by decide +kernel
theorem dX1_look_56 : decode cX1_look 56 = .ok (.iload_n 2, 1) := by decide +kernel
theorem dX1_look_57 : decode cX1_look 57 = .ok (.iaload, 1) := by decide +kernel
theorem dX1_look_58 : decode cX1_look 58 = .ok (.aload_n 0, 1) := by decide +kernel
theorem dX1_look_59 : decode cX1_look 59 = .ok (.getfield 43, 3) := by decide +kernel
theorem dX1_look_62 : decode cX1_look 62 = .ok (.getfield 79, 3) := by decide +kernel
theorem dX1_look_65 : decode cX1_look 65 = .ok (.iload_n 2, 1) := by decide +kernel
theorem dX1_look_66 : decode cX1_look 66 = .ok (.iaload, 1) := by decide +kernel
theorem dX1_look_67 : decode cX1_look 67 = .ok (.if_icmp .le 7, 3) := by decide +kernel
theorem dX1_look_70 : decode cX1_look 70 = .ok (.iconst 1, 1) := by decide +kernel
theorem dX1_look_71 : decode cX1_look 71 = .ok (.goto 4, 3) := by decide +kernel
theorem dX1_look_74 : decode cX1_look 74 = .ok (.iconst 0, 1) := by decide +kernel
theorem dX1_look_75 : decode cX1_look 75 = .ok (.istore 4, 2) := by decide +kernel
theorem dX1_look_77 : decode cX1_look 77 = .ok (.iload 4, 2) := by decide +kernel
theorem dX1_look_79 : decode cX1_look 79 = .ok (.ifCond .ne 11, 3) := by decide +kernel
theorem dX1_look_82 : decode cX1_look 82 = .ok (.iload_n 1, 1) := by decide +kernel
theorem dX1_look_83 : decode cX1_look 83 = .ok (.iload_n 3, 1) := by decide +kernel
theorem dX1_look_84 : decode cX1_look 84 = .ok (.ishr, 1) := by decide +kernel
theorem dX1_look_85 : decode cX1_look 85 = .ok (.iconst 1, 1) := by decide +kernel
theorem dX1_look_86 : decode cX1_look 86 = .ok (.iand, 1) := by decide +kernel
theorem dX1_look_87 : decode cX1_look 87 = .ok (.ifCond .eq 5, 3) := by decide +kernel
theorem dX1_look_90 : decode cX1_look 90 = .ok (.iconst 0, 1) := by decide +kernel
theorem dX1_look_91 : decode cX1_look 91 = .ok (.ireturn, 1) := by decide +kernel
theorem dX1_look_92 : decode cX1_look 92 = .ok (.iload_n 1, 1) := by decide +kernel
theorem dX1_look_93 : decode cX1_look 93 = .ok (.iconst 1, 1) := by decide +kernel
theorem dX1_look_94 : decode cX1_look 94 = .ok (.iload_n 3, 1) := by decide +kernel
theorem dX1_look_95 : decode cX1_look 95 = .ok (.ishl, 1) := by decide +kernel
theorem dX1_look_96 : decode cX1_look 96 = .ok (.ior, 1) := by decide +kernel
theorem dX1_look_97 : decode cX1_look 97 = .ok (.istore_n 1, 1) := by decide +kernel
theorem dX1_look_98 : decode cX1_look 98 = .ok (.aload_n 0, 1) := by decide +kernel
theorem dX1_look_99 : decode cX1_look 99 = .ok (.aload_n 0, 1) := by decide +kernel
theorem dX1_look_100 : decode cX1_look 100 = .ok (.getfield 43, 3) := by decide +kernel
theorem dX1_look_103 : decode cX1_look 103 = .ok (.getfield 82, 3) := by decide +kernel
theorem dX1_look_106 : decode cX1_look 106 = .ok (.iload_n 2, 1) := by decide +kernel
theorem dX1_look_107 : decode cX1_look 107 = .ok (.iaload, 1) := by decide +kernel
theorem dX1_look_108 : decode cX1_look 108 = .ok (.aload_n 0, 1) := by decide +kernel
theorem dX1_look_109 : decode cX1_look 109 = .ok (.getfield 43, 3) := by decide +kernel
theorem dX1_look_112 : decode cX1_look 112 = .ok (.getfield 85, 3) := by decide +kernel
theorem dX1_look_115 : decode cX1_look 115 = .ok (.iload_n 2, 1) := by decide +kernel
theorem dX1_look_116 : decode cX1_look 116 = .ok (.iaload, 1) := by decide +kernel
theorem dX1_look_117 : decode cX1_look 117 = .ok (.iload_n 3, 1) := by decide +kernel
theorem dX1_look_118 : decode cX1_look 118 = .ok (.iconst 0, 1) := by decide +kernel
theorem dX1_look_119 : decode cX1_look 119 = .ok (.invokevirtual 88, 3) := by decide +kernel
theorem dX1_look_122 : decode cX1_look 122 = .ok (.ifCond .ne 5, 3) := by decide +kernel
theorem dX1_look_125 : decode cX1_look 125 = .ok (.iconst 0, 1) := by decide +kernel
theorem dX1_look_126 : decode cX1_look 126 = .ok (.ireturn, 1) := by decide +kernel
theorem dX1_look_127 : decode cX1_look 127 = .ok (.iinc 2 1, 3) := by decide +kernel
theorem dX1_look_130 : decode cX1_look 130 = .ok (.goto (-102), 3) := by decide +kernel
theorem dX1_look_133 : decode cX1_look 133 = .ok (.iconst 0, 1) := by decide +kernel
theorem dX1_look_134 : decode cX1_look 134 = .ok (.istore_n 2, 1) := by decide +kernel
theorem dX1_look_135 : decode cX1_look 135 = .ok (.iload_n 2, 1) := by decide +kernel
theorem dX1_look_136 : decode cX1_look 136 = .ok (.aload_n 0, 1) := by decide +kernel
theorem dX1_look_137 : decode cX1_look 137 = .ok (.getfield 43, 3) := by decide +kernel
theorem dX1_look_140 : decode cX1_look 140 = .ok (.getfield 92, 3) := by decide +kernel
theorem dX1_look_143 : decode cX1_look 143 = .ok (.iconst 0, 1) := by decide +kernel
theorem dX1_look_144 : decode cX1_look 144 = .ok (.iaload, 1) := by decide +kernel
theorem dX1_look_145 : decode cX1_look 145 = .ok (.if_icmp .ge 28, 3) := by decide +kernel
theorem dX1_look_148 : decode cX1_look 148 = .ok (.iload_n 1, 1) := by decide +kernel
theorem dX1_look_149 : decode cX1_look 149 = .ok (.iload_n 2, 1) := by decide +kernel
theorem dX1_look_150 : decode cX1_look 150 = .ok (.ishr, 1) := by decide +kernel
theorem dX1_look_151 : decode cX1_look 151 = .ok (.iconst 1, 1) := by decide +kernel
theorem dX1_look_152 : decode cX1_look 152 = .ok (.iand, 1) := by decide +kernel
theorem dX1_look_153 : decode cX1_look 153 = .ok (.ifCond .ne 14, 3) := by decide +kernel
theorem dX1_look_156 : decode cX1_look 156 = .ok (.aload_n 0, 1) := by decide +kernel
theorem dX1_look_157 : decode cX1_look 157 = .ok (.getfield 9, 3) := by decide +kernel
theorem dX1_look_160 : decode cX1_look 160 = .ok (.iload_n 2, 1) := by decide +kernel
theorem dX1_look_161 : decode cX1_look 161 = .ok (.iconst 3, 1) := by decide +kernel
theorem dX1_look_162 : decode cX1_look 162 = .ok (.imul, 1) := by decide +kernel
theorem dX1_look_163 : decode cX1_look 163 = .ok (.iload_n 2, 1) := by decide +kernel
theorem dX1_look_164 : decode cX1_look 164 = .ok (.iadd, 1) := by decide +kernel
theorem dX1_look_165 : decode cX1_look 165 = .ok (.iconst 1, 1) := by decide +kernel
theorem dX1_look_166 : decode cX1_look 166 = .ok (.iastore, 1) := by decide +kernel
theorem dX1_look_167 : decode cX1_look 167 = .ok (.iinc 2 1, 3) := by decide +kernel
theorem dX1_look_170 : decode cX1_look 170 = .ok (.goto (-35), 3) := by decide +kernel
theorem dX1_look_173 : decode cX1_look 173 = .ok (.iconst 0, 1) := by decide +kernel
theorem dX1_look_174 : decode cX1_look 174 = .ok (.istore_n 2, 1) := by decide +kernel
theorem dX1_look_175 : decode cX1_look 175 = .ok (.iload_n 2, 1) := by decide +kernel
theorem dX1_look_176 : decode cX1_look 176 = .ok (.aload_n 0, 1) := by decide +kernel
theorem dX1_look_177 : decode cX1_look 177 = .ok (.getfield 43, 3) := by decide +kernel
theorem dX1_look_180 : decode cX1_look 180 = .ok (.getfield 92, 3) := by decide +kernel
theorem dX1_look_183 : decode cX1_look 183 = .ok (.iconst 4, 1) := by decide +kernel
theorem dX1_look_184 : decode cX1_look 184 = .ok (.iaload, 1) := by decide +kernel
theorem dX1_look_185 : decode cX1_look 185 = .ok (.if_icmp .ge 38, 3) := by decide +kernel
theorem dX1_look_188 : decode cX1_look 188 = .ok (.aload_n 0, 1) := by decide +kernel
theorem dX1_look_189 : decode cX1_look 189 = .ok (.aload_n 0, 1) := by decide +kernel
theorem dX1_look_190 : decode cX1_look 190 = .ok (.getfield 43, 3) := by decide +kernel
theorem dX1_look_193 : decode cX1_look 193 = .ok (.getfield 95, 3) := by decide +kernel
theorem dX1_look_196 : decode cX1_look 196 = .ok (.iload_n 2, 1) := by decide +kernel
theorem dX1_look_197 : decode cX1_look 197 = .ok (.iaload, 1) := by decide +kernel
theorem dX1_look_198 : decode cX1_look 198 = .ok (.aload_n 0, 1) := by decide +kernel
theorem dX1_look_199 : decode cX1_look 199 = .ok (.getfield 43, 3) := by decide +kernel
theorem dX1_look_202 : decode cX1_look 202 = .ok (.getfield 98, 3) := by decide +kernel
theorem dX1_look_205 : decode cX1_look 205 = .ok (.iload_n 2, 1) := by decide +kernel
theorem dX1_look_206 : decode cX1_look 206 = .ok (.iaload, 1) := by decide +kernel
theorem dX1_look_207 : decode cX1_look 207 = .ok (.iload_n 2, 1) := by decide +kernel
theorem dX1_look_208 : decode cX1_look 208 = .ok (.iconst 1, 1) := by decide +kernel
theorem dX1_look_209 : decode cX1_look 209 = .ok (.invokevirtual 88, 3) := by decide +kernel
theorem dX1_look_212 : decode cX1_look 212 = .ok (.ifCond .ne 5, 3) := by decide +kernel
theorem dX1_look_215 : decode cX1_look 215 = .ok (.iconst 0, 1) := by decide +kernel
theorem dX1_look_216 : decode cX1_look 216 = .ok (.ireturn, 1) := by decide +kernel
theorem dX1_look_217 : decode cX1_look 217 = .ok (.iinc 2 1, 3) := by decide +kernel
theorem dX1_look_220 : decode cX1_look 220 = .ok (.goto (-45), 3) := by decide +kernel
theorem dX1_look_223 : decode cX1_look 223 = .ok (.aload_n 0, 1) := by decide +kernel
theorem dX1_look_224 : decode cX1_look 224 = .ok (.getfield 9, 3) := by decide +kernel
theorem dX1_look_227 : decode cX1_look 227 = .ok (.invokestatic 101, 3) := by decide +kernel
theorem dX1_look_230 : decode cX1_look 230 = .ok (.ifCond .eq 27, 3) := by decide +kernel
theorem dX1_look_233 : decode cX1_look 233 = .ok (.aload_n 0, 1) := by decide +kernel
theorem dX1_look_234 : decode cX1_look 234 = .ok (.getfield 15, 3) := by decide +kernel
theorem dX1_look_237 : decode cX1_look 237 = .ok (.invokestatic 101, 3) := by decide +kernel
theorem dX1_look_240 : decode cX1_look 240 = .ok (.ifCond .eq 17, 3) := by decide +kernel
theorem dX1_look_243 : decode cX1_look 243 = .ok (.aload_n 0, 1) := by decide +kernel
theorem dX1_look_244 : decode cX1_look 244 = .ok (.getfield 18, 3) := by decide +kernel
theorem dX1_look_247 : decode cX1_look 247 = .ok (.invokestatic 101, 3) := by decide +kernel
theorem dX1_look_250 : decode cX1_look 250 = .ok (.ifCond .eq 7, 3) := by decide +kernel
theorem dX1_look_253 : decode cX1_look 253 = .ok (.iconst 1, 1) := by decide +kernel
theorem dX1_look_254 : decode cX1_look 254 = .ok (.goto 4, 3) := by decide +kernel
theorem dX1_look_257 : decode cX1_look 257 = .ok (.iconst 0, 1) := by decide +kernel
theorem dX1_look_258 : decode cX1_look 258 = .ok (.ireturn, 1) := by decide +kernel
def s_X1_look_175_b  (k175 : Nat → Int32 → aH → aO) (l0 : Nat) (l2 : Int32) (h : aH) : aO :=
  (gO h (.ref l0) 1 0).bind fun x177 => (gO h (.ref x177) 2 0).bind fun x180 => (ldI .int h (.ref x180) 4).bind fun x184 => if x184 ≤ l2 then ((gO h (.ref l0) 1 3).bind fun x224 => cI (s_X1_allNear x224 h) fun x227 h227 => if x227 = 0 then (rtZ 0 h227) else ((gO h227 (.ref l0) 1 4).bind fun x234 => cI (s_X1_allNear x234 h227) fun x237 h237 => if x237 = 0 then (rtZ 0 h237) else ((gO h237 (.ref l0) 1 5).bind fun x244 => cI (s_X1_allNear x244 h237) fun x247 h247 => if x247 = 0 then (rtZ 0 h247) else (rtZ 1 h247)))) else ((gO h (.ref l0) 1 0).bind fun x190 => (gO h (.ref x190) 2 10).bind fun x193 => (ldI .int h (.ref x193) l2).bind fun x197 => (gO h (.ref l0) 1 0).bind fun x199 => (gO h (.ref x199) 2 11).bind fun x202 => (ldI .int h (.ref x202) l2).bind fun x206 => kO h l0 1 (cI (s_X1_addTerms l0 x197 x206 l2 1 h) fun x209 h209 => if x209 = 0 then (rtZ 0 h209) else (k175 l0 (l2 + 1) h209)))
def s_X1_look_175  (n : Nat) : Nat → Int32 → aH → aO := lpF (fun _ _ _ => none) (s_X1_look_175_b ) n
def s_X1_look_135_b  (k135 : Nat → Int32 → Int32 → aH → aO) (l0 : Nat) (l1 : Int32) (l2 : Int32) (h : aH) : aO :=
  (gO h (.ref l0) 1 0).bind fun x137 => (gO h (.ref x137) 2 0).bind fun x140 => (ldI .int h (.ref x140) 0).bind fun x144 => if x144 ≤ l2 then (s_X1_look_175 FU l0 0 h) else (if ((l1 >>> (l2 &&& 31)) &&& 1) = 0 then ((gO h (.ref l0) 1 3).bind fun x157 => (stI h (.ref x157) ((l2 * 3) + l2) 1).bind fun h166 => k135 l0 l1 (l2 + 1) h166) else (k135 l0 l1 (l2 + 1) h))
def s_X1_look_135  (n : Nat) : Nat → Int32 → Int32 → aH → aO := lpF (fun _ _ _ _ => none) (s_X1_look_135_b ) n
def s_X1_look_75 (k28 : Nat → Int32 → Int32 → aH → aO) (l0 : Nat) (l1 : Int32) (l2 : Int32) (l3 : Int32) (s0 : Int32) (h : aH) : aO :=
  if s0 = 0 then (if ((l1 >>> (l3 &&& 31)) &&& 1) = 0 then ((gO h (.ref l0) 1 0).bind fun x100 => (gO h (.ref x100) 2 6).bind fun x103 => (ldI .int h (.ref x103) l2).bind fun x107 => (gO h (.ref l0) 1 0).bind fun x109 => (gO h (.ref x109) 2 7).bind fun x112 => (ldI .int h (.ref x112) l2).bind fun x116 => kO h l0 1 (cI (s_X1_addTerms l0 x107 x116 l3 0 h) fun x119 h119 => if x119 = 0 then (rtZ 0 h119) else (k28 l0 (l1 ||| (1 <<< (l3 &&& 31))) (l2 + 1) h119))) else (rtZ 0 h)) else (rtZ 0 h)
def s_X1_look_28_b  (k28 : Nat → Int32 → Int32 → aH → aO) (l0 : Nat) (l1 : Int32) (l2 : Int32) (h : aH) : aO :=
  (gO h (.ref l0) 1 0).bind fun x30 => (gI h (.ref x30) 2 4).bind fun x33 => if x33 ≤ l2 then (s_X1_look_135 FU l0 l1 0 h) else ((gO h (.ref l0) 1 0).bind fun x40 => (gO h (.ref x40) 2 5).bind fun x43 => (ldI .int h (.ref x43) l2).bind fun x47 => (gO h (.ref l0) 1 0).bind fun x50 => (gO h (.ref x50) 2 9).bind fun x53 => (ldI .int h (.ref x53) l2).bind fun x57 => (gO h (.ref l0) 1 0).bind fun x59 => (gO h (.ref x59) 2 8).bind fun x62 => (ldI .int h (.ref x62) l2).bind fun x66 => if x57 ≤ x66 then (s_X1_look_75 k28 l0 l1 l2 x47 0 h) else (s_X1_look_75 k28 l0 l1 l2 x47 1 h))
def s_X1_look_28  (n : Nat) : Nat → Int32 → Int32 → aH → aO := lpF (fun _ _ _ _ => none) (s_X1_look_28_b ) n
def s_X1_look (o : Nat) (h : aH) : aO :=
  (gO h (.ref o) 1 3).bind fun x1 => cN (s_J7_fill_53178 x1 0 h) fun h5 => (gO h5 (.ref o) 1 4).bind fun x9 => cN (s_J7_fill_53178 x9 0 h5) fun h13 => (gO h13 (.ref o) 1 5).bind fun x17 => cN (s_J7_fill_53178 x17 0 h13) fun h21 => s_X1_look_28 FU o 0 0 h21
section
variable {p : Program} {l : Launch} {e : Env} {s : State} {m : MethodId} {args : Array Value} {below : List Frame} {meth : Method} {c : Code} {D : va_G} {B0 : Nat} {X : Nat → Nat} {ws0 : va_W} {r : aR} {h' : aH} {mc ms : Nat}
theorem t_X1_look_175_b (C : Cx p l s m args meth c B0 X RX1 "look" cX1_look 5 (some .boolean) [])   {k175 : Nat → Int32 → aH → aO} (K175 : ∀ (l0 : Nat) (l2 : Int32) (h : aH), k175 l0 l2 h = some (r, h') → Ev p l e { frames := 2, cells := mc, slots := ms, locals := 56 } s m args below meth c D B0 X ws0 r h' mc ms 5 mc ms 175 [some (.ref l0), none, some (.int l2), none, none] [] h) {l0 : Nat} {l2 : Int32} {h : aH} (hs : s_X1_look_175_b  k175 l0 l2 h = some (r, h')) : Ev p l e { frames := 2, cells := mc, slots := ms, locals := 56 } s m args below meth c D B0 X ws0 r h' mc ms 5 mc ms 175 [some (.ref l0), none, some (.int l2), none, none] [] h := by
  unfold s_X1_look_175_b at hs
  refine ev_iload_n C rfl dX1_look_175 ?_
  refine ev_aload_n C (x := .ref l0) rfl trivial dX1_look_176 ?_
  obtain ⟨x177, e177, hs⟩ := aB hs
  refine ev_get C (ci := 1) (k := 0) rfl wu_1 (by decide) wf_X1_43 (gO_F e177) dX1_look_177 ?_
  obtain ⟨x180, e180, hs⟩ := aB hs
  refine ev_getN C (ci := 2) (k := 0) rfl wu_2 (by decide) wg_X1_92 (gO_F e180) dX1_look_180 ?_
  refine ev_iconst C (v := 4) dX1_look_183 (by decide) ?_
  obtain ⟨x184, e184, hs⟩ := aB hs
  refine ev_iald C e184 dX1_look_184 ?_
  refine ev_icmp_ge C (tgt := 223) (by decide) dX1_look_185 (fun q185 => ?_) (fun q185 => ?_)
  · replace hs := (if_pos q185).symm.trans hs
    refine ev_aload_n C (x := .ref l0) rfl trivial dX1_look_223 ?_
    obtain ⟨x224, e224, hs⟩ := aB hs
    refine ev_get C (ci := 1) (k := 3) rfl wu_1 (by decide) wf_X1_9 (gO_F e224) dX1_look_224 ?_
    obtain ⟨x227, h227, e227, hs⟩ := cI_at hs
    refine ev_callS C (T_X1_allNear _ _ _ _ e227) wc_X1_allNear wm_X1_101 wt_X1_allNear wz_X1 hy_X1_allNear ⟨(Nat.le_of_ble_eq_true rfl), (Nat.le_of_ble_eq_true rfl)⟩ ⟨(Nat.le_refl _), (Nat.le_refl _)⟩ (Nat.le_of_ble_eq_true rfl) rfl dX1_look_227 ?_
    refine ev_if_eq C (tgt := 257) (by decide) dX1_look_230 (fun q230 => ?_) (fun q230 => ?_)
    · replace hs := (if_pos q230).symm.trans hs
      refine ev_iconst C (v := 0) dX1_look_257 (by decide) ?_
      obtain ⟨hz, rfl, rfl⟩ := rtZ_at hs
      exact ev_zret C rfl hz rfl (Nat.le_refl _) (Nat.le_refl _) rfl dX1_look_258
    · replace hs := (if_neg q230).symm.trans hs
      refine ev_aload_n C (x := .ref l0) rfl trivial dX1_look_233 ?_
      obtain ⟨x234, e234, hs⟩ := aB hs
      refine ev_get C (ci := 1) (k := 4) rfl wu_1 (by decide) wf_X1_15 (gO_F e234) dX1_look_234 ?_
      obtain ⟨x237, h237, e237, hs⟩ := cI_at hs
      refine ev_callS C (T_X1_allNear _ _ _ _ e237) wc_X1_allNear wm_X1_101 wt_X1_allNear wz_X1 hy_X1_allNear ⟨(Nat.le_of_ble_eq_true rfl), (Nat.le_of_ble_eq_true rfl)⟩ ⟨(Nat.le_refl _), (Nat.le_refl _)⟩ (Nat.le_of_ble_eq_true rfl) rfl dX1_look_237 ?_
      refine ev_if_eq C (tgt := 257) (by decide) dX1_look_240 (fun q240 => ?_) (fun q240 => ?_)
      · replace hs := (if_pos q240).symm.trans hs
        refine ev_iconst C (v := 0) dX1_look_257 (by decide) ?_
        obtain ⟨hz, rfl, rfl⟩ := rtZ_at hs
        exact ev_zret C rfl hz rfl (Nat.le_refl _) (Nat.le_refl _) rfl dX1_look_258
      · replace hs := (if_neg q240).symm.trans hs
        refine ev_aload_n C (x := .ref l0) rfl trivial dX1_look_243 ?_
        obtain ⟨x244, e244, hs⟩ := aB hs
        refine ev_get C (ci := 1) (k := 5) rfl wu_1 (by decide) wf_X1_18 (gO_F e244) dX1_look_244 ?_
        obtain ⟨x247, h247, e247, hs⟩ := cI_at hs
        refine ev_callS C (T_X1_allNear _ _ _ _ e247) wc_X1_allNear wm_X1_101 wt_X1_allNear wz_X1 hy_X1_allNear ⟨(Nat.le_of_ble_eq_true rfl), (Nat.le_of_ble_eq_true rfl)⟩ ⟨(Nat.le_refl _), (Nat.le_refl _)⟩ (Nat.le_of_ble_eq_true rfl) rfl dX1_look_247 ?_
        refine ev_if_eq C (tgt := 257) (by decide) dX1_look_250 (fun q250 => ?_) (fun q250 => ?_)
        · replace hs := (if_pos q250).symm.trans hs
          refine ev_iconst C (v := 0) dX1_look_257 (by decide) ?_
          obtain ⟨hz, rfl, rfl⟩ := rtZ_at hs
          exact ev_zret C rfl hz rfl (Nat.le_refl _) (Nat.le_refl _) rfl dX1_look_258
        · replace hs := (if_neg q250).symm.trans hs
          refine ev_iconst C (v := 1) dX1_look_253 (by decide) ?_
          refine ev_goto C (tgt := 258) (by decide) dX1_look_254 ?_
          obtain ⟨hz, rfl, rfl⟩ := rtZ_at hs
          exact ev_zret C rfl hz rfl (Nat.le_refl _) (Nat.le_refl _) rfl dX1_look_258
  · replace hs := (if_neg q185).symm.trans hs
    refine ev_aload_n C (x := .ref l0) rfl trivial dX1_look_188 ?_
    refine ev_aload_n C (x := .ref l0) rfl trivial dX1_look_189 ?_
    obtain ⟨x190, e190, hs⟩ := aB hs
    refine ev_get C (ci := 1) (k := 0) rfl wu_1 (by decide) wf_X1_43 (gO_F e190) dX1_look_190 ?_
    obtain ⟨x193, e193, hs⟩ := aB hs
    refine ev_getN C (ci := 2) (k := 10) rfl wu_2 (by decide) wg_X1_95 (gO_F e193) dX1_look_193 ?_
    refine ev_iload_n C rfl dX1_look_196 ?_
    obtain ⟨x197, e197, hs⟩ := aB hs
    refine ev_iald C e197 dX1_look_197 ?_
    refine ev_aload_n C (x := .ref l0) rfl trivial dX1_look_198 ?_
    obtain ⟨x199, e199, hs⟩ := aB hs
    refine ev_get C (ci := 1) (k := 0) rfl wu_1 (by decide) wf_X1_43 (gO_F e199) dX1_look_199 ?_
    obtain ⟨x202, e202, hs⟩ := aB hs
    refine ev_getN C (ci := 2) (k := 11) rfl wu_2 (by decide) wg_X1_98 (gO_F e202) dX1_look_202 ?_
    refine ev_iload_n C rfl dX1_look_205 ?_
    obtain ⟨x206, e206, hs⟩ := aB hs
    refine ev_iald C e206 dX1_look_206 ?_
    refine ev_iload_n C rfl dX1_look_207 ?_
    refine ev_iconst C (v := 1) dX1_look_208 (by decide) ?_
    obtain ⟨eo209, hs⟩ := kO_at hs
    obtain ⟨x209, h209, e209, hs⟩ := cI_at hs
    refine ev_callV C (T_X1_addTerms _ _ _ _ _ _ _ _ e209) (ci := 1) rfl eo209 wc_X1_addTerms wm_X1_88 wi_X1_addTerms ws_X1_addTerms wz_X1 hy_X1_addTerms ⟨(Nat.le_of_ble_eq_true rfl), (Nat.le_of_ble_eq_true rfl)⟩ ⟨(Nat.le_refl _), (Nat.le_refl _)⟩ (Nat.le_of_ble_eq_true rfl) rfl dX1_look_209 ?_
    refine ev_if_ne C (tgt := 217) (by decide) dX1_look_212 (fun q212 => ?_) (fun q212 => ?_)
    · replace hs := (if_neg q212).symm.trans hs
      refine ev_iinc C (i := 2) (n := 1) (x := l2) (v := l2 + 1) rfl (congrArg (fun z => l2 + z) (show Int32.ofInt 1 = 1 by decide)) (by decide) dX1_look_217 ?_
      refine ev_goto C (tgt := 175) (by decide) dX1_look_220 ?_
      exact (K175 _ _ _ hs)
    · replace hs := (if_pos q212).symm.trans hs
      refine ev_iconst C (v := 0) dX1_look_215 (by decide) ?_
      obtain ⟨hz, rfl, rfl⟩ := rtZ_at hs
      exact ev_zret C rfl hz rfl (Nat.le_refl _) (Nat.le_refl _) rfl dX1_look_216
theorem t_X1_look_175 (C : Cx p l s m args meth c B0 X RX1 "look" cX1_look 5 (some .boolean) [])   : ∀ (n : Nat) {l0 : Nat} {l2 : Int32} {h : aH} (hs : s_X1_look_175  n l0 l2 h = some (r, h')), Ev p l e { frames := 2, cells := mc, slots := ms, locals := 56 } s m args below meth c D B0 X ws0 r h' mc ms 5 mc ms 175 [some (.ref l0), none, some (.int l2), none, none] [] h
  | 0, _, _, _, hs => nomatch hs
  | n + 1, _, _, _, hs => t_X1_look_175_b C  (k175 := s_X1_look_175  n) (fun _ _ _ hs => t_X1_look_175 C  n hs) hs
theorem t_X1_look_135_b (C : Cx p l s m args meth c B0 X RX1 "look" cX1_look 5 (some .boolean) [])   {k135 : Nat → Int32 → Int32 → aH → aO} (K135 : ∀ (l0 : Nat) (l1 : Int32) (l2 : Int32) (h : aH), k135 l0 l1 l2 h = some (r, h') → Ev p l e { frames := 2, cells := mc, slots := ms, locals := 56 } s m args below meth c D B0 X ws0 r h' mc ms 5 mc ms 135 [some (.ref l0), some (.int l1), some (.int l2), none, none] [] h) {l0 : Nat} {l1 : Int32} {l2 : Int32} {h : aH} (hs : s_X1_look_135_b  k135 l0 l1 l2 h = some (r, h')) : Ev p l e { frames := 2, cells := mc, slots := ms, locals := 56 } s m args below meth c D B0 X ws0 r h' mc ms 5 mc ms 135 [some (.ref l0), some (.int l1), some (.int l2), none, none] [] h := by
  unfold s_X1_look_135_b at hs
  refine ev_iload_n C rfl dX1_look_135 ?_
  refine ev_aload_n C (x := .ref l0) rfl trivial dX1_look_136 ?_
  obtain ⟨x137, e137, hs⟩ := aB hs
  refine ev_get C (ci := 1) (k := 0) rfl wu_1 (by decide) wf_X1_43 (gO_F e137) dX1_look_137 ?_
  obtain ⟨x140, e140, hs⟩ := aB hs
  refine ev_getN C (ci := 2) (k := 0) rfl wu_2 (by decide) wg_X1_92 (gO_F e140) dX1_look_140 ?_
  refine ev_iconst C (v := 0) dX1_look_143 (by decide) ?_
  obtain ⟨x144, e144, hs⟩ := aB hs
  refine ev_iald C e144 dX1_look_144 ?_
  refine ev_icmp_ge C (tgt := 173) (by decide) dX1_look_145 (fun q145 => ?_) (fun q145 => ?_)
  · replace hs := (if_pos q145).symm.trans hs
    refine ev_iconst C (v := 0) dX1_look_173 (by decide) ?_
    refine ev_istore_n C (by decide) dX1_look_174 ?_
    exact Ev.keep [true, false, true, true, true] (t_X1_look_175 C  FU hs)
  · replace hs := (if_neg q145).symm.trans hs
    refine ev_iload_n C rfl dX1_look_148 ?_
    refine ev_iload_n C rfl dX1_look_149 ?_
    refine ev_ishr C dX1_look_150 ?_
    refine ev_iconst C (v := 1) dX1_look_151 (by decide) ?_
    refine ev_iand C dX1_look_152 ?_
    refine ev_if_ne C (tgt := 167) (by decide) dX1_look_153 (fun q153 => ?_) (fun q153 => ?_)
    · replace hs := (if_neg q153).symm.trans hs
      refine ev_iinc C (i := 2) (n := 1) (x := l2) (v := l2 + 1) rfl (congrArg (fun z => l2 + z) (show Int32.ofInt 1 = 1 by decide)) (by decide) dX1_look_167 ?_
      refine ev_goto C (tgt := 135) (by decide) dX1_look_170 ?_
      exact (K135 _ _ _ _ hs)
    · replace hs := (if_pos q153).symm.trans hs
      refine ev_aload_n C (x := .ref l0) rfl trivial dX1_look_156 ?_
      obtain ⟨x157, e157, hs⟩ := aB hs
      refine ev_get C (ci := 1) (k := 3) rfl wu_1 (by decide) wf_X1_9 (gO_F e157) dX1_look_157 ?_
      refine ev_iload_n C rfl dX1_look_160 ?_
      refine ev_iconst C (v := 3) dX1_look_161 (by decide) ?_
      refine ev_imul C dX1_look_162 ?_
      refine ev_iload_n C rfl dX1_look_163 ?_
      refine ev_iadd C dX1_look_164 ?_
      refine ev_iconst C (v := 1) dX1_look_165 (by decide) ?_
      obtain ⟨h166, e166, hs⟩ := aB hs
      refine ev_iast C e166 dX1_look_166 ?_
      refine ev_iinc C (i := 2) (n := 1) (x := l2) (v := l2 + 1) rfl (congrArg (fun z => l2 + z) (show Int32.ofInt 1 = 1 by decide)) (by decide) dX1_look_167 ?_
      refine ev_goto C (tgt := 135) (by decide) dX1_look_170 ?_
      exact (K135 _ _ _ _ hs)
theorem t_X1_look_135 (C : Cx p l s m args meth c B0 X RX1 "look" cX1_look 5 (some .boolean) [])   : ∀ (n : Nat) {l0 : Nat} {l1 : Int32} {l2 : Int32} {h : aH} (hs : s_X1_look_135  n l0 l1 l2 h = some (r, h')), Ev p l e { frames := 2, cells := mc, slots := ms, locals := 56 } s m args below meth c D B0 X ws0 r h' mc ms 5 mc ms 135 [some (.ref l0), some (.int l1), some (.int l2), none, none] [] h
  | 0, _, _, _, _, hs => nomatch hs
  | n + 1, _, _, _, _, hs => t_X1_look_135_b C  (k135 := s_X1_look_135  n) (fun _ _ _ _ hs => t_X1_look_135 C  n hs) hs
theorem t_X1_look_75 (C : Cx p l s m args meth c B0 X RX1 "look" cX1_look 5 (some .boolean) []) {k28 : Nat → Int32 → Int32 → aH → aO} (K28 : ∀ (l0 : Nat) (l1 : Int32) (l2 : Int32) (h : aH), k28 l0 l1 l2 h = some (r, h') → Ev p l e { frames := 2, cells := mc, slots := ms, locals := 56 } s m args below meth c D B0 X ws0 r h' mc ms 5 mc ms 28 [some (.ref l0), some (.int l1), some (.int l2), none, none] [] h) {l0 : Nat} {l1 : Int32} {l2 : Int32} {l3 : Int32} {s0 : Int32} {h : aH} (hs : s_X1_look_75 k28 l0 l1 l2 l3 s0 h = some (r, h')) : Ev p l e { frames := 2, cells := mc, slots := ms, locals := 56 } s m args below meth c D B0 X ws0 r h' mc ms 5 mc ms 75 [some (.ref l0), some (.int l1), some (.int l2), some (.int l3), none] [.int s0] h := by
  unfold s_X1_look_75 at hs
  refine ev_istore C (by decide) dX1_look_75 ?_
  refine ev_iload C rfl dX1_look_77 ?_
  refine ev_if_ne C (tgt := 90) (by decide) dX1_look_79 (fun q79 => ?_) (fun q79 => ?_)
  · replace hs := (if_neg q79).symm.trans hs
    refine ev_iconst C (v := 0) dX1_look_90 (by decide) ?_
    obtain ⟨hz, rfl, rfl⟩ := rtZ_at hs
    exact ev_zret C rfl hz rfl (Nat.le_refl _) (Nat.le_refl _) rfl dX1_look_91
  · replace hs := (if_pos q79).symm.trans hs
    refine ev_iload_n C rfl dX1_look_82 ?_
    refine ev_iload_n C rfl dX1_look_83 ?_
    refine ev_ishr C dX1_look_84 ?_
    refine ev_iconst C (v := 1) dX1_look_85 (by decide) ?_
    refine ev_iand C dX1_look_86 ?_
    refine ev_if_eq C (tgt := 92) (by decide) dX1_look_87 (fun q87 => ?_) (fun q87 => ?_)
    · replace hs := (if_pos q87).symm.trans hs
      refine ev_iload_n C rfl dX1_look_92 ?_
      refine ev_iconst C (v := 1) dX1_look_93 (by decide) ?_
      refine ev_iload_n C rfl dX1_look_94 ?_
      refine ev_ishl C dX1_look_95 ?_
      refine ev_ior C dX1_look_96 ?_
      refine ev_istore_n C (by decide) dX1_look_97 ?_
      refine ev_aload_n C (x := .ref l0) rfl trivial dX1_look_98 ?_
      refine ev_aload_n C (x := .ref l0) rfl trivial dX1_look_99 ?_
      obtain ⟨x100, e100, hs⟩ := aB hs
      refine ev_get C (ci := 1) (k := 0) rfl wu_1 (by decide) wf_X1_43 (gO_F e100) dX1_look_100 ?_
      obtain ⟨x103, e103, hs⟩ := aB hs
      refine ev_getN C (ci := 2) (k := 6) rfl wu_2 (by decide) wg_X1_82 (gO_F e103) dX1_look_103 ?_
      refine ev_iload_n C rfl dX1_look_106 ?_
      obtain ⟨x107, e107, hs⟩ := aB hs
      refine ev_iald C e107 dX1_look_107 ?_
      refine ev_aload_n C (x := .ref l0) rfl trivial dX1_look_108 ?_
      obtain ⟨x109, e109, hs⟩ := aB hs
      refine ev_get C (ci := 1) (k := 0) rfl wu_1 (by decide) wf_X1_43 (gO_F e109) dX1_look_109 ?_
      obtain ⟨x112, e112, hs⟩ := aB hs
      refine ev_getN C (ci := 2) (k := 7) rfl wu_2 (by decide) wg_X1_85 (gO_F e112) dX1_look_112 ?_
      refine ev_iload_n C rfl dX1_look_115 ?_
      obtain ⟨x116, e116, hs⟩ := aB hs
      refine ev_iald C e116 dX1_look_116 ?_
      refine ev_iload_n C rfl dX1_look_117 ?_
      refine ev_iconst C (v := 0) dX1_look_118 (by decide) ?_
      obtain ⟨eo119, hs⟩ := kO_at hs
      obtain ⟨x119, h119, e119, hs⟩ := cI_at hs
      refine ev_callV C (T_X1_addTerms _ _ _ _ _ _ _ _ e119) (ci := 1) rfl eo119 wc_X1_addTerms wm_X1_88 wi_X1_addTerms ws_X1_addTerms wz_X1 hy_X1_addTerms ⟨(Nat.le_of_ble_eq_true rfl), (Nat.le_of_ble_eq_true rfl)⟩ ⟨(Nat.le_refl _), (Nat.le_refl _)⟩ (Nat.le_of_ble_eq_true rfl) rfl dX1_look_119 ?_
      refine ev_if_ne C (tgt := 127) (by decide) dX1_look_122 (fun q122 => ?_) (fun q122 => ?_)
      · replace hs := (if_neg q122).symm.trans hs
        refine ev_iinc C (i := 2) (n := 1) (x := l2) (v := l2 + 1) rfl (congrArg (fun z => l2 + z) (show Int32.ofInt 1 = 1 by decide)) (by decide) dX1_look_127 ?_
        refine ev_goto C (tgt := 28) (by decide) dX1_look_130 ?_
        exact Ev.keep [true, true, true, false, false] (K28 _ _ _ _ hs)
      · replace hs := (if_pos q122).symm.trans hs
        refine ev_iconst C (v := 0) dX1_look_125 (by decide) ?_
        obtain ⟨hz, rfl, rfl⟩ := rtZ_at hs
        exact ev_zret C rfl hz rfl (Nat.le_refl _) (Nat.le_refl _) rfl dX1_look_126
    · replace hs := (if_neg q87).symm.trans hs
      refine ev_iconst C (v := 0) dX1_look_90 (by decide) ?_
      obtain ⟨hz, rfl, rfl⟩ := rtZ_at hs
      exact ev_zret C rfl hz rfl (Nat.le_refl _) (Nat.le_refl _) rfl dX1_look_91
theorem t_X1_look_28_b (C : Cx p l s m args meth c B0 X RX1 "look" cX1_look 5 (some .boolean) [])   {k28 : Nat → Int32 → Int32 → aH → aO} (K28 : ∀ (l0 : Nat) (l1 : Int32) (l2 : Int32) (h : aH), k28 l0 l1 l2 h = some (r, h') → Ev p l e { frames := 2, cells := mc, slots := ms, locals := 56 } s m args below meth c D B0 X ws0 r h' mc ms 5 mc ms 28 [some (.ref l0), some (.int l1), some (.int l2), none, none] [] h) {l0 : Nat} {l1 : Int32} {l2 : Int32} {h : aH} (hs : s_X1_look_28_b  k28 l0 l1 l2 h = some (r, h')) : Ev p l e { frames := 2, cells := mc, slots := ms, locals := 56 } s m args below meth c D B0 X ws0 r h' mc ms 5 mc ms 28 [some (.ref l0), some (.int l1), some (.int l2), none, none] [] h := by
  unfold s_X1_look_28_b at hs
  refine ev_iload_n C rfl dX1_look_28 ?_
  refine ev_aload_n C (x := .ref l0) rfl trivial dX1_look_29 ?_
  obtain ⟨x30, e30, hs⟩ := aB hs
  refine ev_get C (ci := 1) (k := 0) rfl wu_1 (by decide) wf_X1_43 (gO_F e30) dX1_look_30 ?_
  obtain ⟨x33, e33, hs⟩ := aB hs
  refine ev_getN C (ci := 2) (k := 4) rfl wu_2 (by decide) wg_X1_67 (gI_F e33) dX1_look_33 ?_
  refine ev_icmp_ge C (tgt := 133) (by decide) dX1_look_36 (fun q36 => ?_) (fun q36 => ?_)
  · replace hs := (if_pos q36).symm.trans hs
    refine ev_iconst C (v := 0) dX1_look_133 (by decide) ?_
    refine ev_istore_n C (by decide) dX1_look_134 ?_
    exact (t_X1_look_135 C  FU hs)
  · replace hs := (if_neg q36).symm.trans hs
    refine ev_aload_n C (x := .ref l0) rfl trivial dX1_look_39 ?_
    obtain ⟨x40, e40, hs⟩ := aB hs
    refine ev_get C (ci := 1) (k := 0) rfl wu_1 (by decide) wf_X1_43 (gO_F e40) dX1_look_40 ?_
    obtain ⟨x43, e43, hs⟩ := aB hs
    refine ev_getN C (ci := 2) (k := 5) rfl wu_2 (by decide) wg_X1_73 (gO_F e43) dX1_look_43 ?_
    refine ev_iload_n C rfl dX1_look_46 ?_
    obtain ⟨x47, e47, hs⟩ := aB hs
    refine ev_iald C e47 dX1_look_47 ?_
    refine ev_istore_n C (by decide) dX1_look_48 ?_
    refine ev_aload_n C (x := .ref l0) rfl trivial dX1_look_49 ?_
    obtain ⟨x50, e50, hs⟩ := aB hs
    refine ev_get C (ci := 1) (k := 0) rfl wu_1 (by decide) wf_X1_43 (gO_F e50) dX1_look_50 ?_
    obtain ⟨x53, e53, hs⟩ := aB hs
    refine ev_getN C (ci := 2) (k := 9) rfl wu_2 (by decide) wg_X1_76 (gO_F e53) dX1_look_53 ?_
    refine ev_iload_n C rfl dX1_look_56 ?_
    obtain ⟨x57, e57, hs⟩ := aB hs
    refine ev_iald C e57 dX1_look_57 ?_
    refine ev_aload_n C (x := .ref l0) rfl trivial dX1_look_58 ?_
    obtain ⟨x59, e59, hs⟩ := aB hs
    refine ev_get C (ci := 1) (k := 0) rfl wu_1 (by decide) wf_X1_43 (gO_F e59) dX1_look_59 ?_
    obtain ⟨x62, e62, hs⟩ := aB hs
    refine ev_getN C (ci := 2) (k := 8) rfl wu_2 (by decide) wg_X1_79 (gO_F e62) dX1_look_62 ?_
    refine ev_iload_n C rfl dX1_look_65 ?_
    obtain ⟨x66, e66, hs⟩ := aB hs
    refine ev_iald C e66 dX1_look_66 ?_
    refine ev_icmp_le C (tgt := 74) (by decide) dX1_look_67 (fun q67 => ?_) (fun q67 => ?_)
    · replace hs := (if_pos q67).symm.trans hs
      refine ev_iconst C (v := 0) dX1_look_74 (by decide) ?_
      exact (t_X1_look_75 C K28 hs)
    · replace hs := (if_neg q67).symm.trans hs
      refine ev_iconst C (v := 1) dX1_look_70 (by decide) ?_
      refine ev_goto C (tgt := 75) (by decide) dX1_look_71 ?_
      exact (t_X1_look_75 C K28 hs)
theorem t_X1_look_28 (C : Cx p l s m args meth c B0 X RX1 "look" cX1_look 5 (some .boolean) [])   : ∀ (n : Nat) {l0 : Nat} {l1 : Int32} {l2 : Int32} {h : aH} (hs : s_X1_look_28  n l0 l1 l2 h = some (r, h')), Ev p l e { frames := 2, cells := mc, slots := ms, locals := 56 } s m args below meth c D B0 X ws0 r h' mc ms 5 mc ms 28 [some (.ref l0), some (.int l1), some (.int l2), none, none] [] h
  | 0, _, _, _, _, hs => nomatch hs
  | n + 1, _, _, _, _, hs => t_X1_look_28_b C  (k28 := s_X1_look_28  n) (fun _ _ _ _ hs => t_X1_look_28 C  n hs) hs
theorem hy_X1_look : yX1_look.cls ≠ "java/lang/invoke/MethodHandle" ∧ yX1_look.cls ≠ "java/lang/invoke/VarHandle" ∧ (parseMethodDescriptor yX1_look.desc).map (fun d => d.parameters.length) = some 0 := by decide +kernel
theorem T_X1_look (o : Nat) (h : aH) (r : aR) (h' : aH) (hs : s_X1_look o h = some (r, h')) : Mt yX1_look (Cond.code yX1_look cX1_look 5 (some .boolean) :: aTB) 2 56 0 0 [.ref o] h r h' := by
  unfold s_X1_look at hs
  refine Mt_of (k := 4) (by decide) rfl (fun p l e s m args below meth c D B0 X ws0 C => ?_)
  show Ev p l e { frames := 2, cells := 0, slots := 0, locals := 56 } s m args below meth c D B0 X ws0 r h' 0 0 5 0 0 0 [some (.ref o), none, none, none, none] [] h
  refine ev_aload_n C (x := .ref o) rfl trivial dX1_look_0 ?_
  obtain ⟨x1, e1, hs⟩ := aB hs
  refine ev_get C (ci := 1) (k := 3) rfl wu_1 (by decide) wf_X1_9 (gO_F e1) dX1_look_1 ?_
  refine ev_iconst C (v := 0) dX1_look_4 (by decide) ?_
  obtain ⟨h5, e5, hs⟩ := cN_at hs
  refine ev_callS C (T_J7_fill_53178 _ _ _ _ _ e5) wc_J7_fill_53178 wm_X1_61 wt_J7_fill_53178 wz_J7 hy_J7_fill_53178 ⟨(Nat.le_of_ble_eq_true rfl), (Nat.le_of_ble_eq_true rfl)⟩ ⟨(Nat.le_refl _), (Nat.le_refl _)⟩ (Nat.le_of_ble_eq_true rfl) rfl dX1_look_5 ?_
  refine ev_aload_n C (x := .ref o) rfl trivial dX1_look_8 ?_
  obtain ⟨x9, e9, hs⟩ := aB hs
  refine ev_get C (ci := 1) (k := 4) rfl wu_1 (by decide) wf_X1_15 (gO_F e9) dX1_look_9 ?_
  refine ev_iconst C (v := 0) dX1_look_12 (by decide) ?_
  obtain ⟨h13, e13, hs⟩ := cN_at hs
  refine ev_callS C (T_J7_fill_53178 _ _ _ _ _ e13) wc_J7_fill_53178 wm_X1_61 wt_J7_fill_53178 wz_J7 hy_J7_fill_53178 ⟨(Nat.le_of_ble_eq_true rfl), (Nat.le_of_ble_eq_true rfl)⟩ ⟨(Nat.le_refl _), (Nat.le_refl _)⟩ (Nat.le_of_ble_eq_true rfl) rfl dX1_look_13 ?_
  refine ev_aload_n C (x := .ref o) rfl trivial dX1_look_16 ?_
  obtain ⟨x17, e17, hs⟩ := aB hs
  refine ev_get C (ci := 1) (k := 5) rfl wu_1 (by decide) wf_X1_18 (gO_F e17) dX1_look_17 ?_
  refine ev_iconst C (v := 0) dX1_look_20 (by decide) ?_
  obtain ⟨h21, e21, hs⟩ := cN_at hs
  refine ev_callS C (T_J7_fill_53178 _ _ _ _ _ e21) wc_J7_fill_53178 wm_X1_61 wt_J7_fill_53178 wz_J7 hy_J7_fill_53178 ⟨(Nat.le_of_ble_eq_true rfl), (Nat.le_of_ble_eq_true rfl)⟩ ⟨(Nat.le_refl _), (Nat.le_refl _)⟩ (Nat.le_of_ble_eq_true rfl) rfl dX1_look_21 ?_
  refine ev_iconst C (v := 0) dX1_look_24 (by decide) ?_
  refine ev_istore_n C (by decide) dX1_look_25 ?_
  refine ev_iconst C (v := 0) dX1_look_26 (by decide) ?_
  refine ev_istore_n C (by decide) dX1_look_27 ?_
  exact (t_X1_look_28 C  FU hs)
end
-- X1_determinant
theorem dX1_determinant_0 : decode cX1_determinant 0 = .ok (.iload_n 1, 1) := by decide +kernel
theorem dX1_determinant_1 : decode cX1_determinant 1 = .ok (.iconst 3, 1) := by decide +kernel
theorem dX1_determinant_2 : decode cX1_determinant 2 = .ok (.imul, 1) := by decide +kernel
theorem dX1_determinant_3 : decode cX1_determinant 3 = .ok (.istore 4, 2) := by decide +kernel
theorem dX1_determinant_5 : decode cX1_determinant 5 = .ok (.iload_n 2, 1) := by decide +kernel
theorem dX1_determinant_6 : decode cX1_determinant 6 = .ok (.iconst 3, 1) := by decide +kernel
theorem dX1_determinant_7 : decode cX1_determinant 7 = .ok (.imul, 1) := by decide +kernel
theorem dX1_determinant_8 : decode cX1_determinant 8 = .ok (.istore 5, 2) := by decide +kernel
theorem dX1_determinant_10 : decode cX1_determinant 10 = .ok (.iload_n 3, 1) := by decide +kernel
theorem dX1_determinant_11 : decode cX1_determinant 11 = .ok (.iconst 3, 1) := by decide +kernel
theorem dX1_determinant_12 : decode cX1_determinant 12 = .ok (.imul, 1) := by decide +kernel
theorem dX1_determinant_13 : decode cX1_determinant 13 = .ok (.istore 6, 2) := by decide +kernel
theorem dX1_determinant_15 : decode cX1_determinant 15 = .ok (.aload_n 0, 1) := by decide +kernel
theorem dX1_determinant_16 : decode cX1_determinant 16 = .ok (.getfield 25, 3) := by decide +kernel
theorem dX1_determinant_19 : decode cX1_determinant 19 = .ok (.iload 4, 2) := by decide +kernel
theorem dX1_determinant_21 : decode cX1_determinant 21 = .ok (.laload, 1) := by decide +kernel
theorem dX1_determinant_22 : decode cX1_determinant 22 = .ok (.aload_n 0, 1) := by decide +kernel
theorem dX1_determinant_23 : decode cX1_determinant 23 = .ok (.getfield 25, 3) := by decide +kernel
theorem dX1_determinant_26 : decode cX1_determinant 26 = .ok (.iload 5, 2) := by decide +kernel
theorem dX1_determinant_28 : decode cX1_determinant 28 = .ok (.iconst 1, 1) := by decide +kernel
theorem dX1_determinant_29 : decode cX1_determinant 29 = .ok (.iadd, 1) := by decide +kernel
theorem dX1_determinant_30 : decode cX1_determinant 30 = .ok (.laload, 1) := by decide +kernel
theorem dX1_determinant_31 : decode cX1_determinant 31 = .ok (.aload_n 0, 1) := by decide +kernel
theorem dX1_determinant_32 : decode cX1_determinant 32 = .ok (.getfield 25, 3) := by decide +kernel
theorem dX1_determinant_35 : decode cX1_determinant 35 = .ok (.iload 6, 2) := by decide +kernel
theorem dX1_determinant_37 : decode cX1_determinant 37 = .ok (.iconst 2, 1) := by decide +kernel
theorem dX1_determinant_38 : decode cX1_determinant 38 = .ok (.iadd, 1) := by decide +kernel
theorem dX1_determinant_39 : decode cX1_determinant 39 = .ok (.laload, 1) := by decide +kernel
theorem dX1_determinant_40 : decode cX1_determinant 40 = .ok (.lmul, 1) := by decide +kernel
theorem dX1_determinant_41 : decode cX1_determinant 41 = .ok (.aload_n 0, 1) := by decide +kernel
theorem dX1_determinant_42 : decode cX1_determinant 42 = .ok (.getfield 25, 3) := by decide +kernel
theorem dX1_determinant_45 : decode cX1_determinant 45 = .ok (.iload 5, 2) := by decide +kernel
theorem dX1_determinant_47 : decode cX1_determinant 47 = .ok (.iconst 2, 1) := by decide +kernel
theorem dX1_determinant_48 : decode cX1_determinant 48 = .ok (.iadd, 1) := by decide +kernel
theorem dX1_determinant_49 : decode cX1_determinant 49 = .ok (.laload, 1) := by decide +kernel
theorem dX1_determinant_50 : decode cX1_determinant 50 = .ok (.aload_n 0, 1) := by decide +kernel
theorem dX1_determinant_51 : decode cX1_determinant 51 = .ok (.getfield 25, 3) := by decide +kernel
theorem dX1_determinant_54 : decode cX1_determinant 54 = .ok (.iload 6, 2) := by decide +kernel
theorem dX1_determinant_56 : decode cX1_determinant 56 = .ok (.iconst 1, 1) := by decide +kernel
theorem dX1_determinant_57 : decode cX1_determinant 57 = .ok (.iadd, 1) := by decide +kernel
theorem dX1_determinant_58 : decode cX1_determinant 58 = .ok (.laload, 1) := by decide +kernel
theorem dX1_determinant_59 : decode cX1_determinant 59 = .ok (.lmul, 1) := by decide +kernel
theorem dX1_determinant_60 : decode cX1_determinant 60 = .ok (.lsub, 1) := by decide +kernel
theorem dX1_determinant_61 : decode cX1_determinant 61 = .ok (.lmul, 1) := by decide +kernel
theorem dX1_determinant_62 : decode cX1_determinant 62 = .ok (.aload_n 0, 1) := by decide +kernel
theorem dX1_determinant_63 : decode cX1_determinant 63 = .ok (.getfield 25, 3) := by decide +kernel
theorem dX1_determinant_66 : decode cX1_determinant 66 = .ok (.iload 4, 2) := by decide +kernel
theorem dX1_determinant_68 : decode cX1_determinant 68 = .ok (.iconst 1, 1) := by decide +kernel
theorem dX1_determinant_69 : decode cX1_determinant 69 = .ok (.iadd, 1) := by decide +kernel
theorem dX1_determinant_70 : decode cX1_determinant 70 = .ok (.laload, 1) := by decide +kernel
theorem dX1_determinant_71 : decode cX1_determinant 71 = .ok (.aload_n 0, 1) := by decide +kernel
theorem dX1_determinant_72 : decode cX1_determinant 72 = .ok (.getfield 25, 3) := by decide +kernel
theorem dX1_determinant_75 : decode cX1_determinant 75 = .ok (.iload 5, 2) := by decide +kernel
theorem dX1_determinant_77 : decode cX1_determinant 77 = .ok (.laload, 1) := by decide +kernel
theorem dX1_determinant_78 : decode cX1_determinant 78 = .ok (.aload_n 0, 1) := by decide +kernel
theorem dX1_determinant_79 : decode cX1_determinant 79 = .ok (.getfield 25, 3) := by decide +kernel
theorem dX1_determinant_82 : decode cX1_determinant 82 = .ok (.iload 6, 2) := by decide +kernel
theorem dX1_determinant_84 : decode cX1_determinant 84 = .ok (.iconst 2, 1) := by decide +kernel
theorem dX1_determinant_85 : decode cX1_determinant 85 = .ok (.iadd, 1) := by decide +kernel
theorem dX1_determinant_86 : decode cX1_determinant 86 = .ok (.laload, 1) := by decide +kernel
theorem dX1_determinant_87 : decode cX1_determinant 87 = .ok (.lmul, 1) := by decide +kernel
theorem dX1_determinant_88 : decode cX1_determinant 88 = .ok (.aload_n 0, 1) := by decide +kernel
theorem dX1_determinant_89 : decode cX1_determinant 89 = .ok (.getfield 25, 3) := by decide +kernel
theorem dX1_determinant_92 : decode cX1_determinant 92 = .ok (.iload 5, 2) := by decide +kernel
theorem dX1_determinant_94 : decode cX1_determinant 94 = .ok (.iconst 2, 1) := by decide +kernel
theorem dX1_determinant_95 : decode cX1_determinant 95 = .ok (.iadd, 1) := by decide +kernel
theorem dX1_determinant_96 : decode cX1_determinant 96 = .ok (.laload, 1) := by decide +kernel
theorem dX1_determinant_97 : decode cX1_determinant 97 = .ok (.aload_n 0, 1) := by decide +kernel
theorem dX1_determinant_98 : decode cX1_determinant 98 = .ok (.getfield 25, 3) := by decide +kernel
theorem dX1_determinant_101 : decode cX1_determinant 101 = .ok (.iload 6, 2) := by decide +kernel
theorem dX1_determinant_103 : decode cX1_determinant 103 = .ok (.laload, 1) := by decide +kernel
theorem dX1_determinant_104 : decode cX1_determinant 104 = .ok (.lmul, 1) := by decide +kernel
theorem dX1_determinant_105 : decode cX1_determinant 105 = .ok (.lsub, 1) := by decide +kernel
theorem dX1_determinant_106 : decode cX1_determinant 106 = .ok (.lmul, 1) := by decide +kernel
theorem dX1_determinant_107 : decode cX1_determinant 107 = .ok (.lsub, 1) := by decide +kernel
theorem dX1_determinant_108 : decode cX1_determinant 108 = .ok (.aload_n 0, 1) := by decide +kernel
theorem dX1_determinant_109 : decode cX1_determinant 109 = .ok (.getfield 25, 3) := by decide +kernel
theorem dX1_determinant_112 : decode cX1_determinant 112 = .ok (.iload 4, 2) := by decide +kernel
theorem dX1_determinant_114 : decode cX1_determinant 114 = .ok (.iconst 2, 1) := by decide +kernel
theorem dX1_determinant_115 : decode cX1_determinant 115 = .ok (.iadd, 1) := by decide +kernel
theorem dX1_determinant_116 : decode cX1_determinant 116 = .ok (.laload, 1) := by decide +kernel
theorem dX1_determinant_117 : decode cX1_determinant 117 = .ok (.aload_n 0, 1) := by decide +kernel
theorem dX1_determinant_118 : decode cX1_determinant 118 = .ok (.getfield 25, 3) := by decide +kernel
theorem dX1_determinant_121 : decode cX1_determinant 121 = .ok (.iload 5, 2) := by decide +kernel
theorem dX1_determinant_123 : decode cX1_determinant 123 = .ok (.laload, 1) := by decide +kernel
theorem dX1_determinant_124 : decode cX1_determinant 124 = .ok (.aload_n 0, 1) := by decide +kernel
theorem dX1_determinant_125 : decode cX1_determinant 125 = .ok (.getfield 25, 3) := by decide +kernel
theorem dX1_determinant_128 : decode cX1_determinant 128 = .ok (.iload 6, 2) := by decide +kernel
theorem dX1_determinant_130 : decode cX1_determinant 130 = .ok (.iconst 1, 1) := by decide +kernel
theorem dX1_determinant_131 : decode cX1_determinant 131 = .ok (.iadd, 1) := by decide +kernel
theorem dX1_determinant_132 : decode cX1_determinant 132 = .ok (.laload, 1) := by decide +kernel
theorem dX1_determinant_133 : decode cX1_determinant 133 = .ok (.lmul, 1) := by decide +kernel
theorem dX1_determinant_134 : decode cX1_determinant 134 = .ok (.aload_n 0, 1) := by decide +kernel
theorem dX1_determinant_135 : decode cX1_determinant 135 = .ok (.getfield 25, 3) := by decide +kernel
theorem dX1_determinant_138 : decode cX1_determinant 138 = .ok (.iload 5, 2) := by decide +kernel
theorem dX1_determinant_140 : decode cX1_determinant 140 = .ok (.iconst 1, 1) := by decide +kernel
theorem dX1_determinant_141 : decode cX1_determinant 141 = .ok (.iadd, 1) := by decide +kernel
theorem dX1_determinant_142 : decode cX1_determinant 142 = .ok (.laload, 1) := by decide +kernel
theorem dX1_determinant_143 : decode cX1_determinant 143 = .ok (.aload_n 0, 1) := by decide +kernel
theorem dX1_determinant_144 : decode cX1_determinant 144 = .ok (.getfield 25, 3) := by decide +kernel
theorem dX1_determinant_147 : decode cX1_determinant 147 = .ok (.iload 6, 2) := by decide +kernel
theorem dX1_determinant_149 : decode cX1_determinant 149 = .ok (.laload, 1) := by decide +kernel
theorem dX1_determinant_150 : decode cX1_determinant 150 = .ok (.lmul, 1) := by decide +kernel
theorem dX1_determinant_151 : decode cX1_determinant 151 = .ok (.lsub, 1) := by decide +kernel
theorem dX1_determinant_152 : decode cX1_determinant 152 = .ok (.lmul, 1) := by decide +kernel
theorem dX1_determinant_153 : decode cX1_determinant 153 = .ok (.ladd, 1) := by decide +kernel
theorem dX1_determinant_154 : decode cX1_determinant 154 = .ok (.lreturn, 1) := by decide +kernel
def s_X1_determinant (o : Nat) (a1 : Int32) (a2 : Int32) (a3 : Int32) (h : aH) : aO :=
  (gO h (.ref o) 1 7).bind fun x16 => (ldJ h (.ref x16) (a1 * 3)).bind fun x21 => (gO h (.ref o) 1 7).bind fun x23 => (ldJ h (.ref x23) ((a2 * 3) + 1)).bind fun x30 => (gO h (.ref o) 1 7).bind fun x32 => (ldJ h (.ref x32) ((a3 * 3) + 2)).bind fun x39 => (gO h (.ref o) 1 7).bind fun x42 => (ldJ h (.ref x42) ((a2 * 3) + 2)).bind fun x49 => (gO h (.ref o) 1 7).bind fun x51 => (ldJ h (.ref x51) ((a3 * 3) + 1)).bind fun x58 => (gO h (.ref o) 1 7).bind fun x63 => (ldJ h (.ref x63) ((a1 * 3) + 1)).bind fun x70 => (gO h (.ref o) 1 7).bind fun x72 => (ldJ h (.ref x72) (a2 * 3)).bind fun x77 => (gO h (.ref o) 1 7).bind fun x79 => (ldJ h (.ref x79) ((a3 * 3) + 2)).bind fun x86 => (gO h (.ref o) 1 7).bind fun x89 => (ldJ h (.ref x89) ((a2 * 3) + 2)).bind fun x96 => (gO h (.ref o) 1 7).bind fun x98 => (ldJ h (.ref x98) (a3 * 3)).bind fun x103 => (gO h (.ref o) 1 7).bind fun x109 => (ldJ h (.ref x109) ((a1 * 3) + 2)).bind fun x116 => (gO h (.ref o) 1 7).bind fun x118 => (ldJ h (.ref x118) (a2 * 3)).bind fun x123 => (gO h (.ref o) 1 7).bind fun x125 => (ldJ h (.ref x125) ((a3 * 3) + 1)).bind fun x132 => (gO h (.ref o) 1 7).bind fun x135 => (ldJ h (.ref x135) ((a2 * 3) + 1)).bind fun x142 => (gO h (.ref o) 1 7).bind fun x144 => (ldJ h (.ref x144) (a3 * 3)).bind fun x149 => some (.inl (some (.long (((x21 * ((x30 * x39) - (x49 * x58))) - (x70 * ((x77 * x86) - (x96 * x103)))) + (x116 * ((x123 * x132) - (x142 * x149)))))), h)
section
variable {p : Program} {l : Launch} {e : Env} {s : State} {m : MethodId} {args : Array Value} {below : List Frame} {meth : Method} {c : Code} {D : va_G} {B0 : Nat} {X : Nat → Nat} {ws0 : va_W} {r : aR} {h' : aH} {mc ms : Nat}
theorem hy_X1_determinant : yX1_determinant.cls ≠ "java/lang/invoke/MethodHandle" ∧ yX1_determinant.cls ≠ "java/lang/invoke/VarHandle" ∧ (parseMethodDescriptor yX1_determinant.desc).map (fun d => d.parameters.length) = some 3 := by decide +kernel
theorem T_X1_determinant (o : Nat) (a1 : Int32) (a2 : Int32) (a3 : Int32) (h : aH) (r : aR) (h' : aH) (hs : s_X1_determinant o a1 a2 a3 h = some (r, h')) : Mt yX1_determinant (Cond.code yX1_determinant cX1_determinant 7 (some .long) :: aTB) 0 0 0 0 [.ref o, .int a1, .int a2, .int a3] h r h' := by
  unfold s_X1_determinant at hs
  refine Mt_of (k := 3) (by decide) rfl (fun p l e s m args below meth c D B0 X ws0 C => ?_)
  show Ev p l e { frames := 0, cells := 0, slots := 0, locals := 0 } s m args below meth c D B0 X ws0 r h' 0 0 7 0 0 0 [some (.ref o), some (.int a1), some (.int a2), some (.int a3), none, none, none] [] h
  refine ev_iload_n C rfl dX1_determinant_0 ?_
  refine ev_iconst C (v := 3) dX1_determinant_1 (by decide) ?_
  refine ev_imul C dX1_determinant_2 ?_
  refine ev_istore C (by decide) dX1_determinant_3 ?_
  refine ev_iload_n C rfl dX1_determinant_5 ?_
  refine ev_iconst C (v := 3) dX1_determinant_6 (by decide) ?_
  refine ev_imul C dX1_determinant_7 ?_
  refine ev_istore C (by decide) dX1_determinant_8 ?_
  refine ev_iload_n C rfl dX1_determinant_10 ?_
  refine ev_iconst C (v := 3) dX1_determinant_11 (by decide) ?_
  refine ev_imul C dX1_determinant_12 ?_
  refine ev_istore C (by decide) dX1_determinant_13 ?_
  refine ev_aload_n C (x := .ref o) rfl trivial dX1_determinant_15 ?_
  obtain ⟨x16, e16, hs⟩ := aB hs
  refine ev_get C (ci := 1) (k := 7) rfl wu_1 (by decide) wf_X1_25 (gO_F e16) dX1_determinant_16 ?_
  refine ev_iload C rfl dX1_determinant_19 ?_
  obtain ⟨x21, e21, hs⟩ := aB hs
  refine ev_lald C e21 dX1_determinant_21 ?_
  refine ev_aload_n C (x := .ref o) rfl trivial dX1_determinant_22 ?_
  obtain ⟨x23, e23, hs⟩ := aB hs
  refine ev_get C (ci := 1) (k := 7) rfl wu_1 (by decide) wf_X1_25 (gO_F e23) dX1_determinant_23 ?_
  refine ev_iload C rfl dX1_determinant_26 ?_
  refine ev_iconst C (v := 1) dX1_determinant_28 (by decide) ?_
  refine ev_iadd C dX1_determinant_29 ?_
  obtain ⟨x30, e30, hs⟩ := aB hs
  refine ev_lald C e30 dX1_determinant_30 ?_
  refine ev_aload_n C (x := .ref o) rfl trivial dX1_determinant_31 ?_
  obtain ⟨x32, e32, hs⟩ := aB hs
  refine ev_get C (ci := 1) (k := 7) rfl wu_1 (by decide) wf_X1_25 (gO_F e32) dX1_determinant_32 ?_
  refine ev_iload C rfl dX1_determinant_35 ?_
  refine ev_iconst C (v := 2) dX1_determinant_37 (by decide) ?_
  refine ev_iadd C dX1_determinant_38 ?_
  obtain ⟨x39, e39, hs⟩ := aB hs
  refine ev_lald C e39 dX1_determinant_39 ?_
  refine ev_lmul C dX1_determinant_40 ?_
  refine ev_aload_n C (x := .ref o) rfl trivial dX1_determinant_41 ?_
  obtain ⟨x42, e42, hs⟩ := aB hs
  refine ev_get C (ci := 1) (k := 7) rfl wu_1 (by decide) wf_X1_25 (gO_F e42) dX1_determinant_42 ?_
  refine ev_iload C rfl dX1_determinant_45 ?_
  refine ev_iconst C (v := 2) dX1_determinant_47 (by decide) ?_
  refine ev_iadd C dX1_determinant_48 ?_
  obtain ⟨x49, e49, hs⟩ := aB hs
  refine ev_lald C e49 dX1_determinant_49 ?_
  refine ev_aload_n C (x := .ref o) rfl trivial dX1_determinant_50 ?_
  obtain ⟨x51, e51, hs⟩ := aB hs
  refine ev_get C (ci := 1) (k := 7) rfl wu_1 (by decide) wf_X1_25 (gO_F e51) dX1_determinant_51 ?_
  refine ev_iload C rfl dX1_determinant_54 ?_
  refine ev_iconst C (v := 1) dX1_determinant_56 (by decide) ?_
  refine ev_iadd C dX1_determinant_57 ?_
  obtain ⟨x58, e58, hs⟩ := aB hs
  refine ev_lald C e58 dX1_determinant_58 ?_
  refine ev_lmul C dX1_determinant_59 ?_
  refine ev_lsub C dX1_determinant_60 ?_
  refine ev_lmul C dX1_determinant_61 ?_
  refine ev_aload_n C (x := .ref o) rfl trivial dX1_determinant_62 ?_
  obtain ⟨x63, e63, hs⟩ := aB hs
  refine ev_get C (ci := 1) (k := 7) rfl wu_1 (by decide) wf_X1_25 (gO_F e63) dX1_determinant_63 ?_
  refine ev_iload C rfl dX1_determinant_66 ?_
  refine ev_iconst C (v := 1) dX1_determinant_68 (by decide) ?_
  refine ev_iadd C dX1_determinant_69 ?_
  obtain ⟨x70, e70, hs⟩ := aB hs
  refine ev_lald C e70 dX1_determinant_70 ?_
  refine ev_aload_n C (x := .ref o) rfl trivial dX1_determinant_71 ?_
  obtain ⟨x72, e72, hs⟩ := aB hs
  refine ev_get C (ci := 1) (k := 7) rfl wu_1 (by decide) wf_X1_25 (gO_F e72) dX1_determinant_72 ?_
  refine ev_iload C rfl dX1_determinant_75 ?_
  obtain ⟨x77, e77, hs⟩ := aB hs
  refine ev_lald C e77 dX1_determinant_77 ?_
  refine ev_aload_n C (x := .ref o) rfl trivial dX1_determinant_78 ?_
  obtain ⟨x79, e79, hs⟩ := aB hs
  refine ev_get C (ci := 1) (k := 7) rfl wu_1 (by decide) wf_X1_25 (gO_F e79) dX1_determinant_79 ?_
  refine ev_iload C rfl dX1_determinant_82 ?_
  refine ev_iconst C (v := 2) dX1_determinant_84 (by decide) ?_
  refine ev_iadd C dX1_determinant_85 ?_
  obtain ⟨x86, e86, hs⟩ := aB hs
  refine ev_lald C e86 dX1_determinant_86 ?_
  refine ev_lmul C dX1_determinant_87 ?_
  refine ev_aload_n C (x := .ref o) rfl trivial dX1_determinant_88 ?_
  obtain ⟨x89, e89, hs⟩ := aB hs
  refine ev_get C (ci := 1) (k := 7) rfl wu_1 (by decide) wf_X1_25 (gO_F e89) dX1_determinant_89 ?_
  refine ev_iload C rfl dX1_determinant_92 ?_
  refine ev_iconst C (v := 2) dX1_determinant_94 (by decide) ?_
  refine ev_iadd C dX1_determinant_95 ?_
  obtain ⟨x96, e96, hs⟩ := aB hs
  refine ev_lald C e96 dX1_determinant_96 ?_
  refine ev_aload_n C (x := .ref o) rfl trivial dX1_determinant_97 ?_
  obtain ⟨x98, e98, hs⟩ := aB hs
  refine ev_get C (ci := 1) (k := 7) rfl wu_1 (by decide) wf_X1_25 (gO_F e98) dX1_determinant_98 ?_
  refine ev_iload C rfl dX1_determinant_101 ?_
  obtain ⟨x103, e103, hs⟩ := aB hs
  refine ev_lald C e103 dX1_determinant_103 ?_
  refine ev_lmul C dX1_determinant_104 ?_
  refine ev_lsub C dX1_determinant_105 ?_
  refine ev_lmul C dX1_determinant_106 ?_
  refine ev_lsub C dX1_determinant_107 ?_
  refine ev_aload_n C (x := .ref o) rfl trivial dX1_determinant_108 ?_
  obtain ⟨x109, e109, hs⟩ := aB hs
  refine ev_get C (ci := 1) (k := 7) rfl wu_1 (by decide) wf_X1_25 (gO_F e109) dX1_determinant_109 ?_
  refine ev_iload C rfl dX1_determinant_112 ?_
  refine ev_iconst C (v := 2) dX1_determinant_114 (by decide) ?_
  refine ev_iadd C dX1_determinant_115 ?_
  obtain ⟨x116, e116, hs⟩ := aB hs
  refine ev_lald C e116 dX1_determinant_116 ?_
  refine ev_aload_n C (x := .ref o) rfl trivial dX1_determinant_117 ?_
  obtain ⟨x118, e118, hs⟩ := aB hs
  refine ev_get C (ci := 1) (k := 7) rfl wu_1 (by decide) wf_X1_25 (gO_F e118) dX1_determinant_118 ?_
  refine ev_iload C rfl dX1_determinant_121 ?_
  obtain ⟨x123, e123, hs⟩ := aB hs
  refine ev_lald C e123 dX1_determinant_123 ?_
  refine ev_aload_n C (x := .ref o) rfl trivial dX1_determinant_124 ?_
  obtain ⟨x125, e125, hs⟩ := aB hs
  refine ev_get C (ci := 1) (k := 7) rfl wu_1 (by decide) wf_X1_25 (gO_F e125) dX1_determinant_125 ?_
  refine ev_iload C rfl dX1_determinant_128 ?_
  refine ev_iconst C (v := 1) dX1_determinant_130 (by decide) ?_
  refine ev_iadd C dX1_determinant_131 ?_
  obtain ⟨x132, e132, hs⟩ := aB hs
  refine ev_lald C e132 dX1_determinant_132 ?_
  refine ev_lmul C dX1_determinant_133 ?_
  refine ev_aload_n C (x := .ref o) rfl trivial dX1_determinant_134 ?_
  obtain ⟨x135, e135, hs⟩ := aB hs
  refine ev_get C (ci := 1) (k := 7) rfl wu_1 (by decide) wf_X1_25 (gO_F e135) dX1_determinant_135 ?_
  refine ev_iload C rfl dX1_determinant_138 ?_
  refine ev_iconst C (v := 1) dX1_determinant_140 (by decide) ?_
  refine ev_iadd C dX1_determinant_141 ?_
  obtain ⟨x142, e142, hs⟩ := aB hs
  refine ev_lald C e142 dX1_determinant_142 ?_
  refine ev_aload_n C (x := .ref o) rfl trivial dX1_determinant_143 ?_
  obtain ⟨x144, e144, hs⟩ := aB hs
  refine ev_get C (ci := 1) (k := 7) rfl wu_1 (by decide) wf_X1_25 (gO_F e144) dX1_determinant_144 ?_
  refine ev_iload C rfl dX1_determinant_147 ?_
  obtain ⟨x149, e149, hs⟩ := aB hs
  refine ev_lald C e149 dX1_determinant_149 ?_
  refine ev_lmul C dX1_determinant_150 ?_
  refine ev_lsub C dX1_determinant_151 ?_
  refine ev_lmul C dX1_determinant_152 ?_
  refine ev_ladd C dX1_determinant_153 ?_
  cases hs
  exact ev_lret C rfl rfl (Nat.le_refl _) (Nat.le_refl _) rfl dX1_determinant_154
end
-- J7_fill_d0a16
theorem dJ7_fill_d0a16_0 : decode cJ7_fill_d0a16 0 = .ok (.iconst 0, 1) := by decide +kernel
theorem dJ7_fill_d0a16_1 : decode cJ7_fill_d0a16 1 = .ok (.istore_n 3, 1) := by decide +kernel
theorem dJ7_fill_d0a16_2 : decode cJ7_fill_d0a16 2 = .ok (.aload_n 0, 1) := by decide +kernel
theorem dJ7_fill_d0a16_3 : decode cJ7_fill_d0a16 3 = .ok (.arraylength, 1) := by decide +kernel
theorem dJ7_fill_d0a16_4 : decode cJ7_fill_d0a16 4 = .ok (.istore 4, 2) := by decide +kernel
theorem dJ7_fill_d0a16_6 : decode cJ7_fill_d0a16 6 = .ok (.iload_n 3, 1) := by decide +kernel
theorem dJ7_fill_d0a16_7 : decode cJ7_fill_d0a16 7 = .ok (.iload 4, 2) := by decide +kernel
theorem dJ7_fill_d0a16_9 : decode cJ7_fill_d0a16 9 = .ok (.if_icmp .ge 13, 3) := by decide +kernel
theorem dJ7_fill_d0a16_12 : decode cJ7_fill_d0a16 12 = .ok (.aload_n 0, 1) := by decide +kernel
theorem dJ7_fill_d0a16_13 : decode cJ7_fill_d0a16 13 = .ok (.iload_n 3, 1) := by decide +kernel
theorem dJ7_fill_d0a16_14 : decode cJ7_fill_d0a16 14 = .ok (.lload_n 1, 1) := by decide +kernel
theorem dJ7_fill_d0a16_15 : decode cJ7_fill_d0a16 15 = .ok (.lastore, 1) := by decide +kernel
theorem dJ7_fill_d0a16_16 : decode cJ7_fill_d0a16 16 = .ok (.iinc 3 1, 3) := by decide +kernel
theorem dJ7_fill_d0a16_19 : decode cJ7_fill_d0a16 19 = .ok (.goto (-13), 3) := by decide +kernel
theorem dJ7_fill_d0a16_22 : decode cJ7_fill_d0a16 22 = .ok (.return_, 1) := by decide +kernel
def s_J7_fill_d0a16_6_b  (k6 : Nat → Int64 → Int32 → Int32 → aH → aO) (l0 : Nat) (l1 : Int64) (l3 : Int32) (l4 : Int32) (h : aH) : aO :=
  if l4 ≤ l3 then (some (.inl none, h)) else ((stJ h (.ref l0) l3 l1).bind fun h15 => k6 l0 l1 (l3 + 1) l4 h15)
def s_J7_fill_d0a16_6  (n : Nat) : Nat → Int64 → Int32 → Int32 → aH → aO := lpF (fun _ _ _ _ _ => none) (s_J7_fill_d0a16_6_b ) n
def s_J7_fill_d0a16 (a1 : Nat) (a2 : Int64) (h : aH) : aO :=
  (lnA h (.ref a1)).bind fun x3 => s_J7_fill_d0a16_6 FU a1 a2 0 x3 h
section
variable {p : Program} {l : Launch} {e : Env} {s : State} {m : MethodId} {args : Array Value} {below : List Frame} {meth : Method} {c : Code} {D : va_G} {B0 : Nat} {X : Nat → Nat} {ws0 : va_W} {r : aR} {h' : aH} {mc ms : Nat}
theorem t_J7_fill_d0a16_6_b (C : Cx p l s m args meth c B0 X RJ7 "fill" cJ7_fill_d0a16 5 none [])   {k6 : Nat → Int64 → Int32 → Int32 → aH → aO} (K6 : ∀ (l0 : Nat) (l1 : Int64) (l3 : Int32) (l4 : Int32) (h : aH), k6 l0 l1 l3 l4 h = some (r, h') → Ev p l e { frames := 0, cells := mc, slots := ms, locals := 0 } s m args below meth c D B0 X ws0 r h' mc ms 5 mc ms 6 [some (.ref l0), some (.long l1), none, some (.int l3), some (.int l4)] [] h) {l0 : Nat} {l1 : Int64} {l3 : Int32} {l4 : Int32} {h : aH} (hs : s_J7_fill_d0a16_6_b  k6 l0 l1 l3 l4 h = some (r, h')) : Ev p l e { frames := 0, cells := mc, slots := ms, locals := 0 } s m args below meth c D B0 X ws0 r h' mc ms 5 mc ms 6 [some (.ref l0), some (.long l1), none, some (.int l3), some (.int l4)] [] h := by
  unfold s_J7_fill_d0a16_6_b at hs
  refine ev_iload_n C rfl dJ7_fill_d0a16_6 ?_
  refine ev_iload C rfl dJ7_fill_d0a16_7 ?_
  refine ev_icmp_ge C (tgt := 22) (by decide) dJ7_fill_d0a16_9 (fun q9 => ?_) (fun q9 => ?_)
  · replace hs := (if_pos q9).symm.trans hs
    cases hs
    exact ev_vret C rfl rfl (Nat.le_refl _) (Nat.le_refl _) rfl dJ7_fill_d0a16_22
  · replace hs := (if_neg q9).symm.trans hs
    refine ev_aload_n C (x := .ref l0) rfl trivial dJ7_fill_d0a16_12 ?_
    refine ev_iload_n C rfl dJ7_fill_d0a16_13 ?_
    refine ev_lload_n C rfl dJ7_fill_d0a16_14 ?_
    obtain ⟨h15, e15, hs⟩ := aB hs
    refine ev_last C e15 dJ7_fill_d0a16_15 ?_
    refine ev_iinc C (i := 3) (n := 1) (x := l3) (v := l3 + 1) rfl (congrArg (fun z => l3 + z) (show Int32.ofInt 1 = 1 by decide)) (by decide) dJ7_fill_d0a16_16 ?_
    refine ev_goto C (tgt := 6) (by decide) dJ7_fill_d0a16_19 ?_
    exact (K6 _ _ _ _ _ hs)
theorem t_J7_fill_d0a16_6 (C : Cx p l s m args meth c B0 X RJ7 "fill" cJ7_fill_d0a16 5 none [])   : ∀ (n : Nat) {l0 : Nat} {l1 : Int64} {l3 : Int32} {l4 : Int32} {h : aH} (hs : s_J7_fill_d0a16_6  n l0 l1 l3 l4 h = some (r, h')), Ev p l e { frames := 0, cells := mc, slots := ms, locals := 0 } s m args below meth c D B0 X ws0 r h' mc ms 5 mc ms 6 [some (.ref l0), some (.long l1), none, some (.int l3), some (.int l4)] [] h
  | 0, _, _, _, _, _, hs => nomatch hs
  | n + 1, _, _, _, _, _, hs => t_J7_fill_d0a16_6_b C  (k6 := s_J7_fill_d0a16_6  n) (fun _ _ _ _ _ hs => t_J7_fill_d0a16_6 C  n hs) hs
theorem hy_J7_fill_d0a16 : yJ7_fill_d0a16.cls ≠ "java/lang/invoke/MethodHandle" ∧ yJ7_fill_d0a16.cls ≠ "java/lang/invoke/VarHandle" ∧ (parseMethodDescriptor yJ7_fill_d0a16.desc).map (fun d => d.parameters.length) = some 2 := by decide +kernel
theorem T_J7_fill_d0a16 (a1 : Nat) (a2 : Int64) (h : aH) (r : aR) (h' : aH) (hs : s_J7_fill_d0a16 a1 a2 h = some (r, h')) : Mt yJ7_fill_d0a16 (Cond.code yJ7_fill_d0a16 cJ7_fill_d0a16 5 none :: aTB) 0 0 0 0 [.ref a1, .long a2] h r h' := by
  unfold s_J7_fill_d0a16 at hs
  refine Mt_of (k := 2) (by decide) rfl (fun p l e s m args below meth c D B0 X ws0 C => ?_)
  show Ev p l e { frames := 0, cells := 0, slots := 0, locals := 0 } s m args below meth c D B0 X ws0 r h' 0 0 5 0 0 0 [some (.ref a1), some (.long a2), none, none, none] [] h
  refine ev_iconst C (v := 0) dJ7_fill_d0a16_0 (by decide) ?_
  refine ev_istore_n C (by decide) dJ7_fill_d0a16_1 ?_
  refine ev_aload_n C (x := .ref a1) rfl trivial dJ7_fill_d0a16_2 ?_
  obtain ⟨x3, e3, hs⟩ := aB hs
  refine ev_alen C e3 dJ7_fill_d0a16_3 ?_
  refine ev_istore C (by decide) dJ7_fill_d0a16_4 ?_
  exact (t_J7_fill_d0a16_6 C  FU hs)
end
-- X1_findForm
theorem dX1_findForm_0 : decode cX1_findForm 0 = .ok (.aload_n 0, 1) := by decide +kernel
theorem dX1_findForm_1 : decode cX1_findForm 1 = .ok (.getfield 43, 3) := by decide +kernel
theorem dX1_findForm_4 : decode cX1_findForm 4 = .ok (.getfield 92, 3) := by decide +kernel
theorem dX1_findForm_7 : decode cX1_findForm 7 = .ok (.iconst 0, 1) := by decide +kernel
theorem dX1_findForm_8 : decode cX1_findForm 8 = .ok (.iaload, 1) := by decide +kernel
theorem dX1_findForm_9 : decode cX1_findForm 9 = .ok (.istore_n 1, 1) := by decide +kernel
theorem dX1_findForm_10 : decode cX1_findForm 10 = .ok (.aload_n 0, 1) := by decide +kernel
theorem dX1_findForm_11 : decode cX1_findForm 11 = .ok (.getfield 9, 3) := by decide +kernel
theorem dX1_findForm_14 : decode cX1_findForm 14 = .ok (.iconst 0, 1) := by decide +kernel
theorem dX1_findForm_15 : decode cX1_findForm 15 = .ok (.iaload, 1) := by decide +kernel
theorem dX1_findForm_16 : decode cX1_findForm 16 = .ok (.aload_n 0, 1) := by decide +kernel
theorem dX1_findForm_17 : decode cX1_findForm 17 = .ok (.getfield 9, 3) := by decide +kernel
theorem dX1_findForm_20 : decode cX1_findForm 20 = .ok (.iconst 4, 1) := by decide +kernel
theorem dX1_findForm_21 : decode cX1_findForm 21 = .ok (.iaload, 1) := by decide +kernel
theorem dX1_findForm_22 : decode cX1_findForm 22 = .ok (.iadd, 1) := by decide +kernel
theorem dX1_findForm_23 : decode cX1_findForm 23 = .ok (.aload_n 0, 1) := by decide +kernel
theorem dX1_findForm_24 : decode cX1_findForm 24 = .ok (.getfield 9, 3) := by decide +kernel
theorem dX1_findForm_27 : decode cX1_findForm 27 = .ok (.bipush 8, 2) := by decide +kernel
theorem dX1_findForm_29 : decode cX1_findForm 29 = .ok (.iaload, 1) := by decide +kernel
theorem dX1_findForm_30 : decode cX1_findForm 30 = .ok (.iadd, 1) := by decide +kernel
theorem dX1_findForm_31 : decode cX1_findForm 31 = .ok (.i2l, 1) := by decide +kernel
theorem dX1_findForm_32 : decode cX1_findForm 32 = .ok (.lstore_n 2, 1) := by decide +kernel
theorem dX1_findForm_33 : decode cX1_findForm 33 = .ok (.aload_n 0, 1) := by decide +kernel
theorem dX1_findForm_34 : decode cX1_findForm 34 = .ok (.getfield 9, 3) := by decide +kernel
theorem dX1_findForm_37 : decode cX1_findForm 37 = .ok (.iconst 0, 1) := by decide +kernel
theorem dX1_findForm_38 : decode cX1_findForm 38 = .ok (.iaload, 1) := by decide +kernel
theorem dX1_findForm_39 : decode cX1_findForm 39 = .ok (.aload_n 0, 1) := by decide +kernel
theorem dX1_findForm_40 : decode cX1_findForm 40 = .ok (.getfield 9, 3) := by decide +kernel
theorem dX1_findForm_43 : decode cX1_findForm 43 = .ok (.iconst 4, 1) := by decide +kernel
theorem dX1_findForm_44 : decode cX1_findForm 44 = .ok (.iaload, 1) := by decide +kernel
theorem dX1_findForm_45 : decode cX1_findForm 45 = .ok (.imul, 1) := by decide +kernel
theorem dX1_findForm_46 : decode cX1_findForm 46 = .ok (.aload_n 0, 1) := by decide +kernel
theorem dX1_findForm_47 : decode cX1_findForm 47 = .ok (.getfield 9, 3) := by decide +kernel
theorem dX1_findForm_50 : decode cX1_findForm 50 = .ok (.iconst 1, 1) := by decide +kernel
theorem dX1_findForm_51 : decode cX1_findForm 51 = .ok (.iaload, 1) := by decide +kernel
theorem dX1_findForm_52 : decode cX1_findForm 52 = .ok (.aload_n 0, 1) := by decide +kernel
theorem dX1_findForm_53 : decode cX1_findForm 53 = .ok (.getfield 9, 3) := by decide +kernel
theorem dX1_findForm_56 : decode cX1_findForm 56 = .ok (.iconst 3, 1) := by decide +kernel
theorem dX1_findForm_57 : decode cX1_findForm 57 = .ok (.iaload, 1) := by decide +kernel
theorem dX1_findForm_58 : decode cX1_findForm 58 = .ok (.imul, 1) := by decide +kernel
theorem dX1_findForm_59 : decode cX1_findForm 59 = .ok (.isub, 1) := by decide +kernel
theorem dX1_findForm_60 : decode cX1_findForm 60 = .ok (.aload_n 0, 1) := by decide +kernel
theorem dX1_findForm_61 : decode cX1_findForm 61 = .ok (.getfield 9, 3) := by decide +kernel
theorem dX1_findForm_64 : decode cX1_findForm 64 = .ok (.iconst 0, 1) := by decide +kernel
theorem dX1_findForm_65 : decode cX1_findForm 65 = .ok (.iaload, 1) := by decide +kernel
theorem dX1_findForm_66 : decode cX1_findForm 66 = .ok (.aload_n 0, 1) := by decide +kernel
theorem dX1_findForm_67 : decode cX1_findForm 67 = .ok (.getfield 9, 3) := by decide +kernel
theorem dX1_findForm_70 : decode cX1_findForm 70 = .ok (.bipush 8, 2) := by decide +kernel
theorem dX1_findForm_72 : decode cX1_findForm 72 = .ok (.iaload, 1) := by decide +kernel
theorem dX1_findForm_73 : decode cX1_findForm 73 = .ok (.imul, 1) := by decide +kernel
theorem dX1_findForm_74 : decode cX1_findForm 74 = .ok (.iadd, 1) := by decide +kernel
theorem dX1_findForm_75 : decode cX1_findForm 75 = .ok (.aload_n 0, 1) := by decide +kernel
theorem dX1_findForm_76 : decode cX1_findForm 76 = .ok (.getfield 9, 3) := by decide +kernel
theorem dX1_findForm_79 : decode cX1_findForm 79 = .ok (.iconst 2, 1) := by decide +kernel
theorem dX1_findForm_80 : decode cX1_findForm 80 = .ok (.iaload, 1) := by decide +kernel
theorem dX1_findForm_81 : decode cX1_findForm 81 = .ok (.aload_n 0, 1) := by decide +kernel
theorem dX1_findForm_82 : decode cX1_findForm 82 = .ok (.getfield 9, 3) := by decide +kernel
theorem dX1_findForm_85 : decode cX1_findForm 85 = .ok (.bipush 6, 2) := by decide +kernel
theorem dX1_findForm_87 : decode cX1_findForm 87 = .ok (.iaload, 1) := by decide +kernel
theorem dX1_findForm_88 : decode cX1_findForm 88 = .ok (.imul, 1) := by decide +kernel
theorem dX1_findForm_89 : decode cX1_findForm 89 = .ok (.isub, 1) := by decide +kernel
theorem dX1_findForm_90 : decode cX1_findForm 90 = .ok (.aload_n 0, 1) := by decide +kernel
theorem dX1_findForm_91 : decode cX1_findForm 91 = .ok (.getfield 9, 3) := by decide +kernel
theorem dX1_findForm_94 : decode cX1_findForm 94 = .ok (.iconst 4, 1) := by decide +kernel
theorem dX1_findForm_95 : decode cX1_findForm 95 = .ok (.iaload, 1) := by decide +kernel
theorem dX1_findForm_96 : decode cX1_findForm 96 = .ok (.aload_n 0, 1) := by decide +kernel
theorem dX1_findForm_97 : decode cX1_findForm 97 = .ok (.getfield 9, 3) := by decide +kernel
theorem dX1_findForm_100 : decode cX1_findForm 100 = .ok (.bipush 8, 2) := by decide +kernel
theorem dX1_findForm_102 : decode cX1_findForm 102 = .ok (.iaload, 1) := by decide +kernel
theorem dX1_findForm_103 : decode cX1_findForm 103 = .ok (.imul, 1) := by decide +kernel
theorem dX1_findForm_104 : decode cX1_findForm 104 = .ok (.iadd, 1) := by decide +kernel
theorem dX1_findForm_105 : decode cX1_findForm 105 = .ok (.aload_n 0, 1) := by decide +kernel
theorem dX1_findForm_106 : decode cX1_findForm 106 = .ok (.getfield 9, 3) := by decide +kernel
theorem dX1_findForm_109 : decode cX1_findForm 109 = .ok (.iconst 5, 1) := by decide +kernel
theorem dX1_findForm_110 : decode cX1_findForm 110 = .ok (.iaload, 1) := by decide +kernel
theorem dX1_findForm_111 : decode cX1_findForm 111 = .ok (.aload_n 0, 1) := by decide +kernel
theorem dX1_findForm_112 : decode cX1_findForm 112 = .ok (.getfield 9, 3) := by decide +kernel
theorem dX1_findForm_115 : decode cX1_findForm 115 = .ok (.bipush 7, 2) := by decide +kernel
theorem dX1_findForm_117 : decode cX1_findForm 117 = .ok (.iaload, 1) := by decide +kernel
theorem dX1_findForm_118 : decode cX1_findForm 118 = .ok (.imul, 1) := by decide +kernel
theorem dX1_findForm_119 : decode cX1_findForm 119 = .ok (.isub, 1) := by decide +kernel
theorem dX1_findForm_120 : decode cX1_findForm 120 = .ok (.i2l, 1) := by decide +kernel
theorem dX1_findForm_121 : decode cX1_findForm 121 = .ok (.lstore 4, 2) := by decide +kernel
theorem dX1_findForm_123 : decode cX1_findForm 123 = .ok (.iconst 0, 1) := by decide +kernel
theorem dX1_findForm_124 : decode cX1_findForm 124 = .ok (.istore 6, 2) := by decide +kernel
theorem dX1_findForm_126 : decode cX1_findForm 126 = .ok (.iload 6, 2) := by decide +kernel
theorem dX1_findForm_128 : decode cX1_findForm 128 = .ok (.bipush 9, 2) := by decide +kernel
theorem dX1_findForm_130 : decode cX1_findForm 130 = .ok (.if_icmp .ge 24, 3) := by decide +kernel
theorem dX1_findForm_133 : decode cX1_findForm 133 = .ok (.aload_n 0, 1) := by decide +kernel
theorem dX1_findForm_134 : decode cX1_findForm 134 = .ok (.getfield 25, 3) := by decide +kernel
theorem dX1_findForm_137 : decode cX1_findForm 137 = .ok (.iload 6, 2) := by decide +kernel
theorem dX1_findForm_139 : decode cX1_findForm 139 = .ok (.aload_n 0, 1) := by decide +kernel
theorem dX1_findForm_140 : decode cX1_findForm 140 = .ok (.getfield 9, 3) := by decide +kernel
theorem dX1_findForm_143 : decode cX1_findForm 143 = .ok (.iload 6, 2) := by decide +kernel
theorem dX1_findForm_145 : decode cX1_findForm 145 = .ok (.iaload, 1) := by decide +kernel
theorem dX1_findForm_146 : decode cX1_findForm 146 = .ok (.i2l, 1) := by decide +kernel
theorem dX1_findForm_147 : decode cX1_findForm 147 = .ok (.lastore, 1) := by decide +kernel
theorem dX1_findForm_148 : decode cX1_findForm 148 = .ok (.iinc 6 1, 3) := by decide +kernel
theorem dX1_findForm_151 : decode cX1_findForm 151 = .ok (.goto (-25), 3) := by decide +kernel
theorem dX1_findForm_154 : decode cX1_findForm 154 = .ok (.aload_n 0, 1) := by decide +kernel
theorem dX1_findForm_155 : decode cX1_findForm 155 = .ok (.iconst 0, 1) := by decide +kernel
theorem dX1_findForm_156 : decode cX1_findForm 156 = .ok (.iconst 1, 1) := by decide +kernel
theorem dX1_findForm_157 : decode cX1_findForm 157 = .ok (.iconst 2, 1) := by decide +kernel
theorem dX1_findForm_158 : decode cX1_findForm 158 = .ok (.invokevirtual 140, 3) := by decide +kernel
theorem dX1_findForm_161 : decode cX1_findForm 161 = .ok (.lstore 6, 2) := by decide +kernel
theorem dX1_findForm_163 : decode cX1_findForm 163 = .ok (.aload_n 0, 1) := by decide +kernel
theorem dX1_findForm_164 : decode cX1_findForm 164 = .ok (.getfield 21, 3) := by decide +kernel
theorem dX1_findForm_167 : decode cX1_findForm 167 = .ok (.lconst 0, 1) := by decide +kernel
theorem dX1_findForm_168 : decode cX1_findForm 168 = .ok (.invokestatic 144, 3) := by decide +kernel
theorem dX1_findForm_171 : decode cX1_findForm 171 = .ok (.iload_n 1, 1) := by decide +kernel
theorem dX1_findForm_172 : decode cX1_findForm 172 = .ok (.iconst 1, 1) := by decide +kernel
theorem dX1_findForm_173 : decode cX1_findForm 173 = .ok (.if_icmp .lt 20, 3) := by decide +kernel
theorem dX1_findForm_176 : decode cX1_findForm 176 = .ok (.aload_n 0, 1) := by decide +kernel
theorem dX1_findForm_177 : decode cX1_findForm 177 = .ok (.getfield 21, 3) := by decide +kernel
theorem dX1_findForm_180 : decode cX1_findForm 180 = .ok (.iload_n 1, 1) := by decide +kernel
theorem dX1_findForm_181 : decode cX1_findForm 181 = .ok (.lconst 1, 1) := by decide +kernel
theorem dX1_findForm_182 : decode cX1_findForm 182 = .ok (.lastore, 1) := by decide +kernel
theorem dX1_findForm_183 : decode cX1_findForm 183 = .ok (.aload_n 0, 1) := by decide +kernel
theorem dX1_findForm_184 : decode cX1_findForm 184 = .ok (.getfield 21, 3) := by decide +kernel
theorem dX1_findForm_187 : decode cX1_findForm 187 = .ok (.iload_n 1, 1) := by decide +kernel
theorem dX1_findForm_188 : decode cX1_findForm 188 = .ok (.iconst 1, 1) := by decide +kernel
theorem dX1_findForm_189 : decode cX1_findForm 189 = .ok (.isub, 1) := by decide +kernel
theorem dX1_findForm_190 : decode cX1_findForm 190 = .ok (.lload_n 2, 1) := by decide +kernel
theorem dX1_findForm_191 : decode cX1_findForm 191 = .ok (.lneg, 1) := by decide +kernel
theorem dX1_findForm_192 : decode cX1_findForm 192 = .ok (.lastore, 1) := by decide +kernel
theorem dX1_findForm_193 : decode cX1_findForm 193 = .ok (.iload_n 1, 1) := by decide +kernel
theorem dX1_findForm_194 : decode cX1_findForm 194 = .ok (.iconst 2, 1) := by decide +kernel
theorem dX1_findForm_195 : decode cX1_findForm 195 = .ok (.if_icmp .lt 13, 3) := by decide +kernel
theorem dX1_findForm_198 : decode cX1_findForm 198 = .ok (.aload_n 0, 1) := by decide +kernel
theorem dX1_findForm_199 : decode cX1_findForm 199 = .ok (.getfield 21, 3) := by decide +kernel
theorem dX1_findForm_202 : decode cX1_findForm 202 = .ok (.iload_n 1, 1) := by decide +kernel
theorem dX1_findForm_203 : decode cX1_findForm 203 = .ok (.iconst 2, 1) := by decide +kernel
theorem dX1_findForm_204 : decode cX1_findForm 204 = .ok (.isub, 1) := by decide +kernel
theorem dX1_findForm_205 : decode cX1_findForm 205 = .ok (.lload 4, 2) := by decide +kernel
theorem dX1_findForm_207 : decode cX1_findForm 207 = .ok (.lastore, 1) := by decide +kernel
theorem dX1_findForm_208 : decode cX1_findForm 208 = .ok (.iload_n 1, 1) := by decide +kernel
theorem dX1_findForm_209 : decode cX1_findForm 209 = .ok (.iconst 3, 1) := by decide +kernel
theorem dX1_findForm_210 : decode cX1_findForm 210 = .ok (.if_icmp .lt 14, 3) := by decide +kernel
theorem dX1_findForm_213 : decode cX1_findForm 213 = .ok (.aload_n 0, 1) := by decide +kernel
theorem dX1_findForm_214 : decode cX1_findForm 214 = .ok (.getfield 21, 3) := by decide +kernel
theorem dX1_findForm_217 : decode cX1_findForm 217 = .ok (.iload_n 1, 1) := by decide +kernel
theorem dX1_findForm_218 : decode cX1_findForm 218 = .ok (.iconst 3, 1) := by decide +kernel
theorem dX1_findForm_219 : decode cX1_findForm 219 = .ok (.isub, 1) := by decide +kernel
theorem dX1_findForm_220 : decode cX1_findForm 220 = .ok (.lload 6, 2) := by decide +kernel
theorem dX1_findForm_222 : decode cX1_findForm 222 = .ok (.lneg, 1) := by decide +kernel
theorem dX1_findForm_223 : decode cX1_findForm 223 = .ok (.lastore, 1) := by decide +kernel
theorem dX1_findForm_224 : decode cX1_findForm 224 = .ok (.return_, 1) := by decide +kernel
def s_X1_findForm_208  (l0 : Nat) (l1 : Int32) (l6 : Int64) (h : aH) : aO :=
  if l1 < 3 then (some (.inl none, h)) else ((gO h (.ref l0) 1 6).bind fun x214 => (stJ h (.ref x214) (l1 - 3) (-l6)).bind fun h223 => some (.inl none, h223))
def s_X1_findForm_193  (l0 : Nat) (l1 : Int32) (l4 : Int64) (l6 : Int64) (h : aH) : aO :=
  if l1 < 2 then (s_X1_findForm_208 l0 l1 l6 h) else ((gO h (.ref l0) 1 6).bind fun x199 => (stJ h (.ref x199) (l1 - 2) l4).bind fun h207 => s_X1_findForm_208 l0 l1 l6 h207)
def s_X1_findForm_126_b  (k126 : Nat → Int32 → Int64 → Int64 → Int32 → aH → aO) (l0 : Nat) (l1 : Int32) (l2 : Int64) (l4 : Int64) (l6 : Int32) (h : aH) : aO :=
  if 9 ≤ l6 then (kO h l0 1 (cJ (s_X1_determinant l0 0 1 2 h) fun x158 h158 => (gO h158 (.ref l0) 1 6).bind fun x164 => cN (s_J7_fill_d0a16 x164 0 h158) fun h168 => if l1 < 1 then (s_X1_findForm_193 l0 l1 l4 x158 h168) else ((gO h168 (.ref l0) 1 6).bind fun x177 => (stJ h168 (.ref x177) l1 1).bind fun h182 => (gO h182 (.ref l0) 1 6).bind fun x184 => (stJ h182 (.ref x184) (l1 - 1) (-l2)).bind fun h192 => s_X1_findForm_193 l0 l1 l4 x158 h192))) else ((gO h (.ref l0) 1 7).bind fun x134 => (gO h (.ref l0) 1 3).bind fun x140 => (ldI .int h (.ref x140) l6).bind fun x145 => (stJ h (.ref x134) l6 x145.toInt64).bind fun h147 => k126 l0 l1 l2 l4 (l6 + 1) h147)
def s_X1_findForm_126  (n : Nat) : Nat → Int32 → Int64 → Int64 → Int32 → aH → aO := lpF (fun _ _ _ _ _ _ => none) (s_X1_findForm_126_b ) n
def s_X1_findForm (o : Nat) (h : aH) : aO :=
  (gO h (.ref o) 1 0).bind fun x1 => (gO h (.ref x1) 2 0).bind fun x4 => (ldI .int h (.ref x4) 0).bind fun x8 => (gO h (.ref o) 1 3).bind fun x11 => (ldI .int h (.ref x11) 0).bind fun x15 => (gO h (.ref o) 1 3).bind fun x17 => (ldI .int h (.ref x17) 4).bind fun x21 => (gO h (.ref o) 1 3).bind fun x24 => (ldI .int h (.ref x24) 8).bind fun x29 => (gO h (.ref o) 1 3).bind fun x34 => (ldI .int h (.ref x34) 0).bind fun x38 => (gO h (.ref o) 1 3).bind fun x40 => (ldI .int h (.ref x40) 4).bind fun x44 => (gO h (.ref o) 1 3).bind fun x47 => (ldI .int h (.ref x47) 1).bind fun x51 => (gO h (.ref o) 1 3).bind fun x53 => (ldI .int h (.ref x53) 3).bind fun x57 => (gO h (.ref o) 1 3).bind fun x61 => (ldI .int h (.ref x61) 0).bind fun x65 => (gO h (.ref o) 1 3).bind fun x67 => (ldI .int h (.ref x67) 8).bind fun x72 => (gO h (.ref o) 1 3).bind fun x76 => (ldI .int h (.ref x76) 2).bind fun x80 => (gO h (.ref o) 1 3).bind fun x82 => (ldI .int h (.ref x82) 6).bind fun x87 => (gO h (.ref o) 1 3).bind fun x91 => (ldI .int h (.ref x91) 4).bind fun x95 => (gO h (.ref o) 1 3).bind fun x97 => (ldI .int h (.ref x97) 8).bind fun x102 => (gO h (.ref o) 1 3).bind fun x106 => (ldI .int h (.ref x106) 5).bind fun x110 => (gO h (.ref o) 1 3).bind fun x112 => (ldI .int h (.ref x112) 7).bind fun x117 => s_X1_findForm_126 FU o x8 (((x15 + x21) + x29).toInt64) (((((((x38 * x44) - (x51 * x57)) + (x65 * x72)) - (x80 * x87)) + (x95 * x102)) - (x110 * x117)).toInt64) 0 h
section
variable {p : Program} {l : Launch} {e : Env} {s : State} {m : MethodId} {args : Array Value} {below : List Frame} {meth : Method} {c : Code} {D : va_G} {B0 : Nat} {X : Nat → Nat} {ws0 : va_W} {r : aR} {h' : aH} {mc ms : Nat}
theorem t_X1_findForm_208 (C : Cx p l s m args meth c B0 X RX1 "findForm" cX1_findForm 8 none [])   {l0 : Nat} {l1 : Int32} {l6 : Int64} {h : aH} (hs : s_X1_findForm_208  l0 l1 l6 h = some (r, h')) : Ev p l e { frames := 1, cells := mc, slots := ms, locals := 26 } s m args below meth c D B0 X ws0 r h' mc ms 8 mc ms 208 [some (.ref l0), some (.int l1), none, none, none, none, some (.long l6), none] [] h := by
  unfold s_X1_findForm_208 at hs
  refine ev_iload_n C rfl dX1_findForm_208 ?_
  refine ev_iconst C (v := 3) dX1_findForm_209 (by decide) ?_
  refine ev_icmp_lt C (tgt := 224) (by decide) dX1_findForm_210 (fun q210 => ?_) (fun q210 => ?_)
  · replace hs := (if_pos q210).symm.trans hs
    cases hs
    exact ev_vret C rfl rfl (Nat.le_refl _) (Nat.le_refl _) rfl dX1_findForm_224
  · replace hs := (if_neg q210).symm.trans hs
    refine ev_aload_n C (x := .ref l0) rfl trivial dX1_findForm_213 ?_
    obtain ⟨x214, e214, hs⟩ := aB hs
    refine ev_get C (ci := 1) (k := 6) rfl wu_1 (by decide) wf_X1_21 (gO_F e214) dX1_findForm_214 ?_
    refine ev_iload_n C rfl dX1_findForm_217 ?_
    refine ev_iconst C (v := 3) dX1_findForm_218 (by decide) ?_
    refine ev_isub C dX1_findForm_219 ?_
    refine ev_lload C rfl dX1_findForm_220 ?_
    refine ev_lneg C dX1_findForm_222 ?_
    obtain ⟨h223, e223, hs⟩ := aB hs
    refine ev_last C e223 dX1_findForm_223 ?_
    cases hs
    exact ev_vret C rfl rfl (Nat.le_refl _) (Nat.le_refl _) rfl dX1_findForm_224
theorem t_X1_findForm_193 (C : Cx p l s m args meth c B0 X RX1 "findForm" cX1_findForm 8 none [])   {l0 : Nat} {l1 : Int32} {l4 : Int64} {l6 : Int64} {h : aH} (hs : s_X1_findForm_193  l0 l1 l4 l6 h = some (r, h')) : Ev p l e { frames := 1, cells := mc, slots := ms, locals := 26 } s m args below meth c D B0 X ws0 r h' mc ms 8 mc ms 193 [some (.ref l0), some (.int l1), none, none, some (.long l4), none, some (.long l6), none] [] h := by
  unfold s_X1_findForm_193 at hs
  refine ev_iload_n C rfl dX1_findForm_193 ?_
  refine ev_iconst C (v := 2) dX1_findForm_194 (by decide) ?_
  refine ev_icmp_lt C (tgt := 208) (by decide) dX1_findForm_195 (fun q195 => ?_) (fun q195 => ?_)
  · replace hs := (if_pos q195).symm.trans hs
    exact Ev.keep [true, true, true, true, false, true, true, true] (t_X1_findForm_208 C  hs)
  · replace hs := (if_neg q195).symm.trans hs
    refine ev_aload_n C (x := .ref l0) rfl trivial dX1_findForm_198 ?_
    obtain ⟨x199, e199, hs⟩ := aB hs
    refine ev_get C (ci := 1) (k := 6) rfl wu_1 (by decide) wf_X1_21 (gO_F e199) dX1_findForm_199 ?_
    refine ev_iload_n C rfl dX1_findForm_202 ?_
    refine ev_iconst C (v := 2) dX1_findForm_203 (by decide) ?_
    refine ev_isub C dX1_findForm_204 ?_
    refine ev_lload C rfl dX1_findForm_205 ?_
    obtain ⟨h207, e207, hs⟩ := aB hs
    refine ev_last C e207 dX1_findForm_207 ?_
    exact Ev.keep [true, true, true, true, false, true, true, true] (t_X1_findForm_208 C  hs)
theorem t_X1_findForm_126_b (C : Cx p l s m args meth c B0 X RX1 "findForm" cX1_findForm 8 none [])   {k126 : Nat → Int32 → Int64 → Int64 → Int32 → aH → aO} (K126 : ∀ (l0 : Nat) (l1 : Int32) (l2 : Int64) (l4 : Int64) (l6 : Int32) (h : aH), k126 l0 l1 l2 l4 l6 h = some (r, h') → Ev p l e { frames := 1, cells := mc, slots := ms, locals := 26 } s m args below meth c D B0 X ws0 r h' mc ms 8 mc ms 126 [some (.ref l0), some (.int l1), some (.long l2), none, some (.long l4), none, some (.int l6), none] [] h) {l0 : Nat} {l1 : Int32} {l2 : Int64} {l4 : Int64} {l6 : Int32} {h : aH} (hs : s_X1_findForm_126_b  k126 l0 l1 l2 l4 l6 h = some (r, h')) : Ev p l e { frames := 1, cells := mc, slots := ms, locals := 26 } s m args below meth c D B0 X ws0 r h' mc ms 8 mc ms 126 [some (.ref l0), some (.int l1), some (.long l2), none, some (.long l4), none, some (.int l6), none] [] h := by
  unfold s_X1_findForm_126_b at hs
  refine ev_iload C rfl dX1_findForm_126 ?_
  refine ev_bipush C (v := 9) dX1_findForm_128 (by decide) ?_
  refine ev_icmp_ge C (tgt := 154) (by decide) dX1_findForm_130 (fun q130 => ?_) (fun q130 => ?_)
  · replace hs := (if_pos q130).symm.trans hs
    refine ev_aload_n C (x := .ref l0) rfl trivial dX1_findForm_154 ?_
    refine ev_iconst C (v := 0) dX1_findForm_155 (by decide) ?_
    refine ev_iconst C (v := 1) dX1_findForm_156 (by decide) ?_
    refine ev_iconst C (v := 2) dX1_findForm_157 (by decide) ?_
    obtain ⟨eo158, hs⟩ := kO_at hs
    obtain ⟨x158, h158, e158, hs⟩ := cJ_at hs
    refine ev_callV C (T_X1_determinant _ _ _ _ _ _ _ e158) (ci := 1) rfl eo158 wc_X1_determinant wm_X1_140 wi_X1_determinant ws_X1_determinant wz_X1 hy_X1_determinant ⟨(Nat.le_of_ble_eq_true rfl), (Nat.le_of_ble_eq_true rfl)⟩ ⟨(Nat.le_refl _), (Nat.le_refl _)⟩ (Nat.le_of_ble_eq_true rfl) rfl dX1_findForm_158 ?_
    refine ev_lstore C (by decide) dX1_findForm_161 ?_
    refine ev_aload_n C (x := .ref l0) rfl trivial dX1_findForm_163 ?_
    obtain ⟨x164, e164, hs⟩ := aB hs
    refine ev_get C (ci := 1) (k := 6) rfl wu_1 (by decide) wf_X1_21 (gO_F e164) dX1_findForm_164 ?_
    refine ev_lconst C (v := 0) dX1_findForm_167 (by decide) ?_
    obtain ⟨h168, e168, hs⟩ := cN_at hs
    refine ev_callS C (T_J7_fill_d0a16 _ _ _ _ _ e168) wc_J7_fill_d0a16 wm_X1_144 wt_J7_fill_d0a16 wz_J7 hy_J7_fill_d0a16 ⟨(Nat.le_of_ble_eq_true rfl), (Nat.le_of_ble_eq_true rfl)⟩ ⟨(Nat.le_refl _), (Nat.le_refl _)⟩ (Nat.le_of_ble_eq_true rfl) rfl dX1_findForm_168 ?_
    refine ev_iload_n C rfl dX1_findForm_171 ?_
    refine ev_iconst C (v := 1) dX1_findForm_172 (by decide) ?_
    refine ev_icmp_lt C (tgt := 193) (by decide) dX1_findForm_173 (fun q173 => ?_) (fun q173 => ?_)
    · replace hs := (if_pos q173).symm.trans hs
      exact Ev.keep [true, true, false, true, true, true, true, true] (t_X1_findForm_193 C  hs)
    · replace hs := (if_neg q173).symm.trans hs
      refine ev_aload_n C (x := .ref l0) rfl trivial dX1_findForm_176 ?_
      obtain ⟨x177, e177, hs⟩ := aB hs
      refine ev_get C (ci := 1) (k := 6) rfl wu_1 (by decide) wf_X1_21 (gO_F e177) dX1_findForm_177 ?_
      refine ev_iload_n C rfl dX1_findForm_180 ?_
      refine ev_lconst C (v := 1) dX1_findForm_181 (by decide) ?_
      obtain ⟨h182, e182, hs⟩ := aB hs
      refine ev_last C e182 dX1_findForm_182 ?_
      refine ev_aload_n C (x := .ref l0) rfl trivial dX1_findForm_183 ?_
      obtain ⟨x184, e184, hs⟩ := aB hs
      refine ev_get C (ci := 1) (k := 6) rfl wu_1 (by decide) wf_X1_21 (gO_F e184) dX1_findForm_184 ?_
      refine ev_iload_n C rfl dX1_findForm_187 ?_
      refine ev_iconst C (v := 1) dX1_findForm_188 (by decide) ?_
      refine ev_isub C dX1_findForm_189 ?_
      refine ev_lload_n C rfl dX1_findForm_190 ?_
      refine ev_lneg C dX1_findForm_191 ?_
      obtain ⟨h192, e192, hs⟩ := aB hs
      refine ev_last C e192 dX1_findForm_192 ?_
      exact Ev.keep [true, true, false, true, true, true, true, true] (t_X1_findForm_193 C  hs)
  · replace hs := (if_neg q130).symm.trans hs
    refine ev_aload_n C (x := .ref l0) rfl trivial dX1_findForm_133 ?_
    obtain ⟨x134, e134, hs⟩ := aB hs
    refine ev_get C (ci := 1) (k := 7) rfl wu_1 (by decide) wf_X1_25 (gO_F e134) dX1_findForm_134 ?_
    refine ev_iload C rfl dX1_findForm_137 ?_
    refine ev_aload_n C (x := .ref l0) rfl trivial dX1_findForm_139 ?_
    obtain ⟨x140, e140, hs⟩ := aB hs
    refine ev_get C (ci := 1) (k := 3) rfl wu_1 (by decide) wf_X1_9 (gO_F e140) dX1_findForm_140 ?_
    refine ev_iload C rfl dX1_findForm_143 ?_
    obtain ⟨x145, e145, hs⟩ := aB hs
    refine ev_iald C e145 dX1_findForm_145 ?_
    refine ev_i2l C dX1_findForm_146 ?_
    obtain ⟨h147, e147, hs⟩ := aB hs
    refine ev_last C e147 dX1_findForm_147 ?_
    refine ev_iinc C (i := 6) (n := 1) (x := l6) (v := l6 + 1) rfl (congrArg (fun z => l6 + z) (show Int32.ofInt 1 = 1 by decide)) (by decide) dX1_findForm_148 ?_
    refine ev_goto C (tgt := 126) (by decide) dX1_findForm_151 ?_
    exact (K126 _ _ _ _ _ _ hs)
theorem t_X1_findForm_126 (C : Cx p l s m args meth c B0 X RX1 "findForm" cX1_findForm 8 none [])   : ∀ (n : Nat) {l0 : Nat} {l1 : Int32} {l2 : Int64} {l4 : Int64} {l6 : Int32} {h : aH} (hs : s_X1_findForm_126  n l0 l1 l2 l4 l6 h = some (r, h')), Ev p l e { frames := 1, cells := mc, slots := ms, locals := 26 } s m args below meth c D B0 X ws0 r h' mc ms 8 mc ms 126 [some (.ref l0), some (.int l1), some (.long l2), none, some (.long l4), none, some (.int l6), none] [] h
  | 0, _, _, _, _, _, _, hs => nomatch hs
  | n + 1, _, _, _, _, _, _, hs => t_X1_findForm_126_b C  (k126 := s_X1_findForm_126  n) (fun _ _ _ _ _ _ hs => t_X1_findForm_126 C  n hs) hs
theorem hy_X1_findForm : yX1_findForm.cls ≠ "java/lang/invoke/MethodHandle" ∧ yX1_findForm.cls ≠ "java/lang/invoke/VarHandle" ∧ (parseMethodDescriptor yX1_findForm.desc).map (fun d => d.parameters.length) = some 0 := by decide +kernel
theorem T_X1_findForm (o : Nat) (h : aH) (r : aR) (h' : aH) (hs : s_X1_findForm o h = some (r, h')) : Mt yX1_findForm (Cond.code yX1_findForm cX1_findForm 8 none :: aTB) 1 26 0 0 [.ref o] h r h' := by
  unfold s_X1_findForm at hs
  refine Mt_of (k := 7) (by decide) rfl (fun p l e s m args below meth c D B0 X ws0 C => ?_)
  show Ev p l e { frames := 1, cells := 0, slots := 0, locals := 26 } s m args below meth c D B0 X ws0 r h' 0 0 8 0 0 0 [some (.ref o), none, none, none, none, none, none, none] [] h
  refine ev_aload_n C (x := .ref o) rfl trivial dX1_findForm_0 ?_
  obtain ⟨x1, e1, hs⟩ := aB hs
  refine ev_get C (ci := 1) (k := 0) rfl wu_1 (by decide) wf_X1_43 (gO_F e1) dX1_findForm_1 ?_
  obtain ⟨x4, e4, hs⟩ := aB hs
  refine ev_getN C (ci := 2) (k := 0) rfl wu_2 (by decide) wg_X1_92 (gO_F e4) dX1_findForm_4 ?_
  refine ev_iconst C (v := 0) dX1_findForm_7 (by decide) ?_
  obtain ⟨x8, e8, hs⟩ := aB hs
  refine ev_iald C e8 dX1_findForm_8 ?_
  refine ev_istore_n C (by decide) dX1_findForm_9 ?_
  refine ev_aload_n C (x := .ref o) rfl trivial dX1_findForm_10 ?_
  obtain ⟨x11, e11, hs⟩ := aB hs
  refine ev_get C (ci := 1) (k := 3) rfl wu_1 (by decide) wf_X1_9 (gO_F e11) dX1_findForm_11 ?_
  refine ev_iconst C (v := 0) dX1_findForm_14 (by decide) ?_
  obtain ⟨x15, e15, hs⟩ := aB hs
  refine ev_iald C e15 dX1_findForm_15 ?_
  refine ev_aload_n C (x := .ref o) rfl trivial dX1_findForm_16 ?_
  obtain ⟨x17, e17, hs⟩ := aB hs
  refine ev_get C (ci := 1) (k := 3) rfl wu_1 (by decide) wf_X1_9 (gO_F e17) dX1_findForm_17 ?_
  refine ev_iconst C (v := 4) dX1_findForm_20 (by decide) ?_
  obtain ⟨x21, e21, hs⟩ := aB hs
  refine ev_iald C e21 dX1_findForm_21 ?_
  refine ev_iadd C dX1_findForm_22 ?_
  refine ev_aload_n C (x := .ref o) rfl trivial dX1_findForm_23 ?_
  obtain ⟨x24, e24, hs⟩ := aB hs
  refine ev_get C (ci := 1) (k := 3) rfl wu_1 (by decide) wf_X1_9 (gO_F e24) dX1_findForm_24 ?_
  refine ev_bipush C (v := 8) dX1_findForm_27 (by decide) ?_
  obtain ⟨x29, e29, hs⟩ := aB hs
  refine ev_iald C e29 dX1_findForm_29 ?_
  refine ev_iadd C dX1_findForm_30 ?_
  refine ev_i2l C dX1_findForm_31 ?_
  refine ev_lstore_n C (by decide) dX1_findForm_32 ?_
  refine ev_aload_n C (x := .ref o) rfl trivial dX1_findForm_33 ?_
  obtain ⟨x34, e34, hs⟩ := aB hs
  refine ev_get C (ci := 1) (k := 3) rfl wu_1 (by decide) wf_X1_9 (gO_F e34) dX1_findForm_34 ?_
  refine ev_iconst C (v := 0) dX1_findForm_37 (by decide) ?_
  obtain ⟨x38, e38, hs⟩ := aB hs
  refine ev_iald C e38 dX1_findForm_38 ?_
  refine ev_aload_n C (x := .ref o) rfl trivial dX1_findForm_39 ?_
  obtain ⟨x40, e40, hs⟩ := aB hs
  refine ev_get C (ci := 1) (k := 3) rfl wu_1 (by decide) wf_X1_9 (gO_F e40) dX1_findForm_40 ?_
  refine ev_iconst C (v := 4) dX1_findForm_43 (by decide) ?_
  obtain ⟨x44, e44, hs⟩ := aB hs
  refine ev_iald C e44 dX1_findForm_44 ?_
  refine ev_imul C dX1_findForm_45 ?_
  refine ev_aload_n C (x := .ref o) rfl trivial dX1_findForm_46 ?_
  obtain ⟨x47, e47, hs⟩ := aB hs
  refine ev_get C (ci := 1) (k := 3) rfl wu_1 (by decide) wf_X1_9 (gO_F e47) dX1_findForm_47 ?_
  refine ev_iconst C (v := 1) dX1_findForm_50 (by decide) ?_
  obtain ⟨x51, e51, hs⟩ := aB hs
  refine ev_iald C e51 dX1_findForm_51 ?_
  refine ev_aload_n C (x := .ref o) rfl trivial dX1_findForm_52 ?_
  obtain ⟨x53, e53, hs⟩ := aB hs
  refine ev_get C (ci := 1) (k := 3) rfl wu_1 (by decide) wf_X1_9 (gO_F e53) dX1_findForm_53 ?_
  refine ev_iconst C (v := 3) dX1_findForm_56 (by decide) ?_
  obtain ⟨x57, e57, hs⟩ := aB hs
  refine ev_iald C e57 dX1_findForm_57 ?_
  refine ev_imul C dX1_findForm_58 ?_
  refine ev_isub C dX1_findForm_59 ?_
  refine ev_aload_n C (x := .ref o) rfl trivial dX1_findForm_60 ?_
  obtain ⟨x61, e61, hs⟩ := aB hs
  refine ev_get C (ci := 1) (k := 3) rfl wu_1 (by decide) wf_X1_9 (gO_F e61) dX1_findForm_61 ?_
  refine ev_iconst C (v := 0) dX1_findForm_64 (by decide) ?_
  obtain ⟨x65, e65, hs⟩ := aB hs
  refine ev_iald C e65 dX1_findForm_65 ?_
  refine ev_aload_n C (x := .ref o) rfl trivial dX1_findForm_66 ?_
  obtain ⟨x67, e67, hs⟩ := aB hs
  refine ev_get C (ci := 1) (k := 3) rfl wu_1 (by decide) wf_X1_9 (gO_F e67) dX1_findForm_67 ?_
  refine ev_bipush C (v := 8) dX1_findForm_70 (by decide) ?_
  obtain ⟨x72, e72, hs⟩ := aB hs
  refine ev_iald C e72 dX1_findForm_72 ?_
  refine ev_imul C dX1_findForm_73 ?_
  refine ev_iadd C dX1_findForm_74 ?_
  refine ev_aload_n C (x := .ref o) rfl trivial dX1_findForm_75 ?_
  obtain ⟨x76, e76, hs⟩ := aB hs
  refine ev_get C (ci := 1) (k := 3) rfl wu_1 (by decide) wf_X1_9 (gO_F e76) dX1_findForm_76 ?_
  refine ev_iconst C (v := 2) dX1_findForm_79 (by decide) ?_
  obtain ⟨x80, e80, hs⟩ := aB hs
  refine ev_iald C e80 dX1_findForm_80 ?_
  refine ev_aload_n C (x := .ref o) rfl trivial dX1_findForm_81 ?_
  obtain ⟨x82, e82, hs⟩ := aB hs
  refine ev_get C (ci := 1) (k := 3) rfl wu_1 (by decide) wf_X1_9 (gO_F e82) dX1_findForm_82 ?_
  refine ev_bipush C (v := 6) dX1_findForm_85 (by decide) ?_
  obtain ⟨x87, e87, hs⟩ := aB hs
  refine ev_iald C e87 dX1_findForm_87 ?_
  refine ev_imul C dX1_findForm_88 ?_
  refine ev_isub C dX1_findForm_89 ?_
  refine ev_aload_n C (x := .ref o) rfl trivial dX1_findForm_90 ?_
  obtain ⟨x91, e91, hs⟩ := aB hs
  refine ev_get C (ci := 1) (k := 3) rfl wu_1 (by decide) wf_X1_9 (gO_F e91) dX1_findForm_91 ?_
  refine ev_iconst C (v := 4) dX1_findForm_94 (by decide) ?_
  obtain ⟨x95, e95, hs⟩ := aB hs
  refine ev_iald C e95 dX1_findForm_95 ?_
  refine ev_aload_n C (x := .ref o) rfl trivial dX1_findForm_96 ?_
  obtain ⟨x97, e97, hs⟩ := aB hs
  refine ev_get C (ci := 1) (k := 3) rfl wu_1 (by decide) wf_X1_9 (gO_F e97) dX1_findForm_97 ?_
  refine ev_bipush C (v := 8) dX1_findForm_100 (by decide) ?_
  obtain ⟨x102, e102, hs⟩ := aB hs
  refine ev_iald C e102 dX1_findForm_102 ?_
  refine ev_imul C dX1_findForm_103 ?_
  refine ev_iadd C dX1_findForm_104 ?_
  refine ev_aload_n C (x := .ref o) rfl trivial dX1_findForm_105 ?_
  obtain ⟨x106, e106, hs⟩ := aB hs
  refine ev_get C (ci := 1) (k := 3) rfl wu_1 (by decide) wf_X1_9 (gO_F e106) dX1_findForm_106 ?_
  refine ev_iconst C (v := 5) dX1_findForm_109 (by decide) ?_
  obtain ⟨x110, e110, hs⟩ := aB hs
  refine ev_iald C e110 dX1_findForm_110 ?_
  refine ev_aload_n C (x := .ref o) rfl trivial dX1_findForm_111 ?_
  obtain ⟨x112, e112, hs⟩ := aB hs
  refine ev_get C (ci := 1) (k := 3) rfl wu_1 (by decide) wf_X1_9 (gO_F e112) dX1_findForm_112 ?_
  refine ev_bipush C (v := 7) dX1_findForm_115 (by decide) ?_
  obtain ⟨x117, e117, hs⟩ := aB hs
  refine ev_iald C e117 dX1_findForm_117 ?_
  refine ev_imul C dX1_findForm_118 ?_
  refine ev_isub C dX1_findForm_119 ?_
  refine ev_i2l C dX1_findForm_120 ?_
  refine ev_lstore C (by decide) dX1_findForm_121 ?_
  refine ev_iconst C (v := 0) dX1_findForm_123 (by decide) ?_
  refine ev_istore C (by decide) dX1_findForm_124 ?_
  exact (t_X1_findForm_126 C  FU hs)
end
