-- X11_cell
theorem dX11_cell_0 : decode cX11_cell 0 = .ok (.aload_n 0, 1) := by decide +kernel
theorem dX11_cell_1 : decode cX11_cell 1 = .ok (.getfield 120, 3) := by decide +kernel
theorem dX11_cell_4 : decode cX11_cell 4 = .ok (.ifCond .ne 5, 3) := by decide +kernel
theorem dX11_cell_7 : decode cX11_cell 7 = .ok (.iconst (-1), 1) := by decide +kernel
theorem dX11_cell_8 : decode cX11_cell 8 = .ok (.ireturn, 1) := by decide +kernel
theorem dX11_cell_9 : decode cX11_cell 9 = .ok (.aload_n 0, 1) := by decide +kernel
theorem dX11_cell_10 : decode cX11_cell 10 = .ok (.getfield 13, 3) := by decide +kernel
theorem dX11_cell_13 : decode cX11_cell 13 = .ok (.iconst 0, 1) := by decide +kernel
theorem dX11_cell_14 : decode cX11_cell 14 = .ok (.iload_n 1, 1) := by decide +kernel
theorem dX11_cell_15 : decode cX11_cell 15 = .ok (.iastore, 1) := by decide +kernel
theorem dX11_cell_16 : decode cX11_cell 16 = .ok (.aload_n 0, 1) := by decide +kernel
theorem dX11_cell_17 : decode cX11_cell 17 = .ok (.getfield 13, 3) := by decide +kernel
theorem dX11_cell_20 : decode cX11_cell 20 = .ok (.iconst 1, 1) := by decide +kernel
theorem dX11_cell_21 : decode cX11_cell 21 = .ok (.iload_n 2, 1) := by decide +kernel
theorem dX11_cell_22 : decode cX11_cell 22 = .ok (.iastore, 1) := by decide +kernel
theorem dX11_cell_23 : decode cX11_cell 23 = .ok (.aload_n 0, 1) := by decide +kernel
theorem dX11_cell_24 : decode cX11_cell 24 = .ok (.getfield 13, 3) := by decide +kernel
theorem dX11_cell_27 : decode cX11_cell 27 = .ok (.iconst 2, 1) := by decide +kernel
theorem dX11_cell_28 : decode cX11_cell 28 = .ok (.iload_n 3, 1) := by decide +kernel
theorem dX11_cell_29 : decode cX11_cell 29 = .ok (.iastore, 1) := by decide +kernel
theorem dX11_cell_30 : decode cX11_cell 30 = .ok (.aload_n 0, 1) := by decide +kernel
theorem dX11_cell_31 : decode cX11_cell 31 = .ok (.getfield 19, 3) := by decide +kernel
theorem dX11_cell_34 : decode cX11_cell 34 = .ok (.aload_n 0, 1) := by decide +kernel
theorem dX11_cell_35 : decode cX11_cell 35 = .ok (.getfield 13, 3) := by decide +kernel
theorem dX11_cell_38 : decode cX11_cell 38 = .ok (.invokevirtual 195, 3) := by decide +kernel
theorem dX11_cell_41 : decode cX11_cell 41 = .ok (.istore 4, 2) := by decide +kernel
theorem dX11_cell_43 : decode cX11_cell 43 = .ok (.iload 4, 2) := by decide +kernel
theorem dX11_cell_45 : decode cX11_cell 45 = .ok (.ifCond .ge 7, 3) := by decide +kernel
theorem dX11_cell_48 : decode cX11_cell 48 = .ok (.iconst (-1), 1) := by decide +kernel
theorem dX11_cell_49 : decode cX11_cell 49 = .ok (.goto 5, 3) := by decide +kernel
theorem dX11_cell_52 : decode cX11_cell 52 = .ok (.iload 4, 2) := by decide +kernel
theorem dX11_cell_54 : decode cX11_cell 54 = .ok (.ireturn, 1) := by decide +kernel
def s_X11_cell (o : Nat) (a1 : Int32) (a2 : Int32) (a3 : Int32) (h : aH) : aO :=
  (gI h (.ref o) 11 2).bind fun x1 => if x1 = 0 then (some (.inl (some (.int (-1))), h)) else ((gO h (.ref o) 11 6).bind fun x10 => (stI h (.ref x10) 0 a1).bind fun h15 => (gO h15 (.ref o) 11 6).bind fun x17 => (stI h15 (.ref x17) 1 a2).bind fun h22 => (gO h22 (.ref o) 11 6).bind fun x24 => (stI h22 (.ref x24) 2 a3).bind fun h29 => (gO h29 (.ref o) 11 7).bind fun x31 => (gO h29 (.ref o) 11 6).bind fun x35 => kO h29 x31 2 (cI (s_X2_cellOf x31 x35 h29) fun x38 h38 => if 0 ≤ x38 then (some (.inl (some (.int x38)), h38)) else (some (.inl (some (.int (-1))), h38))))
section
variable {p : Program} {l : Launch} {e : Env} {s : State} {m : MethodId} {args : Array Value} {below : List Frame} {meth : Method} {c : Code} {D : va_G} {B0 : Nat} {X : Nat → Nat} {ws0 : va_W} {r : aR} {h' : aH} {mc ms : Nat}
theorem hy_X11_cell : yX11_cell.cls ≠ "java/lang/invoke/MethodHandle" ∧ yX11_cell.cls ≠ "java/lang/invoke/VarHandle" ∧ (parseMethodDescriptor yX11_cell.desc).map (fun d => d.parameters.length) = some 3 := by decide +kernel
theorem T_X11_cell (o : Nat) (a1 : Int32) (a2 : Int32) (a3 : Int32) (h : aH) (r : aR) (h' : aH) (hs : s_X11_cell o a1 a2 a3 h = some (r, h')) : Mt yX11_cell (Cond.code yX11_cell cX11_cell 5 (some .int) :: aTB) 2 46 0 0 [.ref o, .int a1, .int a2, .int a3] h r h' := by
  unfold s_X11_cell at hs
  refine Mt_of (k := 1) (by decide) rfl (fun p l e s m args below meth c D B0 X ws0 C => ?_)
  show Ev p l e { frames := 2, cells := 0, slots := 0, locals := 46 } s m args below meth c D B0 X ws0 r h' 0 0 5 0 0 0 [some (.ref o), some (.int a1), some (.int a2), some (.int a3), none] [] h
  refine ev_aload_n C (x := .ref o) rfl trivial dX11_cell_0 ?_
  obtain ⟨x1, e1, hs⟩ := aB hs
  refine ev_get C (ci := 11) (k := 2) rfl wu_11 (by decide) wf_X11_120 (gI_F e1) dX11_cell_1 ?_
  refine ev_if_ne C (tgt := 9) (by decide) dX11_cell_4 (fun q4 => ?_) (fun q4 => ?_)
  · replace hs := (if_neg q4).symm.trans hs
    refine ev_aload_n C (x := .ref o) rfl trivial dX11_cell_9 ?_
    obtain ⟨x10, e10, hs⟩ := aB hs
    refine ev_get C (ci := 11) (k := 6) rfl wu_11 (by decide) wf_X11_13 (gO_F e10) dX11_cell_10 ?_
    refine ev_iconst C (v := 0) dX11_cell_13 (by decide) ?_
    refine ev_iload_n C rfl dX11_cell_14 ?_
    obtain ⟨h15, e15, hs⟩ := aB hs
    refine ev_iast C e15 dX11_cell_15 ?_
    refine ev_aload_n C (x := .ref o) rfl trivial dX11_cell_16 ?_
    obtain ⟨x17, e17, hs⟩ := aB hs
    refine ev_get C (ci := 11) (k := 6) rfl wu_11 (by decide) wf_X11_13 (gO_F e17) dX11_cell_17 ?_
    refine ev_iconst C (v := 1) dX11_cell_20 (by decide) ?_
    refine ev_iload_n C rfl dX11_cell_21 ?_
    obtain ⟨h22, e22, hs⟩ := aB hs
    refine ev_iast C e22 dX11_cell_22 ?_
    refine ev_aload_n C (x := .ref o) rfl trivial dX11_cell_23 ?_
    obtain ⟨x24, e24, hs⟩ := aB hs
    refine ev_get C (ci := 11) (k := 6) rfl wu_11 (by decide) wf_X11_13 (gO_F e24) dX11_cell_24 ?_
    refine ev_iconst C (v := 2) dX11_cell_27 (by decide) ?_
    refine ev_iload_n C rfl dX11_cell_28 ?_
    obtain ⟨h29, e29, hs⟩ := aB hs
    refine ev_iast C e29 dX11_cell_29 ?_
    refine ev_aload_n C (x := .ref o) rfl trivial dX11_cell_30 ?_
    obtain ⟨x31, e31, hs⟩ := aB hs
    refine ev_get C (ci := 11) (k := 7) rfl wu_11 (by decide) wf_X11_19 (gO_F e31) dX11_cell_31 ?_
    refine ev_aload_n C (x := .ref o) rfl trivial dX11_cell_34 ?_
    obtain ⟨x35, e35, hs⟩ := aB hs
    refine ev_get C (ci := 11) (k := 6) rfl wu_11 (by decide) wf_X11_13 (gO_F e35) dX11_cell_35 ?_
    obtain ⟨eo38, hs⟩ := kO_at hs
    obtain ⟨x38, h38, e38, hs⟩ := cI_at hs
    refine ev_callVN C (T_X2_cellOf _ _ _ _ _ e38) (ci := 2) rfl eo38 wc_X2_cellOf wn_X11_195 wi_X2_cellOf ws_X2_cellOf wz_X2 hy_X2_cellOf ⟨(Nat.le_of_ble_eq_true rfl), (Nat.le_of_ble_eq_true rfl)⟩ ⟨(Nat.le_refl _), (Nat.le_refl _)⟩ (Nat.le_of_ble_eq_true rfl) rfl dX11_cell_38 ?_
    refine ev_istore C (by decide) dX11_cell_41 ?_
    refine ev_iload C rfl dX11_cell_43 ?_
    refine ev_if_ge C (tgt := 52) (by decide) dX11_cell_45 (fun q45 => ?_) (fun q45 => ?_)
    · replace hs := (if_pos q45).symm.trans hs
      refine ev_iload C rfl dX11_cell_52 ?_
      cases hs
      exact ev_iret C rfl rfl (Nat.le_refl _) (Nat.le_refl _) rfl dX11_cell_54
    · replace hs := (if_neg q45).symm.trans hs
      refine ev_iconst C (v := (-1)) dX11_cell_48 (by decide) ?_
      refine ev_goto C (tgt := 54) (by decide) dX11_cell_49 ?_
      cases hs
      exact ev_iret C rfl rfl (Nat.le_refl _) (Nat.le_refl _) rfl dX11_cell_54
  · replace hs := (if_pos q4).symm.trans hs
    refine ev_iconst C (v := (-1)) dX11_cell_7 (by decide) ?_
    cases hs
    exact ev_iret C rfl rfl (Nat.le_refl _) (Nat.le_refl _) rfl dX11_cell_8
end
-- X11_hasCell
theorem dX11_hasCell_0 : decode cX11_hasCell 0 = .ok (.aload_n 0, 1) := by decide +kernel
theorem dX11_hasCell_1 : decode cX11_hasCell 1 = .ok (.getfield 120, 3) := by decide +kernel
theorem dX11_hasCell_4 : decode cX11_hasCell 4 = .ok (.ifCond .eq 22, 3) := by decide +kernel
theorem dX11_hasCell_7 : decode cX11_hasCell 7 = .ok (.iload_n 1, 1) := by decide +kernel
theorem dX11_hasCell_8 : decode cX11_hasCell 8 = .ok (.ifCond .lt 18, 3) := by decide +kernel
theorem dX11_hasCell_11 : decode cX11_hasCell 11 = .ok (.iload_n 1, 1) := by decide +kernel
theorem dX11_hasCell_12 : decode cX11_hasCell 12 = .ok (.aload_n 0, 1) := by decide +kernel
theorem dX11_hasCell_13 : decode cX11_hasCell 13 = .ok (.getfield 19, 3) := by decide +kernel
theorem dX11_hasCell_16 : decode cX11_hasCell 16 = .ok (.getfield 135, 3) := by decide +kernel
theorem dX11_hasCell_19 : decode cX11_hasCell 19 = .ok (.if_icmp .ge 7, 3) := by decide +kernel
theorem dX11_hasCell_22 : decode cX11_hasCell 22 = .ok (.iconst 1, 1) := by decide +kernel
theorem dX11_hasCell_23 : decode cX11_hasCell 23 = .ok (.goto 4, 3) := by decide +kernel
theorem dX11_hasCell_26 : decode cX11_hasCell 26 = .ok (.iconst 0, 1) := by decide +kernel
theorem dX11_hasCell_27 : decode cX11_hasCell 27 = .ok (.ireturn, 1) := by decide +kernel
def s_X11_hasCell (o : Nat) (a1 : Int32) (h : aH) : aO :=
  (gI h (.ref o) 11 2).bind fun x1 => if x1 = 0 then (rtZ 0 h) else (if a1 < 0 then (rtZ 0 h) else ((gO h (.ref o) 11 7).bind fun x13 => (gI h (.ref x13) 2 12).bind fun x16 => if x16 ≤ a1 then (rtZ 0 h) else (rtZ 1 h)))
section
variable {p : Program} {l : Launch} {e : Env} {s : State} {m : MethodId} {args : Array Value} {below : List Frame} {meth : Method} {c : Code} {D : va_G} {B0 : Nat} {X : Nat → Nat} {ws0 : va_W} {r : aR} {h' : aH} {mc ms : Nat}
theorem hy_X11_hasCell : yX11_hasCell.cls ≠ "java/lang/invoke/MethodHandle" ∧ yX11_hasCell.cls ≠ "java/lang/invoke/VarHandle" ∧ (parseMethodDescriptor yX11_hasCell.desc).map (fun d => d.parameters.length) = some 1 := by decide +kernel
theorem T_X11_hasCell (o : Nat) (a1 : Int32) (h : aH) (r : aR) (h' : aH) (hs : s_X11_hasCell o a1 h = some (r, h')) : Mt yX11_hasCell (Cond.code yX11_hasCell cX11_hasCell 2 (some .boolean) :: aTB) 0 0 0 0 [.ref o, .int a1] h r h' := by
  unfold s_X11_hasCell at hs
  refine Mt_of (k := 0) (by decide) rfl (fun p l e s m args below meth c D B0 X ws0 C => ?_)
  show Ev p l e { frames := 0, cells := 0, slots := 0, locals := 0 } s m args below meth c D B0 X ws0 r h' 0 0 2 0 0 0 [some (.ref o), some (.int a1)] [] h
  refine ev_aload_n C (x := .ref o) rfl trivial dX11_hasCell_0 ?_
  obtain ⟨x1, e1, hs⟩ := aB hs
  refine ev_get C (ci := 11) (k := 2) rfl wu_11 (by decide) wf_X11_120 (gI_F e1) dX11_hasCell_1 ?_
  refine ev_if_eq C (tgt := 26) (by decide) dX11_hasCell_4 (fun q4 => ?_) (fun q4 => ?_)
  · replace hs := (if_pos q4).symm.trans hs
    refine ev_iconst C (v := 0) dX11_hasCell_26 (by decide) ?_
    obtain ⟨hz, rfl, rfl⟩ := rtZ_at hs
    exact ev_zret C rfl hz rfl (Nat.le_refl _) (Nat.le_refl _) rfl dX11_hasCell_27
  · replace hs := (if_neg q4).symm.trans hs
    refine ev_iload_n C rfl dX11_hasCell_7 ?_
    refine ev_if_lt C (tgt := 26) (by decide) dX11_hasCell_8 (fun q8 => ?_) (fun q8 => ?_)
    · replace hs := (if_pos q8).symm.trans hs
      refine ev_iconst C (v := 0) dX11_hasCell_26 (by decide) ?_
      obtain ⟨hz, rfl, rfl⟩ := rtZ_at hs
      exact ev_zret C rfl hz rfl (Nat.le_refl _) (Nat.le_refl _) rfl dX11_hasCell_27
    · replace hs := (if_neg q8).symm.trans hs
      refine ev_iload_n C rfl dX11_hasCell_11 ?_
      refine ev_aload_n C (x := .ref o) rfl trivial dX11_hasCell_12 ?_
      obtain ⟨x13, e13, hs⟩ := aB hs
      refine ev_get C (ci := 11) (k := 7) rfl wu_11 (by decide) wf_X11_19 (gO_F e13) dX11_hasCell_13 ?_
      obtain ⟨x16, e16, hs⟩ := aB hs
      refine ev_getN C (ci := 2) (k := 12) rfl wu_2 (by decide) wg_X11_135 (gI_F e16) dX11_hasCell_16 ?_
      refine ev_icmp_ge C (tgt := 26) (by decide) dX11_hasCell_19 (fun q19 => ?_) (fun q19 => ?_)
      · replace hs := (if_pos q19).symm.trans hs
        refine ev_iconst C (v := 0) dX11_hasCell_26 (by decide) ?_
        obtain ⟨hz, rfl, rfl⟩ := rtZ_at hs
        exact ev_zret C rfl hz rfl (Nat.le_refl _) (Nat.le_refl _) rfl dX11_hasCell_27
      · replace hs := (if_neg q19).symm.trans hs
        refine ev_iconst C (v := 1) dX11_hasCell_22 (by decide) ?_
        refine ev_goto C (tgt := 27) (by decide) dX11_hasCell_23 ?_
        obtain ⟨hz, rfl, rfl⟩ := rtZ_at hs
        exact ev_zret C rfl hz rfl (Nat.le_refl _) (Nat.le_refl _) rfl dX11_hasCell_27
end
-- X11_state
theorem dX11_state_0 : decode cX11_state 0 = .ok (.aload_n 0, 1) := by decide +kernel
theorem dX11_state_1 : decode cX11_state 1 = .ok (.iload_n 1, 1) := by decide +kernel
theorem dX11_state_2 : decode cX11_state 2 = .ok (.invokevirtual 199, 3) := by decide +kernel
theorem dX11_state_5 : decode cX11_state 5 = .ok (.ifCond .eq 20, 3) := by decide +kernel
theorem dX11_state_8 : decode cX11_state 8 = .ok (.iload_n 2, 1) := by decide +kernel
theorem dX11_state_9 : decode cX11_state 9 = .ok (.ifCond .lt 16, 3) := by decide +kernel
theorem dX11_state_12 : decode cX11_state 12 = .ok (.iload_n 2, 1) := by decide +kernel
theorem dX11_state_13 : decode cX11_state 13 = .ok (.aload_n 0, 1) := by decide +kernel
theorem dX11_state_14 : decode cX11_state 14 = .ok (.getfield 19, 3) := by decide +kernel
theorem dX11_state_17 : decode cX11_state 17 = .ok (.getfield 173, 3) := by decide +kernel
theorem dX11_state_20 : decode cX11_state 20 = .ok (.iconst 0, 1) := by decide +kernel
theorem dX11_state_21 : decode cX11_state 21 = .ok (.iaload, 1) := by decide +kernel
theorem dX11_state_22 : decode cX11_state 22 = .ok (.if_icmp .lt 6, 3) := by decide +kernel
theorem dX11_state_25 : decode cX11_state 25 = .ok (.ldc 202, 2) := by decide +kernel
theorem dX11_state_27 : decode cX11_state 27 = .ok (.ireturn, 1) := by decide +kernel
theorem dX11_state_28 : decode cX11_state 28 = .ok (.aload_n 0, 1) := by decide +kernel
theorem dX11_state_29 : decode cX11_state 29 = .ok (.getfield 19, 3) := by decide +kernel
theorem dX11_state_32 : decode cX11_state 32 = .ok (.iconst 0, 1) := by decide +kernel
theorem dX11_state_33 : decode cX11_state 33 = .ok (.iload_n 1, 1) := by decide +kernel
theorem dX11_state_34 : decode cX11_state 34 = .ok (.iconst 0, 1) := by decide +kernel
theorem dX11_state_35 : decode cX11_state 35 = .ok (.aload_n 0, 1) := by decide +kernel
theorem dX11_state_36 : decode cX11_state 36 = .ok (.getfield 13, 3) := by decide +kernel
theorem dX11_state_39 : decode cX11_state 39 = .ok (.invokevirtual 203, 3) := by decide +kernel
theorem dX11_state_42 : decode cX11_state 42 = .ok (.aload_n 0, 1) := by decide +kernel
theorem dX11_state_43 : decode cX11_state 43 = .ok (.getfield 13, 3) := by decide +kernel
theorem dX11_state_46 : decode cX11_state 46 = .ok (.getstatic 207, 3) := by decide +kernel
theorem dX11_state_49 : decode cX11_state 49 = .ok (.iconst 0, 1) := by decide +kernel
theorem dX11_state_50 : decode cX11_state 50 = .ok (.iaload, 1) := by decide +kernel
theorem dX11_state_51 : decode cX11_state 51 = .ok (.iload_n 2, 1) := by decide +kernel
theorem dX11_state_52 : decode cX11_state 52 = .ok (.iadd, 1) := by decide +kernel
theorem dX11_state_53 : decode cX11_state 53 = .ok (.iaload, 1) := by decide +kernel
theorem dX11_state_54 : decode cX11_state 54 = .ok (.ireturn, 1) := by decide +kernel
def s_X11_state_25   (h : aH) : aO :=
  some (.inl (some (.int (-2147483648))), h)
def s_X11_state (o : Nat) (a1 : Int32) (a2 : Int32) (h : aH) : aO :=
  kO h o 11 (cI (s_X11_hasCell o a1 h) fun x2 h2 => if x2 = 0 then (s_X11_state_25 h2) else (if a2 < 0 then (s_X11_state_25 h2) else ((gO h2 (.ref o) 11 7).bind fun x14 => (gO h2 (.ref x14) 2 0).bind fun x17 => (ldI .int h2 (.ref x17) 0).bind fun x21 => if a2 < x21 then ((gO h2 (.ref o) 11 7).bind fun x29 => (gO h2 (.ref o) 11 6).bind fun x36 => kO h2 x29 2 (cN (s_X2_spread x29 0 a1 0 x36 h2) fun h39 => (gO h39 (.ref o) 11 6).bind fun x43 => (ldI .int h39 (.ref (aE + 1)) 0).bind fun x50 => (ldI .int h39 (.ref x43) (x50 + a2)).bind fun x53 => some (.inl (some (.int x53)), h39))) else (s_X11_state_25 h2))))
section
variable {p : Program} {l : Launch} {e : Env} {s : State} {m : MethodId} {args : Array Value} {below : List Frame} {meth : Method} {c : Code} {D : va_G} {B0 : Nat} {X : Nat → Nat} {ws0 : va_W} {r : aR} {h' : aH} {mc ms : Nat}
theorem t_X11_state_25 (C : Cx p l s m args meth c B0 X RX11 "state" cX11_state 3 (some .int) [])    {h : aH} (hs : s_X11_state_25   h = some (r, h')) : Ev p l e { frames := 2, cells := mc, slots := ms, locals := 50 } s m args below meth c D B0 X ws0 r h' mc ms 3 mc ms 25 [none, none, none] [] h := by
  unfold s_X11_state_25 at hs
  refine ev_ldc C wv_X11_202 dX11_state_25 ?_
  cases hs
  exact ev_iret C rfl rfl (Nat.le_refl _) (Nat.le_refl _) rfl dX11_state_27
theorem hy_X11_state : yX11_state.cls ≠ "java/lang/invoke/MethodHandle" ∧ yX11_state.cls ≠ "java/lang/invoke/VarHandle" ∧ (parseMethodDescriptor yX11_state.desc).map (fun d => d.parameters.length) = some 2 := by decide +kernel
theorem T_X11_state (o : Nat) (a1 : Int32) (a2 : Int32) (h : aH) (r : aR) (h' : aH) (hs : s_X11_state o a1 a2 h = some (r, h')) : Mt yX11_state (Cond.code yX11_state cX11_state 3 (some .int) :: aTB) 2 50 0 0 [.ref o, .int a1, .int a2] h r h' := by
  unfold s_X11_state at hs
  refine Mt_of (k := 0) (by decide) rfl (fun p l e s m args below meth c D B0 X ws0 C => ?_)
  show Ev p l e { frames := 2, cells := 0, slots := 0, locals := 50 } s m args below meth c D B0 X ws0 r h' 0 0 3 0 0 0 [some (.ref o), some (.int a1), some (.int a2)] [] h
  refine ev_aload_n C (x := .ref o) rfl trivial dX11_state_0 ?_
  refine ev_iload_n C rfl dX11_state_1 ?_
  obtain ⟨eo2, hs⟩ := kO_at hs
  obtain ⟨x2, h2, e2, hs⟩ := cI_at hs
  refine ev_callV C (T_X11_hasCell _ _ _ _ _ e2) (ci := 11) rfl eo2 wc_X11_hasCell wm_X11_199 wi_X11_hasCell ws_X11_hasCell wz_X11 hy_X11_hasCell ⟨(Nat.le_of_ble_eq_true rfl), (Nat.le_of_ble_eq_true rfl)⟩ ⟨(Nat.le_refl _), (Nat.le_refl _)⟩ (Nat.le_of_ble_eq_true rfl) rfl dX11_state_2 ?_
  refine ev_if_eq C (tgt := 25) (by decide) dX11_state_5 (fun q5 => ?_) (fun q5 => ?_)
  · replace hs := (if_pos q5).symm.trans hs
    exact Ev.keep [false, false, false] (t_X11_state_25 C  hs)
  · replace hs := (if_neg q5).symm.trans hs
    refine ev_iload_n C rfl dX11_state_8 ?_
    refine ev_if_lt C (tgt := 25) (by decide) dX11_state_9 (fun q9 => ?_) (fun q9 => ?_)
    · replace hs := (if_pos q9).symm.trans hs
      exact Ev.keep [false, false, false] (t_X11_state_25 C  hs)
    · replace hs := (if_neg q9).symm.trans hs
      refine ev_iload_n C rfl dX11_state_12 ?_
      refine ev_aload_n C (x := .ref o) rfl trivial dX11_state_13 ?_
      obtain ⟨x14, e14, hs⟩ := aB hs
      refine ev_get C (ci := 11) (k := 7) rfl wu_11 (by decide) wf_X11_19 (gO_F e14) dX11_state_14 ?_
      obtain ⟨x17, e17, hs⟩ := aB hs
      refine ev_getN C (ci := 2) (k := 0) rfl wu_2 (by decide) wg_X11_173 (gO_F e17) dX11_state_17 ?_
      refine ev_iconst C (v := 0) dX11_state_20 (by decide) ?_
      obtain ⟨x21, e21, hs⟩ := aB hs
      refine ev_iald C e21 dX11_state_21 ?_
      refine ev_icmp_lt C (tgt := 28) (by decide) dX11_state_22 (fun q22 => ?_) (fun q22 => ?_)
      · replace hs := (if_pos q22).symm.trans hs
        refine ev_aload_n C (x := .ref o) rfl trivial dX11_state_28 ?_
        obtain ⟨x29, e29, hs⟩ := aB hs
        refine ev_get C (ci := 11) (k := 7) rfl wu_11 (by decide) wf_X11_19 (gO_F e29) dX11_state_29 ?_
        refine ev_iconst C (v := 0) dX11_state_32 (by decide) ?_
        refine ev_iload_n C rfl dX11_state_33 ?_
        refine ev_iconst C (v := 0) dX11_state_34 (by decide) ?_
        refine ev_aload_n C (x := .ref o) rfl trivial dX11_state_35 ?_
        obtain ⟨x36, e36, hs⟩ := aB hs
        refine ev_get C (ci := 11) (k := 6) rfl wu_11 (by decide) wf_X11_13 (gO_F e36) dX11_state_36 ?_
        obtain ⟨eo39, hs⟩ := kO_at hs
        obtain ⟨h39, e39, hs⟩ := cN_at hs
        refine ev_callVN C (T_X2_spread _ _ _ _ _ _ _ _ e39) (ci := 2) rfl eo39 wc_X2_spread wn_X11_203 wi_X2_spread ws_X2_spread wz_X2 hy_X2_spread ⟨(Nat.le_of_ble_eq_true rfl), (Nat.le_of_ble_eq_true rfl)⟩ ⟨(Nat.le_refl _), (Nat.le_refl _)⟩ (Nat.le_of_ble_eq_true rfl) rfl dX11_state_39 ?_
        refine ev_aload_n C (x := .ref o) rfl trivial dX11_state_42 ?_
        obtain ⟨x43, e43, hs⟩ := aB hs
        refine ev_get C (ci := 11) (k := 6) rfl wu_11 (by decide) wf_X11_13 (gO_F e43) dX11_state_43 ?_
        refine ev_getsBASE C wf_X11_207 dX11_state_46 ?_
        refine ev_iconst C (v := 0) dX11_state_49 (by decide) ?_
        obtain ⟨x50, e50, hs⟩ := aB hs
        refine ev_iald C e50 dX11_state_50 ?_
        refine ev_iload_n C rfl dX11_state_51 ?_
        refine ev_iadd C dX11_state_52 ?_
        obtain ⟨x53, e53, hs⟩ := aB hs
        refine ev_iald C e53 dX11_state_53 ?_
        cases hs
        exact ev_iret C rfl rfl (Nat.le_refl _) (Nat.le_refl _) rfl dX11_state_54
      · replace hs := (if_neg q22).symm.trans hs
        exact Ev.keep [false, false, false] (t_X11_state_25 C  hs)
end
-- X11_hasPush
theorem dX11_hasPush_0 : decode cX11_hasPush 0 = .ok (.aload_n 0, 1) := by decide +kernel
theorem dX11_hasPush_1 : decode cX11_hasPush 1 = .ok (.getfield 120, 3) := by decide +kernel
theorem dX11_hasPush_4 : decode cX11_hasPush 4 = .ok (.ifCond .eq 22, 3) := by decide +kernel
theorem dX11_hasPush_7 : decode cX11_hasPush 7 = .ok (.iload_n 1, 1) := by decide +kernel
theorem dX11_hasPush_8 : decode cX11_hasPush 8 = .ok (.ifCond .lt 18, 3) := by decide +kernel
theorem dX11_hasPush_11 : decode cX11_hasPush 11 = .ok (.iload_n 1, 1) := by decide +kernel
theorem dX11_hasPush_12 : decode cX11_hasPush 12 = .ok (.aload_n 0, 1) := by decide +kernel
theorem dX11_hasPush_13 : decode cX11_hasPush 13 = .ok (.getfield 19, 3) := by decide +kernel
theorem dX11_hasPush_16 : decode cX11_hasPush 16 = .ok (.getfield 176, 3) := by decide +kernel
theorem dX11_hasPush_19 : decode cX11_hasPush 19 = .ok (.if_icmp .ge 7, 3) := by decide +kernel
theorem dX11_hasPush_22 : decode cX11_hasPush 22 = .ok (.iconst 1, 1) := by decide +kernel
theorem dX11_hasPush_23 : decode cX11_hasPush 23 = .ok (.goto 4, 3) := by decide +kernel
theorem dX11_hasPush_26 : decode cX11_hasPush 26 = .ok (.iconst 0, 1) := by decide +kernel
theorem dX11_hasPush_27 : decode cX11_hasPush 27 = .ok (.ireturn, 1) := by decide +kernel
def s_X11_hasPush (o : Nat) (a1 : Int32) (h : aH) : aO :=
  (gI h (.ref o) 11 2).bind fun x1 => if x1 = 0 then (rtZ 0 h) else (if a1 < 0 then (rtZ 0 h) else ((gO h (.ref o) 11 7).bind fun x13 => (gI h (.ref x13) 2 13).bind fun x16 => if x16 ≤ a1 then (rtZ 0 h) else (rtZ 1 h)))
section
variable {p : Program} {l : Launch} {e : Env} {s : State} {m : MethodId} {args : Array Value} {below : List Frame} {meth : Method} {c : Code} {D : va_G} {B0 : Nat} {X : Nat → Nat} {ws0 : va_W} {r : aR} {h' : aH} {mc ms : Nat}
theorem hy_X11_hasPush : yX11_hasPush.cls ≠ "java/lang/invoke/MethodHandle" ∧ yX11_hasPush.cls ≠ "java/lang/invoke/VarHandle" ∧ (parseMethodDescriptor yX11_hasPush.desc).map (fun d => d.parameters.length) = some 1 := by decide +kernel
theorem T_X11_hasPush (o : Nat) (a1 : Int32) (h : aH) (r : aR) (h' : aH) (hs : s_X11_hasPush o a1 h = some (r, h')) : Mt yX11_hasPush (Cond.code yX11_hasPush cX11_hasPush 2 (some .boolean) :: aTB) 0 0 0 0 [.ref o, .int a1] h r h' := by
  unfold s_X11_hasPush at hs
  refine Mt_of (k := 0) (by decide) rfl (fun p l e s m args below meth c D B0 X ws0 C => ?_)
  show Ev p l e { frames := 0, cells := 0, slots := 0, locals := 0 } s m args below meth c D B0 X ws0 r h' 0 0 2 0 0 0 [some (.ref o), some (.int a1)] [] h
  refine ev_aload_n C (x := .ref o) rfl trivial dX11_hasPush_0 ?_
  obtain ⟨x1, e1, hs⟩ := aB hs
  refine ev_get C (ci := 11) (k := 2) rfl wu_11 (by decide) wf_X11_120 (gI_F e1) dX11_hasPush_1 ?_
  refine ev_if_eq C (tgt := 26) (by decide) dX11_hasPush_4 (fun q4 => ?_) (fun q4 => ?_)
  · replace hs := (if_pos q4).symm.trans hs
    refine ev_iconst C (v := 0) dX11_hasPush_26 (by decide) ?_
    obtain ⟨hz, rfl, rfl⟩ := rtZ_at hs
    exact ev_zret C rfl hz rfl (Nat.le_refl _) (Nat.le_refl _) rfl dX11_hasPush_27
  · replace hs := (if_neg q4).symm.trans hs
    refine ev_iload_n C rfl dX11_hasPush_7 ?_
    refine ev_if_lt C (tgt := 26) (by decide) dX11_hasPush_8 (fun q8 => ?_) (fun q8 => ?_)
    · replace hs := (if_pos q8).symm.trans hs
      refine ev_iconst C (v := 0) dX11_hasPush_26 (by decide) ?_
      obtain ⟨hz, rfl, rfl⟩ := rtZ_at hs
      exact ev_zret C rfl hz rfl (Nat.le_refl _) (Nat.le_refl _) rfl dX11_hasPush_27
    · replace hs := (if_neg q8).symm.trans hs
      refine ev_iload_n C rfl dX11_hasPush_11 ?_
      refine ev_aload_n C (x := .ref o) rfl trivial dX11_hasPush_12 ?_
      obtain ⟨x13, e13, hs⟩ := aB hs
      refine ev_get C (ci := 11) (k := 7) rfl wu_11 (by decide) wf_X11_19 (gO_F e13) dX11_hasPush_13 ?_
      obtain ⟨x16, e16, hs⟩ := aB hs
      refine ev_getN C (ci := 2) (k := 13) rfl wu_2 (by decide) wg_X11_176 (gI_F e16) dX11_hasPush_16 ?_
      refine ev_icmp_ge C (tgt := 26) (by decide) dX11_hasPush_19 (fun q19 => ?_) (fun q19 => ?_)
      · replace hs := (if_pos q19).symm.trans hs
        refine ev_iconst C (v := 0) dX11_hasPush_26 (by decide) ?_
        obtain ⟨hz, rfl, rfl⟩ := rtZ_at hs
        exact ev_zret C rfl hz rfl (Nat.le_refl _) (Nat.le_refl _) rfl dX11_hasPush_27
      · replace hs := (if_neg q19).symm.trans hs
        refine ev_iconst C (v := 1) dX11_hasPush_22 (by decide) ?_
        refine ev_goto C (tgt := 27) (by decide) dX11_hasPush_23 ?_
        obtain ⟨hz, rfl, rfl⟩ := rtZ_at hs
        exact ev_zret C rfl hz rfl (Nat.le_refl _) (Nat.le_refl _) rfl dX11_hasPush_27
end
-- X11_push
theorem dX11_push_0 : decode cX11_push 0 = .ok (.aload_n 0, 1) := by decide +kernel
theorem dX11_push_1 : decode cX11_push 1 = .ok (.iload_n 1, 1) := by decide +kernel
theorem dX11_push_2 : decode cX11_push 2 = .ok (.invokevirtual 210, 3) := by decide +kernel
theorem dX11_push_5 : decode cX11_push 5 = .ok (.ifCond .eq 20, 3) := by decide +kernel
theorem dX11_push_8 : decode cX11_push 8 = .ok (.iload_n 2, 1) := by decide +kernel
theorem dX11_push_9 : decode cX11_push 9 = .ok (.ifCond .lt 16, 3) := by decide +kernel
theorem dX11_push_12 : decode cX11_push 12 = .ok (.iload_n 2, 1) := by decide +kernel
theorem dX11_push_13 : decode cX11_push 13 = .ok (.aload_n 0, 1) := by decide +kernel
theorem dX11_push_14 : decode cX11_push 14 = .ok (.getfield 19, 3) := by decide +kernel
theorem dX11_push_17 : decode cX11_push 17 = .ok (.getfield 173, 3) := by decide +kernel
theorem dX11_push_20 : decode cX11_push 20 = .ok (.iconst 1, 1) := by decide +kernel
theorem dX11_push_21 : decode cX11_push 21 = .ok (.iaload, 1) := by decide +kernel
theorem dX11_push_22 : decode cX11_push 22 = .ok (.if_icmp .lt 6, 3) := by decide +kernel
theorem dX11_push_25 : decode cX11_push 25 = .ok (.ldc 202, 2) := by decide +kernel
theorem dX11_push_27 : decode cX11_push 27 = .ok (.ireturn, 1) := by decide +kernel
theorem dX11_push_28 : decode cX11_push 28 = .ok (.aload_n 0, 1) := by decide +kernel
theorem dX11_push_29 : decode cX11_push 29 = .ok (.getfield 19, 3) := by decide +kernel
theorem dX11_push_32 : decode cX11_push 32 = .ok (.iconst 1, 1) := by decide +kernel
theorem dX11_push_33 : decode cX11_push 33 = .ok (.iload_n 1, 1) := by decide +kernel
theorem dX11_push_34 : decode cX11_push 34 = .ok (.iconst 0, 1) := by decide +kernel
theorem dX11_push_35 : decode cX11_push 35 = .ok (.aload_n 0, 1) := by decide +kernel
theorem dX11_push_36 : decode cX11_push 36 = .ok (.getfield 13, 3) := by decide +kernel
theorem dX11_push_39 : decode cX11_push 39 = .ok (.invokevirtual 203, 3) := by decide +kernel
theorem dX11_push_42 : decode cX11_push 42 = .ok (.aload_n 0, 1) := by decide +kernel
theorem dX11_push_43 : decode cX11_push 43 = .ok (.getfield 13, 3) := by decide +kernel
theorem dX11_push_46 : decode cX11_push 46 = .ok (.getstatic 207, 3) := by decide +kernel
theorem dX11_push_49 : decode cX11_push 49 = .ok (.iconst 1, 1) := by decide +kernel
theorem dX11_push_50 : decode cX11_push 50 = .ok (.iaload, 1) := by decide +kernel
theorem dX11_push_51 : decode cX11_push 51 = .ok (.iload_n 2, 1) := by decide +kernel
theorem dX11_push_52 : decode cX11_push 52 = .ok (.iadd, 1) := by decide +kernel
theorem dX11_push_53 : decode cX11_push 53 = .ok (.iaload, 1) := by decide +kernel
theorem dX11_push_54 : decode cX11_push 54 = .ok (.ireturn, 1) := by decide +kernel
def s_X11_push_25   (h : aH) : aO :=
  some (.inl (some (.int (-2147483648))), h)
def s_X11_push (o : Nat) (a1 : Int32) (a2 : Int32) (h : aH) : aO :=
  kO h o 11 (cI (s_X11_hasPush o a1 h) fun x2 h2 => if x2 = 0 then (s_X11_push_25 h2) else (if a2 < 0 then (s_X11_push_25 h2) else ((gO h2 (.ref o) 11 7).bind fun x14 => (gO h2 (.ref x14) 2 0).bind fun x17 => (ldI .int h2 (.ref x17) 1).bind fun x21 => if a2 < x21 then ((gO h2 (.ref o) 11 7).bind fun x29 => (gO h2 (.ref o) 11 6).bind fun x36 => kO h2 x29 2 (cN (s_X2_spread x29 1 a1 0 x36 h2) fun h39 => (gO h39 (.ref o) 11 6).bind fun x43 => (ldI .int h39 (.ref (aE + 1)) 1).bind fun x50 => (ldI .int h39 (.ref x43) (x50 + a2)).bind fun x53 => some (.inl (some (.int x53)), h39))) else (s_X11_push_25 h2))))
section
variable {p : Program} {l : Launch} {e : Env} {s : State} {m : MethodId} {args : Array Value} {below : List Frame} {meth : Method} {c : Code} {D : va_G} {B0 : Nat} {X : Nat → Nat} {ws0 : va_W} {r : aR} {h' : aH} {mc ms : Nat}
theorem t_X11_push_25 (C : Cx p l s m args meth c B0 X RX11 "push" cX11_push 3 (some .int) [])    {h : aH} (hs : s_X11_push_25   h = some (r, h')) : Ev p l e { frames := 2, cells := mc, slots := ms, locals := 50 } s m args below meth c D B0 X ws0 r h' mc ms 3 mc ms 25 [none, none, none] [] h := by
  unfold s_X11_push_25 at hs
  refine ev_ldc C wv_X11_202 dX11_push_25 ?_
  cases hs
  exact ev_iret C rfl rfl (Nat.le_refl _) (Nat.le_refl _) rfl dX11_push_27
theorem hy_X11_push : yX11_push.cls ≠ "java/lang/invoke/MethodHandle" ∧ yX11_push.cls ≠ "java/lang/invoke/VarHandle" ∧ (parseMethodDescriptor yX11_push.desc).map (fun d => d.parameters.length) = some 2 := by decide +kernel
theorem T_X11_push (o : Nat) (a1 : Int32) (a2 : Int32) (h : aH) (r : aR) (h' : aH) (hs : s_X11_push o a1 a2 h = some (r, h')) : Mt yX11_push (Cond.code yX11_push cX11_push 3 (some .int) :: aTB) 2 50 0 0 [.ref o, .int a1, .int a2] h r h' := by
  unfold s_X11_push at hs
  refine Mt_of (k := 0) (by decide) rfl (fun p l e s m args below meth c D B0 X ws0 C => ?_)
  show Ev p l e { frames := 2, cells := 0, slots := 0, locals := 50 } s m args below meth c D B0 X ws0 r h' 0 0 3 0 0 0 [some (.ref o), some (.int a1), some (.int a2)] [] h
  refine ev_aload_n C (x := .ref o) rfl trivial dX11_push_0 ?_
  refine ev_iload_n C rfl dX11_push_1 ?_
  obtain ⟨eo2, hs⟩ := kO_at hs
  obtain ⟨x2, h2, e2, hs⟩ := cI_at hs
  refine ev_callV C (T_X11_hasPush _ _ _ _ _ e2) (ci := 11) rfl eo2 wc_X11_hasPush wm_X11_210 wi_X11_hasPush ws_X11_hasPush wz_X11 hy_X11_hasPush ⟨(Nat.le_of_ble_eq_true rfl), (Nat.le_of_ble_eq_true rfl)⟩ ⟨(Nat.le_refl _), (Nat.le_refl _)⟩ (Nat.le_of_ble_eq_true rfl) rfl dX11_push_2 ?_
  refine ev_if_eq C (tgt := 25) (by decide) dX11_push_5 (fun q5 => ?_) (fun q5 => ?_)
  · replace hs := (if_pos q5).symm.trans hs
    exact Ev.keep [false, false, false] (t_X11_push_25 C  hs)
  · replace hs := (if_neg q5).symm.trans hs
    refine ev_iload_n C rfl dX11_push_8 ?_
    refine ev_if_lt C (tgt := 25) (by decide) dX11_push_9 (fun q9 => ?_) (fun q9 => ?_)
    · replace hs := (if_pos q9).symm.trans hs
      exact Ev.keep [false, false, false] (t_X11_push_25 C  hs)
    · replace hs := (if_neg q9).symm.trans hs
      refine ev_iload_n C rfl dX11_push_12 ?_
      refine ev_aload_n C (x := .ref o) rfl trivial dX11_push_13 ?_
      obtain ⟨x14, e14, hs⟩ := aB hs
      refine ev_get C (ci := 11) (k := 7) rfl wu_11 (by decide) wf_X11_19 (gO_F e14) dX11_push_14 ?_
      obtain ⟨x17, e17, hs⟩ := aB hs
      refine ev_getN C (ci := 2) (k := 0) rfl wu_2 (by decide) wg_X11_173 (gO_F e17) dX11_push_17 ?_
      refine ev_iconst C (v := 1) dX11_push_20 (by decide) ?_
      obtain ⟨x21, e21, hs⟩ := aB hs
      refine ev_iald C e21 dX11_push_21 ?_
      refine ev_icmp_lt C (tgt := 28) (by decide) dX11_push_22 (fun q22 => ?_) (fun q22 => ?_)
      · replace hs := (if_pos q22).symm.trans hs
        refine ev_aload_n C (x := .ref o) rfl trivial dX11_push_28 ?_
        obtain ⟨x29, e29, hs⟩ := aB hs
        refine ev_get C (ci := 11) (k := 7) rfl wu_11 (by decide) wf_X11_19 (gO_F e29) dX11_push_29 ?_
        refine ev_iconst C (v := 1) dX11_push_32 (by decide) ?_
        refine ev_iload_n C rfl dX11_push_33 ?_
        refine ev_iconst C (v := 0) dX11_push_34 (by decide) ?_
        refine ev_aload_n C (x := .ref o) rfl trivial dX11_push_35 ?_
        obtain ⟨x36, e36, hs⟩ := aB hs
        refine ev_get C (ci := 11) (k := 6) rfl wu_11 (by decide) wf_X11_13 (gO_F e36) dX11_push_36 ?_
        obtain ⟨eo39, hs⟩ := kO_at hs
        obtain ⟨h39, e39, hs⟩ := cN_at hs
        refine ev_callVN C (T_X2_spread _ _ _ _ _ _ _ _ e39) (ci := 2) rfl eo39 wc_X2_spread wn_X11_203 wi_X2_spread ws_X2_spread wz_X2 hy_X2_spread ⟨(Nat.le_of_ble_eq_true rfl), (Nat.le_of_ble_eq_true rfl)⟩ ⟨(Nat.le_refl _), (Nat.le_refl _)⟩ (Nat.le_of_ble_eq_true rfl) rfl dX11_push_39 ?_
        refine ev_aload_n C (x := .ref o) rfl trivial dX11_push_42 ?_
        obtain ⟨x43, e43, hs⟩ := aB hs
        refine ev_get C (ci := 11) (k := 6) rfl wu_11 (by decide) wf_X11_13 (gO_F e43) dX11_push_43 ?_
        refine ev_getsBASE C wf_X11_207 dX11_push_46 ?_
        refine ev_iconst C (v := 1) dX11_push_49 (by decide) ?_
        obtain ⟨x50, e50, hs⟩ := aB hs
        refine ev_iald C e50 dX11_push_50 ?_
        refine ev_iload_n C rfl dX11_push_51 ?_
        refine ev_iadd C dX11_push_52 ?_
        obtain ⟨x53, e53, hs⟩ := aB hs
        refine ev_iald C e53 dX11_push_53 ?_
        cases hs
        exact ev_iret C rfl rfl (Nat.le_refl _) (Nat.le_refl _) rfl dX11_push_54
      · replace hs := (if_neg q22).symm.trans hs
        exact Ev.keep [false, false, false] (t_X11_push_25 C  hs)
end
-- X11_hasMove
theorem dX11_hasMove_0 : decode cX11_hasMove 0 = .ok (.aload_n 0, 1) := by decide +kernel
theorem dX11_hasMove_1 : decode cX11_hasMove 1 = .ok (.iload_n 1, 1) := by decide +kernel
theorem dX11_hasMove_2 : decode cX11_hasMove 2 = .ok (.invokevirtual 199, 3) := by decide +kernel
theorem dX11_hasMove_5 : decode cX11_hasMove 5 = .ok (.ifCond .eq 30, 3) := by decide +kernel
theorem dX11_hasMove_8 : decode cX11_hasMove 8 = .ok (.aload_n 0, 1) := by decide +kernel
theorem dX11_hasMove_9 : decode cX11_hasMove 9 = .ok (.iload_n 2, 1) := by decide +kernel
theorem dX11_hasMove_10 : decode cX11_hasMove 10 = .ok (.invokevirtual 210, 3) := by decide +kernel
theorem dX11_hasMove_13 : decode cX11_hasMove 13 = .ok (.ifCond .eq 22, 3) := by decide +kernel
theorem dX11_hasMove_16 : decode cX11_hasMove 16 = .ok (.iload_n 3, 1) := by decide +kernel
theorem dX11_hasMove_17 : decode cX11_hasMove 17 = .ok (.ifCond .lt 18, 3) := by decide +kernel
theorem dX11_hasMove_20 : decode cX11_hasMove 20 = .ok (.iload_n 3, 1) := by decide +kernel
theorem dX11_hasMove_21 : decode cX11_hasMove 21 = .ok (.aload_n 0, 1) := by decide +kernel
theorem dX11_hasMove_22 : decode cX11_hasMove 22 = .ok (.getfield 19, 3) := by decide +kernel
theorem dX11_hasMove_25 : decode cX11_hasMove 25 = .ok (.getfield 179, 3) := by decide +kernel
theorem dX11_hasMove_28 : decode cX11_hasMove 28 = .ok (.if_icmp .ge 7, 3) := by decide +kernel
theorem dX11_hasMove_31 : decode cX11_hasMove 31 = .ok (.iconst 1, 1) := by decide +kernel
theorem dX11_hasMove_32 : decode cX11_hasMove 32 = .ok (.goto 4, 3) := by decide +kernel
theorem dX11_hasMove_35 : decode cX11_hasMove 35 = .ok (.iconst 0, 1) := by decide +kernel
theorem dX11_hasMove_36 : decode cX11_hasMove 36 = .ok (.ireturn, 1) := by decide +kernel
def s_X11_hasMove (o : Nat) (a1 : Int32) (a2 : Int32) (a3 : Int32) (h : aH) : aO :=
  kO h o 11 (cI (s_X11_hasCell o a1 h) fun x2 h2 => if x2 = 0 then (rtZ 0 h2) else (kO h2 o 11 (cI (s_X11_hasPush o a2 h2) fun x10 h10 => if x10 = 0 then (rtZ 0 h10) else (if a3 < 0 then (rtZ 0 h10) else ((gO h10 (.ref o) 11 7).bind fun x22 => (gI h10 (.ref x22) 2 14).bind fun x25 => if x25 ≤ a3 then (rtZ 0 h10) else (rtZ 1 h10))))))
section
variable {p : Program} {l : Launch} {e : Env} {s : State} {m : MethodId} {args : Array Value} {below : List Frame} {meth : Method} {c : Code} {D : va_G} {B0 : Nat} {X : Nat → Nat} {ws0 : va_W} {r : aR} {h' : aH} {mc ms : Nat}
theorem hy_X11_hasMove : yX11_hasMove.cls ≠ "java/lang/invoke/MethodHandle" ∧ yX11_hasMove.cls ≠ "java/lang/invoke/VarHandle" ∧ (parseMethodDescriptor yX11_hasMove.desc).map (fun d => d.parameters.length) = some 3 := by decide +kernel
theorem T_X11_hasMove (o : Nat) (a1 : Int32) (a2 : Int32) (a3 : Int32) (h : aH) (r : aR) (h' : aH) (hs : s_X11_hasMove o a1 a2 a3 h = some (r, h')) : Mt yX11_hasMove (Cond.code yX11_hasMove cX11_hasMove 4 (some .boolean) :: aTB) 1 21 0 0 [.ref o, .int a1, .int a2, .int a3] h r h' := by
  unfold s_X11_hasMove at hs
  refine Mt_of (k := 0) (by decide) rfl (fun p l e s m args below meth c D B0 X ws0 C => ?_)
  show Ev p l e { frames := 1, cells := 0, slots := 0, locals := 21 } s m args below meth c D B0 X ws0 r h' 0 0 4 0 0 0 [some (.ref o), some (.int a1), some (.int a2), some (.int a3)] [] h
  refine ev_aload_n C (x := .ref o) rfl trivial dX11_hasMove_0 ?_
  refine ev_iload_n C rfl dX11_hasMove_1 ?_
  obtain ⟨eo2, hs⟩ := kO_at hs
  obtain ⟨x2, h2, e2, hs⟩ := cI_at hs
  refine ev_callV C (T_X11_hasCell _ _ _ _ _ e2) (ci := 11) rfl eo2 wc_X11_hasCell wm_X11_199 wi_X11_hasCell ws_X11_hasCell wz_X11 hy_X11_hasCell ⟨(Nat.le_of_ble_eq_true rfl), (Nat.le_of_ble_eq_true rfl)⟩ ⟨(Nat.le_refl _), (Nat.le_refl _)⟩ (Nat.le_of_ble_eq_true rfl) rfl dX11_hasMove_2 ?_
  refine ev_if_eq C (tgt := 35) (by decide) dX11_hasMove_5 (fun q5 => ?_) (fun q5 => ?_)
  · replace hs := (if_pos q5).symm.trans hs
    refine ev_iconst C (v := 0) dX11_hasMove_35 (by decide) ?_
    obtain ⟨hz, rfl, rfl⟩ := rtZ_at hs
    exact ev_zret C rfl hz rfl (Nat.le_refl _) (Nat.le_refl _) rfl dX11_hasMove_36
  · replace hs := (if_neg q5).symm.trans hs
    refine ev_aload_n C (x := .ref o) rfl trivial dX11_hasMove_8 ?_
    refine ev_iload_n C rfl dX11_hasMove_9 ?_
    obtain ⟨eo10, hs⟩ := kO_at hs
    obtain ⟨x10, h10, e10, hs⟩ := cI_at hs
    refine ev_callV C (T_X11_hasPush _ _ _ _ _ e10) (ci := 11) rfl eo10 wc_X11_hasPush wm_X11_210 wi_X11_hasPush ws_X11_hasPush wz_X11 hy_X11_hasPush ⟨(Nat.le_of_ble_eq_true rfl), (Nat.le_of_ble_eq_true rfl)⟩ ⟨(Nat.le_refl _), (Nat.le_refl _)⟩ (Nat.le_of_ble_eq_true rfl) rfl dX11_hasMove_10 ?_
    refine ev_if_eq C (tgt := 35) (by decide) dX11_hasMove_13 (fun q13 => ?_) (fun q13 => ?_)
    · replace hs := (if_pos q13).symm.trans hs
      refine ev_iconst C (v := 0) dX11_hasMove_35 (by decide) ?_
      obtain ⟨hz, rfl, rfl⟩ := rtZ_at hs
      exact ev_zret C rfl hz rfl (Nat.le_refl _) (Nat.le_refl _) rfl dX11_hasMove_36
    · replace hs := (if_neg q13).symm.trans hs
      refine ev_iload_n C rfl dX11_hasMove_16 ?_
      refine ev_if_lt C (tgt := 35) (by decide) dX11_hasMove_17 (fun q17 => ?_) (fun q17 => ?_)
      · replace hs := (if_pos q17).symm.trans hs
        refine ev_iconst C (v := 0) dX11_hasMove_35 (by decide) ?_
        obtain ⟨hz, rfl, rfl⟩ := rtZ_at hs
        exact ev_zret C rfl hz rfl (Nat.le_refl _) (Nat.le_refl _) rfl dX11_hasMove_36
      · replace hs := (if_neg q17).symm.trans hs
        refine ev_iload_n C rfl dX11_hasMove_20 ?_
        refine ev_aload_n C (x := .ref o) rfl trivial dX11_hasMove_21 ?_
        obtain ⟨x22, e22, hs⟩ := aB hs
        refine ev_get C (ci := 11) (k := 7) rfl wu_11 (by decide) wf_X11_19 (gO_F e22) dX11_hasMove_22 ?_
        obtain ⟨x25, e25, hs⟩ := aB hs
        refine ev_getN C (ci := 2) (k := 14) rfl wu_2 (by decide) wg_X11_179 (gI_F e25) dX11_hasMove_25 ?_
        refine ev_icmp_ge C (tgt := 35) (by decide) dX11_hasMove_28 (fun q28 => ?_) (fun q28 => ?_)
        · replace hs := (if_pos q28).symm.trans hs
          refine ev_iconst C (v := 0) dX11_hasMove_35 (by decide) ?_
          obtain ⟨hz, rfl, rfl⟩ := rtZ_at hs
          exact ev_zret C rfl hz rfl (Nat.le_refl _) (Nat.le_refl _) rfl dX11_hasMove_36
        · replace hs := (if_neg q28).symm.trans hs
          refine ev_iconst C (v := 1) dX11_hasMove_31 (by decide) ?_
          refine ev_goto C (tgt := 36) (by decide) dX11_hasMove_32 ?_
          obtain ⟨hz, rfl, rfl⟩ := rtZ_at hs
          exact ev_zret C rfl hz rfl (Nat.le_refl _) (Nat.le_refl _) rfl dX11_hasMove_36
end
-- X11_next
theorem dX11_next_0 : decode cX11_next 0 = .ok (.aload_n 0, 1) := by decide +kernel
theorem dX11_next_1 : decode cX11_next 1 = .ok (.iload_n 1, 1) := by decide +kernel
theorem dX11_next_2 : decode cX11_next 2 = .ok (.iload_n 2, 1) := by decide +kernel
theorem dX11_next_3 : decode cX11_next 3 = .ok (.iload_n 3, 1) := by decide +kernel
theorem dX11_next_4 : decode cX11_next 4 = .ok (.invokevirtual 213, 3) := by decide +kernel
theorem dX11_next_7 : decode cX11_next 7 = .ok (.ifCond .ne 9, 3) := by decide +kernel
theorem dX11_next_10 : decode cX11_next 10 = .ok (.aload_n 0, 1) := by decide +kernel
theorem dX11_next_11 : decode cX11_next 11 = .ok (.iconst 1, 1) := by decide +kernel
theorem dX11_next_12 : decode cX11_next 12 = .ok (.invokevirtual 105, 3) := by decide +kernel
theorem dX11_next_15 : decode cX11_next 15 = .ok (.ireturn, 1) := by decide +kernel
theorem dX11_next_16 : decode cX11_next 16 = .ok (.aload_n 0, 1) := by decide +kernel
theorem dX11_next_17 : decode cX11_next 17 = .ok (.iconst 0, 1) := by decide +kernel
theorem dX11_next_18 : decode cX11_next 18 = .ok (.putfield 167, 3) := by decide +kernel
theorem dX11_next_21 : decode cX11_next 21 = .ok (.aload_n 0, 1) := by decide +kernel
theorem dX11_next_22 : decode cX11_next 22 = .ok (.getfield 19, 3) := by decide +kernel
theorem dX11_next_25 : decode cX11_next 25 = .ok (.iload_n 1, 1) := by decide +kernel
theorem dX11_next_26 : decode cX11_next 26 = .ok (.iload_n 2, 1) := by decide +kernel
theorem dX11_next_27 : decode cX11_next 27 = .ok (.iload_n 3, 1) := by decide +kernel
theorem dX11_next_28 : decode cX11_next 28 = .ok (.aload_n 0, 1) := by decide +kernel
theorem dX11_next_29 : decode cX11_next 29 = .ok (.getfield 13, 3) := by decide +kernel
theorem dX11_next_32 : decode cX11_next 32 = .ok (.invokevirtual 217, 3) := by decide +kernel
theorem dX11_next_35 : decode cX11_next 35 = .ok (.aload_n 0, 1) := by decide +kernel
theorem dX11_next_36 : decode cX11_next 36 = .ok (.getfield 19, 3) := by decide +kernel
theorem dX11_next_39 : decode cX11_next 39 = .ok (.aload_n 0, 1) := by decide +kernel
theorem dX11_next_40 : decode cX11_next 40 = .ok (.getfield 13, 3) := by decide +kernel
theorem dX11_next_43 : decode cX11_next 43 = .ok (.invokevirtual 220, 3) := by decide +kernel
theorem dX11_next_46 : decode cX11_next 46 = .ok (.ireturn, 1) := by decide +kernel
def s_X11_next (o : Nat) (a1 : Int32) (a2 : Int32) (a3 : Int32) (h : aH) : aO :=
  kO h o 11 (cI (s_X11_hasMove o a1 a2 a3 h) fun x4 h4 => if x4 = 0 then (kO h4 o 11 (cI (s_X11_refused o 1 h4) fun x12 h12 => some (.inl (some (.int x12)), h12))) else ((pF h4 (.ref o) 11 3 (.int 0)).bind fun h18 => (gO h18 (.ref o) 11 7).bind fun x22 => (gO h18 (.ref o) 11 6).bind fun x29 => kO h18 x22 2 (cN (s_X2_spreadMove x22 a1 a2 a3 x29 h18) fun h32 => (gO h32 (.ref o) 11 7).bind fun x36 => (gO h32 (.ref o) 11 6).bind fun x40 => kO h32 x36 2 (cI (s_X2_lead x36 x40 h32) fun x43 h43 => some (.inl (some (.int x43)), h43)))))
section
variable {p : Program} {l : Launch} {e : Env} {s : State} {m : MethodId} {args : Array Value} {below : List Frame} {meth : Method} {c : Code} {D : va_G} {B0 : Nat} {X : Nat → Nat} {ws0 : va_W} {r : aR} {h' : aH} {mc ms : Nat}
theorem hy_X11_next : yX11_next.cls ≠ "java/lang/invoke/MethodHandle" ∧ yX11_next.cls ≠ "java/lang/invoke/VarHandle" ∧ (parseMethodDescriptor yX11_next.desc).map (fun d => d.parameters.length) = some 3 := by decide +kernel
theorem T_X11_next (o : Nat) (a1 : Int32) (a2 : Int32) (a3 : Int32) (h : aH) (r : aR) (h' : aH) (hs : s_X11_next o a1 a2 a3 h = some (r, h')) : Mt yX11_next (Cond.code yX11_next cX11_next 4 (some .int) :: aTB) 4 102 0 0 [.ref o, .int a1, .int a2, .int a3] h r h' := by
  unfold s_X11_next at hs
  refine Mt_of (k := 0) (by decide) rfl (fun p l e s m args below meth c D B0 X ws0 C => ?_)
  show Ev p l e { frames := 4, cells := 0, slots := 0, locals := 102 } s m args below meth c D B0 X ws0 r h' 0 0 4 0 0 0 [some (.ref o), some (.int a1), some (.int a2), some (.int a3)] [] h
  refine ev_aload_n C (x := .ref o) rfl trivial dX11_next_0 ?_
  refine ev_iload_n C rfl dX11_next_1 ?_
  refine ev_iload_n C rfl dX11_next_2 ?_
  refine ev_iload_n C rfl dX11_next_3 ?_
  obtain ⟨eo4, hs⟩ := kO_at hs
  obtain ⟨x4, h4, e4, hs⟩ := cI_at hs
  refine ev_callV C (T_X11_hasMove _ _ _ _ _ _ _ e4) (ci := 11) rfl eo4 wc_X11_hasMove wm_X11_213 wi_X11_hasMove ws_X11_hasMove wz_X11 hy_X11_hasMove ⟨(Nat.le_of_ble_eq_true rfl), (Nat.le_of_ble_eq_true rfl)⟩ ⟨(Nat.le_refl _), (Nat.le_refl _)⟩ (Nat.le_of_ble_eq_true rfl) rfl dX11_next_4 ?_
  refine ev_if_ne C (tgt := 16) (by decide) dX11_next_7 (fun q7 => ?_) (fun q7 => ?_)
  · replace hs := (if_neg q7).symm.trans hs
    refine ev_aload_n C (x := .ref o) rfl trivial dX11_next_16 ?_
    refine ev_iconst C (v := 0) dX11_next_17 (by decide) ?_
    obtain ⟨h18, e18, hs⟩ := aB hs
    refine ev_put C (ci := 11) (k := 3) rfl wu_11 (by decide) tyX11 tyX11_ok nmX11 wf_X11_167 rfl trivial e18 dX11_next_18 ?_
    refine ev_aload_n C (x := .ref o) rfl trivial dX11_next_21 ?_
    obtain ⟨x22, e22, hs⟩ := aB hs
    refine ev_get C (ci := 11) (k := 7) rfl wu_11 (by decide) wf_X11_19 (gO_F e22) dX11_next_22 ?_
    refine ev_iload_n C rfl dX11_next_25 ?_
    refine ev_iload_n C rfl dX11_next_26 ?_
    refine ev_iload_n C rfl dX11_next_27 ?_
    refine ev_aload_n C (x := .ref o) rfl trivial dX11_next_28 ?_
    obtain ⟨x29, e29, hs⟩ := aB hs
    refine ev_get C (ci := 11) (k := 6) rfl wu_11 (by decide) wf_X11_13 (gO_F e29) dX11_next_29 ?_
    obtain ⟨eo32, hs⟩ := kO_at hs
    obtain ⟨h32, e32, hs⟩ := cN_at hs
    refine ev_callVN C (T_X2_spreadMove _ _ _ _ _ _ _ _ e32) (ci := 2) rfl eo32 wc_X2_spreadMove wn_X11_217 wi_X2_spreadMove ws_X2_spreadMove wz_X2 hy_X2_spreadMove ⟨(Nat.le_of_ble_eq_true rfl), (Nat.le_of_ble_eq_true rfl)⟩ ⟨(Nat.le_refl _), (Nat.le_refl _)⟩ (Nat.le_of_ble_eq_true rfl) rfl dX11_next_32 ?_
    refine ev_aload_n C (x := .ref o) rfl trivial dX11_next_35 ?_
    obtain ⟨x36, e36, hs⟩ := aB hs
    refine ev_get C (ci := 11) (k := 7) rfl wu_11 (by decide) wf_X11_19 (gO_F e36) dX11_next_36 ?_
    refine ev_aload_n C (x := .ref o) rfl trivial dX11_next_39 ?_
    obtain ⟨x40, e40, hs⟩ := aB hs
    refine ev_get C (ci := 11) (k := 6) rfl wu_11 (by decide) wf_X11_13 (gO_F e40) dX11_next_40 ?_
    obtain ⟨eo43, hs⟩ := kO_at hs
    obtain ⟨x43, h43, e43, hs⟩ := cI_at hs
    refine ev_callVN C (T_X2_lead _ _ _ _ _ e43) (ci := 2) rfl eo43 wc_X2_lead wn_X11_220 wi_X2_lead ws_X2_lead wz_X2 hy_X2_lead ⟨(Nat.le_of_ble_eq_true rfl), (Nat.le_of_ble_eq_true rfl)⟩ ⟨(Nat.le_refl _), (Nat.le_refl _)⟩ (Nat.le_of_ble_eq_true rfl) rfl dX11_next_43 ?_
    cases hs
    exact ev_iret C rfl rfl (Nat.le_refl _) (Nat.le_refl _) rfl dX11_next_46
  · replace hs := (if_pos q7).symm.trans hs
    refine ev_aload_n C (x := .ref o) rfl trivial dX11_next_10 ?_
    refine ev_iconst C (v := 1) dX11_next_11 (by decide) ?_
    obtain ⟨eo12, hs⟩ := kO_at hs
    obtain ⟨x12, h12, e12, hs⟩ := cI_at hs
    refine ev_callV C (T_X11_refused _ _ _ _ _ e12) (ci := 11) rfl eo12 wc_X11_refused wm_X11_105 wi_X11_refused ws_X11_refused wz_X11 hy_X11_refused ⟨(Nat.le_of_ble_eq_true rfl), (Nat.le_of_ble_eq_true rfl)⟩ ⟨(Nat.le_refl _), (Nat.le_refl _)⟩ (Nat.le_of_ble_eq_true rfl) rfl dX11_next_12 ?_
    cases hs
    exact ev_iret C rfl rfl (Nat.le_refl _) (Nat.le_refl _) rfl dX11_next_15
end
-- X11_sight
theorem dX11_sight_0 : decode cX11_sight 0 = .ok (.aload_n 0, 1) := by decide +kernel
theorem dX11_sight_1 : decode cX11_sight 1 = .ok (.iload_n 1, 1) := by decide +kernel
theorem dX11_sight_2 : decode cX11_sight 2 = .ok (.iload_n 2, 1) := by decide +kernel
theorem dX11_sight_3 : decode cX11_sight 3 = .ok (.iload_n 3, 1) := by decide +kernel
theorem dX11_sight_4 : decode cX11_sight 4 = .ok (.invokevirtual 213, 3) := by decide +kernel
theorem dX11_sight_7 : decode cX11_sight 7 = .ok (.ifCond .eq 22, 3) := by decide +kernel
theorem dX11_sight_10 : decode cX11_sight 10 = .ok (.iload 4, 2) := by decide +kernel
theorem dX11_sight_12 : decode cX11_sight 12 = .ok (.ifCond .lt 17, 3) := by decide +kernel
theorem dX11_sight_15 : decode cX11_sight 15 = .ok (.iload 4, 2) := by decide +kernel
theorem dX11_sight_17 : decode cX11_sight 17 = .ok (.aload_n 0, 1) := by decide +kernel
theorem dX11_sight_18 : decode cX11_sight 18 = .ok (.getfield 19, 3) := by decide +kernel
theorem dX11_sight_21 : decode cX11_sight 21 = .ok (.getfield 173, 3) := by decide +kernel
theorem dX11_sight_24 : decode cX11_sight 24 = .ok (.iconst 4, 1) := by decide +kernel
theorem dX11_sight_25 : decode cX11_sight 25 = .ok (.iaload, 1) := by decide +kernel
theorem dX11_sight_26 : decode cX11_sight 26 = .ok (.if_icmp .lt 6, 3) := by decide +kernel
theorem dX11_sight_29 : decode cX11_sight 29 = .ok (.ldc 202, 2) := by decide +kernel
theorem dX11_sight_31 : decode cX11_sight 31 = .ok (.ireturn, 1) := by decide +kernel
theorem dX11_sight_32 : decode cX11_sight 32 = .ok (.aload_n 0, 1) := by decide +kernel
theorem dX11_sight_33 : decode cX11_sight 33 = .ok (.getfield 19, 3) := by decide +kernel
theorem dX11_sight_36 : decode cX11_sight 36 = .ok (.iload_n 1, 1) := by decide +kernel
theorem dX11_sight_37 : decode cX11_sight 37 = .ok (.iload_n 2, 1) := by decide +kernel
theorem dX11_sight_38 : decode cX11_sight 38 = .ok (.iload_n 3, 1) := by decide +kernel
theorem dX11_sight_39 : decode cX11_sight 39 = .ok (.aload_n 0, 1) := by decide +kernel
theorem dX11_sight_40 : decode cX11_sight 40 = .ok (.getfield 13, 3) := by decide +kernel
theorem dX11_sight_43 : decode cX11_sight 43 = .ok (.invokevirtual 217, 3) := by decide +kernel
theorem dX11_sight_46 : decode cX11_sight 46 = .ok (.aload_n 0, 1) := by decide +kernel
theorem dX11_sight_47 : decode cX11_sight 47 = .ok (.getfield 19, 3) := by decide +kernel
theorem dX11_sight_50 : decode cX11_sight 50 = .ok (.iload 4, 2) := by decide +kernel
theorem dX11_sight_52 : decode cX11_sight 52 = .ok (.aload_n 0, 1) := by decide +kernel
theorem dX11_sight_53 : decode cX11_sight 53 = .ok (.getfield 13, 3) := by decide +kernel
theorem dX11_sight_56 : decode cX11_sight 56 = .ok (.invokevirtual 223, 3) := by decide +kernel
theorem dX11_sight_59 : decode cX11_sight 59 = .ok (.ireturn, 1) := by decide +kernel
def s_X11_sight_29   (h : aH) : aO :=
  some (.inl (some (.int (-2147483648))), h)
def s_X11_sight (o : Nat) (a1 : Int32) (a2 : Int32) (a3 : Int32) (a4 : Int32) (h : aH) : aO :=
  kO h o 11 (cI (s_X11_hasMove o a1 a2 a3 h) fun x4 h4 => if x4 = 0 then (s_X11_sight_29 h4) else (if a4 < 0 then (s_X11_sight_29 h4) else ((gO h4 (.ref o) 11 7).bind fun x18 => (gO h4 (.ref x18) 2 0).bind fun x21 => (ldI .int h4 (.ref x21) 4).bind fun x25 => if a4 < x25 then ((gO h4 (.ref o) 11 7).bind fun x33 => (gO h4 (.ref o) 11 6).bind fun x40 => kO h4 x33 2 (cN (s_X2_spreadMove x33 a1 a2 a3 x40 h4) fun h43 => (gO h43 (.ref o) 11 7).bind fun x47 => (gO h43 (.ref o) 11 6).bind fun x53 => kO h43 x47 2 (cI (s_X2_seen x47 a4 x53 h43) fun x56 h56 => some (.inl (some (.int x56)), h56)))) else (s_X11_sight_29 h4))))
section
variable {p : Program} {l : Launch} {e : Env} {s : State} {m : MethodId} {args : Array Value} {below : List Frame} {meth : Method} {c : Code} {D : va_G} {B0 : Nat} {X : Nat → Nat} {ws0 : va_W} {r : aR} {h' : aH} {mc ms : Nat}
theorem t_X11_sight_29 (C : Cx p l s m args meth c B0 X RX11 "sight" cX11_sight 5 (some .int) [])    {h : aH} (hs : s_X11_sight_29   h = some (r, h')) : Ev p l e { frames := 4, cells := mc, slots := ms, locals := 98 } s m args below meth c D B0 X ws0 r h' mc ms 5 mc ms 29 [none, none, none, none, none] [] h := by
  unfold s_X11_sight_29 at hs
  refine ev_ldc C wv_X11_202 dX11_sight_29 ?_
  cases hs
  exact ev_iret C rfl rfl (Nat.le_refl _) (Nat.le_refl _) rfl dX11_sight_31
theorem hy_X11_sight : yX11_sight.cls ≠ "java/lang/invoke/MethodHandle" ∧ yX11_sight.cls ≠ "java/lang/invoke/VarHandle" ∧ (parseMethodDescriptor yX11_sight.desc).map (fun d => d.parameters.length) = some 4 := by decide +kernel
theorem T_X11_sight (o : Nat) (a1 : Int32) (a2 : Int32) (a3 : Int32) (a4 : Int32) (h : aH) (r : aR) (h' : aH) (hs : s_X11_sight o a1 a2 a3 a4 h = some (r, h')) : Mt yX11_sight (Cond.code yX11_sight cX11_sight 5 (some .int) :: aTB) 4 98 0 0 [.ref o, .int a1, .int a2, .int a3, .int a4] h r h' := by
  unfold s_X11_sight at hs
  refine Mt_of (k := 0) (by decide) rfl (fun p l e s m args below meth c D B0 X ws0 C => ?_)
  show Ev p l e { frames := 4, cells := 0, slots := 0, locals := 98 } s m args below meth c D B0 X ws0 r h' 0 0 5 0 0 0 [some (.ref o), some (.int a1), some (.int a2), some (.int a3), some (.int a4)] [] h
  refine ev_aload_n C (x := .ref o) rfl trivial dX11_sight_0 ?_
  refine ev_iload_n C rfl dX11_sight_1 ?_
  refine ev_iload_n C rfl dX11_sight_2 ?_
  refine ev_iload_n C rfl dX11_sight_3 ?_
  obtain ⟨eo4, hs⟩ := kO_at hs
  obtain ⟨x4, h4, e4, hs⟩ := cI_at hs
  refine ev_callV C (T_X11_hasMove _ _ _ _ _ _ _ e4) (ci := 11) rfl eo4 wc_X11_hasMove wm_X11_213 wi_X11_hasMove ws_X11_hasMove wz_X11 hy_X11_hasMove ⟨(Nat.le_of_ble_eq_true rfl), (Nat.le_of_ble_eq_true rfl)⟩ ⟨(Nat.le_refl _), (Nat.le_refl _)⟩ (Nat.le_of_ble_eq_true rfl) rfl dX11_sight_4 ?_
  refine ev_if_eq C (tgt := 29) (by decide) dX11_sight_7 (fun q7 => ?_) (fun q7 => ?_)
  · replace hs := (if_pos q7).symm.trans hs
    exact Ev.keep [false, false, false, false, false] (t_X11_sight_29 C  hs)
  · replace hs := (if_neg q7).symm.trans hs
    refine ev_iload C rfl dX11_sight_10 ?_
    refine ev_if_lt C (tgt := 29) (by decide) dX11_sight_12 (fun q12 => ?_) (fun q12 => ?_)
    · replace hs := (if_pos q12).symm.trans hs
      exact Ev.keep [false, false, false, false, false] (t_X11_sight_29 C  hs)
    · replace hs := (if_neg q12).symm.trans hs
      refine ev_iload C rfl dX11_sight_15 ?_
      refine ev_aload_n C (x := .ref o) rfl trivial dX11_sight_17 ?_
      obtain ⟨x18, e18, hs⟩ := aB hs
      refine ev_get C (ci := 11) (k := 7) rfl wu_11 (by decide) wf_X11_19 (gO_F e18) dX11_sight_18 ?_
      obtain ⟨x21, e21, hs⟩ := aB hs
      refine ev_getN C (ci := 2) (k := 0) rfl wu_2 (by decide) wg_X11_173 (gO_F e21) dX11_sight_21 ?_
      refine ev_iconst C (v := 4) dX11_sight_24 (by decide) ?_
      obtain ⟨x25, e25, hs⟩ := aB hs
      refine ev_iald C e25 dX11_sight_25 ?_
      refine ev_icmp_lt C (tgt := 32) (by decide) dX11_sight_26 (fun q26 => ?_) (fun q26 => ?_)
      · replace hs := (if_pos q26).symm.trans hs
        refine ev_aload_n C (x := .ref o) rfl trivial dX11_sight_32 ?_
        obtain ⟨x33, e33, hs⟩ := aB hs
        refine ev_get C (ci := 11) (k := 7) rfl wu_11 (by decide) wf_X11_19 (gO_F e33) dX11_sight_33 ?_
        refine ev_iload_n C rfl dX11_sight_36 ?_
        refine ev_iload_n C rfl dX11_sight_37 ?_
        refine ev_iload_n C rfl dX11_sight_38 ?_
        refine ev_aload_n C (x := .ref o) rfl trivial dX11_sight_39 ?_
        obtain ⟨x40, e40, hs⟩ := aB hs
        refine ev_get C (ci := 11) (k := 6) rfl wu_11 (by decide) wf_X11_13 (gO_F e40) dX11_sight_40 ?_
        obtain ⟨eo43, hs⟩ := kO_at hs
        obtain ⟨h43, e43, hs⟩ := cN_at hs
        refine ev_callVN C (T_X2_spreadMove _ _ _ _ _ _ _ _ e43) (ci := 2) rfl eo43 wc_X2_spreadMove wn_X11_217 wi_X2_spreadMove ws_X2_spreadMove wz_X2 hy_X2_spreadMove ⟨(Nat.le_of_ble_eq_true rfl), (Nat.le_of_ble_eq_true rfl)⟩ ⟨(Nat.le_refl _), (Nat.le_refl _)⟩ (Nat.le_of_ble_eq_true rfl) rfl dX11_sight_43 ?_
        refine ev_aload_n C (x := .ref o) rfl trivial dX11_sight_46 ?_
        obtain ⟨x47, e47, hs⟩ := aB hs
        refine ev_get C (ci := 11) (k := 7) rfl wu_11 (by decide) wf_X11_19 (gO_F e47) dX11_sight_47 ?_
        refine ev_iload C rfl dX11_sight_50 ?_
        refine ev_aload_n C (x := .ref o) rfl trivial dX11_sight_52 ?_
        obtain ⟨x53, e53, hs⟩ := aB hs
        refine ev_get C (ci := 11) (k := 6) rfl wu_11 (by decide) wf_X11_13 (gO_F e53) dX11_sight_53 ?_
        obtain ⟨eo56, hs⟩ := kO_at hs
        obtain ⟨x56, h56, e56, hs⟩ := cI_at hs
        refine ev_callVN C (T_X2_seen _ _ _ _ _ _ e56) (ci := 2) rfl eo56 wc_X2_seen wn_X11_223 wi_X2_seen ws_X2_seen wz_X2 hy_X2_seen ⟨(Nat.le_of_ble_eq_true rfl), (Nat.le_of_ble_eq_true rfl)⟩ ⟨(Nat.le_refl _), (Nat.le_refl _)⟩ (Nat.le_of_ble_eq_true rfl) rfl dX11_sight_56 ?_
        cases hs
        exact ev_iret C rfl rfl (Nat.le_refl _) (Nat.le_refl _) rfl dX11_sight_59
      · replace hs := (if_neg q26).symm.trans hs
        exact Ev.keep [false, false, false, false, false] (t_X11_sight_29 C  hs)
end
-- X11_readySafety
theorem dX11_readySafety_0 : decode cX11_readySafety 0 = .ok (.aload_n 0, 1) := by decide +kernel
theorem dX11_readySafety_1 : decode cX11_readySafety 1 = .ok (.getfield 45, 3) := by decide +kernel
theorem dX11_readySafety_4 : decode cX11_readySafety 4 = .ok (.invokevirtual 372, 3) := by decide +kernel
theorem dX11_readySafety_7 : decode cX11_readySafety 7 = .ok (.aload_n 0, 1) := by decide +kernel
theorem dX11_readySafety_8 : decode cX11_readySafety 8 = .ok (.getfield 63, 3) := by decide +kernel
theorem dX11_readySafety_11 : decode cX11_readySafety 11 = .ok (.invokevirtual 383, 3) := by decide +kernel
theorem dX11_readySafety_14 : decode cX11_readySafety 14 = .ok (.aload_n 0, 1) := by decide +kernel
theorem dX11_readySafety_15 : decode cX11_readySafety 15 = .ok (.getfield 63, 3) := by decide +kernel
theorem dX11_readySafety_18 : decode cX11_readySafety 18 = .ok (.areturn, 1) := by decide +kernel
def s_X11_readySafety (o : Nat) (h : aH) : aP :=
  (gO h (.ref o) 11 11).bind fun x1 => kO h x1 3 (dN (s_X3_fill x1 h) fun h4 n4 y4 => ck (0 + n4) (0 + y4) (wC (0 + n4) (0 + y4) ((gO h4 (.ref o) 11 13).bind fun x8 => kO h4 x8 7 (cN (s_X7_settle x8 h4) fun h11 => (gO h11 (.ref o) 11 13).bind fun x15 => some (.inl (some (.ref x15)), h11)))))
section
variable {p : Program} {l : Launch} {e : Env} {s : State} {m : MethodId} {args : Array Value} {below : List Frame} {meth : Method} {c : Code} {D : va_G} {B0 : Nat} {X : Nat → Nat} {ws0 : va_W} {r : aR} {h' : aH} {mc ms : Nat}
theorem hy_X11_readySafety : yX11_readySafety.cls ≠ "java/lang/invoke/MethodHandle" ∧ yX11_readySafety.cls ≠ "java/lang/invoke/VarHandle" ∧ (parseMethodDescriptor yX11_readySafety.desc).map (fun d => d.parameters.length) = some 0 := by decide +kernel
theorem T_X11_readySafety (o : Nat) (h : aH) (r : aR) (h' : aH) (mc ms : Nat) (hs : s_X11_readySafety o h = some (r, h', mc, ms)) : Mt yX11_readySafety (Cond.code yX11_readySafety cX11_readySafety 1 (some (.object "SteeringHouse$Safety")) :: aTB) 6 150 mc ms [.ref o] h r h' := by
  unfold s_X11_readySafety at hs
  refine Mt_of (k := 0) (by decide) rfl (fun p l e s m args below meth c D B0 X ws0 C => ?_)
  show Ev p l e { frames := 6, cells := mc, slots := ms, locals := 150 } s m args below meth c D B0 X ws0 r h' mc ms 1 0 0 0 [some (.ref o)] [] h
  refine ev_aload_n C (x := .ref o) rfl trivial dX11_readySafety_0 ?_
  obtain ⟨x1, e1, hs⟩ := aB hs
  refine ev_get C (ci := 11) (k := 11) rfl wu_11 (by decide) wf_X11_45 (gO_F e1) dX11_readySafety_1 ?_
  obtain ⟨eo4, hs⟩ := kO_at hs
  obtain ⟨h4, n4, y4, e4, hs⟩ := dN_at hs
  obtain ⟨c4, z4, hs⟩ := ck_at hs
  refine ev_callVN C (T_X3_fill _ _ _ _ _ _ e4) (ci := 3) rfl eo4 wc_X3_fill wn_X11_372 wi_X3_fill ws_X3_fill wz_X3 hy_X3_fill ⟨(Nat.le_of_ble_eq_true rfl), (Nat.le_of_ble_eq_true rfl)⟩ ⟨c4, z4⟩ (Nat.le_of_ble_eq_true rfl) rfl dX11_readySafety_4 ?_
  obtain ⟨hw9, rfl, rfl⟩ := wC_at hs
  have hs := hw9
  refine ev_aload_n C (x := .ref o) rfl trivial dX11_readySafety_7 ?_
  obtain ⟨x8, e8, hs⟩ := aB hs
  refine ev_get C (ci := 11) (k := 13) rfl wu_11 (by decide) wf_X11_63 (gO_F e8) dX11_readySafety_8 ?_
  obtain ⟨eo11, hs⟩ := kO_at hs
  obtain ⟨h11, e11, hs⟩ := cN_at hs
  refine ev_callVN C (T_X7_settle _ _ _ _ e11) (ci := 7) rfl eo11 wc_X7_settle wn_X11_383 wi_X7_settle ws_X7_settle wz_X7 hy_X7_settle ⟨(Nat.le_of_ble_eq_true rfl), (Nat.le_of_ble_eq_true rfl)⟩ ⟨(Nat.le_refl _), (Nat.le_refl _)⟩ (Nat.le_of_ble_eq_true rfl) rfl dX11_readySafety_11 ?_
  refine ev_aload_n C (x := .ref o) rfl trivial dX11_readySafety_14 ?_
  obtain ⟨x15, e15, hs⟩ := aB hs
  refine ev_get C (ci := 11) (k := 13) rfl wu_11 (by decide) wf_X11_63 (gO_F e15) dX11_readySafety_15 ?_
  cases hs
  exact ev_aret C rfl (Or.inl ⟨_, rfl⟩) trivial rfl (Nat.le_refl _) (Nat.le_refl _) rfl dX11_readySafety_18
end
-- X11_safe
theorem dX11_safe_0 : decode cX11_safe 0 = .ok (.aload_n 0, 1) := by decide +kernel
theorem dX11_safe_1 : decode cX11_safe 1 = .ok (.getfield 120, 3) := by decide +kernel
theorem dX11_safe_4 : decode cX11_safe 4 = .ok (.ifCond .ne 9, 3) := by decide +kernel
theorem dX11_safe_7 : decode cX11_safe 7 = .ok (.aload_n 0, 1) := by decide +kernel
theorem dX11_safe_8 : decode cX11_safe 8 = .ok (.iconst 1, 1) := by decide +kernel
theorem dX11_safe_9 : decode cX11_safe 9 = .ok (.invokevirtual 105, 3) := by decide +kernel
theorem dX11_safe_12 : decode cX11_safe 12 = .ok (.ireturn, 1) := by decide +kernel
theorem dX11_safe_13 : decode cX11_safe 13 = .ok (.aload_n 0, 1) := by decide +kernel
theorem dX11_safe_14 : decode cX11_safe 14 = .ok (.iconst 0, 1) := by decide +kernel
theorem dX11_safe_15 : decode cX11_safe 15 = .ok (.putfield 167, 3) := by decide +kernel
theorem dX11_safe_18 : decode cX11_safe 18 = .ok (.aload_n 0, 1) := by decide +kernel
theorem dX11_safe_19 : decode cX11_safe 19 = .ok (.invokevirtual 227, 3) := by decide +kernel
theorem dX11_safe_22 : decode cX11_safe 22 = .ok (.getfield 231, 3) := by decide +kernel
theorem dX11_safe_25 : decode cX11_safe 25 = .ok (.ireturn, 1) := by decide +kernel
def s_X11_safe (o : Nat) (h : aH) : aP :=
  (gI h (.ref o) 11 2).bind fun x1 => if x1 = 0 then (wC 0 0 (kO h o 11 (cI (s_X11_refused o 1 h) fun x9 h9 => some (.inl (some (.int x9)), h9)))) else ((pF h (.ref o) 11 3 (.int 0)).bind fun h15 => kO h15 o 11 (dR (s_X11_readySafety o h15) fun x19 h19 n19 y19 => ck (0 + n19) (0 + y19) (wC (0 + n19) (0 + y19) ((gI h19 (.ref x19) 7 6).bind fun x22 => some (.inl (some (.int x22)), h19)))))
section
variable {p : Program} {l : Launch} {e : Env} {s : State} {m : MethodId} {args : Array Value} {below : List Frame} {meth : Method} {c : Code} {D : va_G} {B0 : Nat} {X : Nat → Nat} {ws0 : va_W} {r : aR} {h' : aH} {mc ms : Nat}
theorem hy_X11_safe : yX11_safe.cls ≠ "java/lang/invoke/MethodHandle" ∧ yX11_safe.cls ≠ "java/lang/invoke/VarHandle" ∧ (parseMethodDescriptor yX11_safe.desc).map (fun d => d.parameters.length) = some 0 := by decide +kernel
theorem T_X11_safe (o : Nat) (h : aH) (r : aR) (h' : aH) (mc ms : Nat) (hs : s_X11_safe o h = some (r, h', mc, ms)) : Mt yX11_safe (Cond.code yX11_safe cX11_safe 1 (some .int) :: aTB) 7 170 mc ms [.ref o] h r h' := by
  unfold s_X11_safe at hs
  refine Mt_of (k := 0) (by decide) rfl (fun p l e s m args below meth c D B0 X ws0 C => ?_)
  show Ev p l e { frames := 7, cells := mc, slots := ms, locals := 170 } s m args below meth c D B0 X ws0 r h' mc ms 1 0 0 0 [some (.ref o)] [] h
  refine ev_aload_n C (x := .ref o) rfl trivial dX11_safe_0 ?_
  obtain ⟨x1, e1, hs⟩ := aB hs
  refine ev_get C (ci := 11) (k := 2) rfl wu_11 (by decide) wf_X11_120 (gI_F e1) dX11_safe_1 ?_
  refine ev_if_ne C (tgt := 13) (by decide) dX11_safe_4 (fun q4 => ?_) (fun q4 => ?_)
  · replace hs := (if_neg q4).symm.trans hs
    refine ev_aload_n C (x := .ref o) rfl trivial dX11_safe_13 ?_
    refine ev_iconst C (v := 0) dX11_safe_14 (by decide) ?_
    obtain ⟨h15, e15, hs⟩ := aB hs
    refine ev_put C (ci := 11) (k := 3) rfl wu_11 (by decide) tyX11 tyX11_ok nmX11 wf_X11_167 rfl trivial e15 dX11_safe_15 ?_
    refine ev_aload_n C (x := .ref o) rfl trivial dX11_safe_18 ?_
    obtain ⟨eo19, hs⟩ := kO_at hs
    obtain ⟨x19, h19, n19, y19, e19, hs⟩ := dR_at hs
    obtain ⟨c19, z19, hs⟩ := ck_at hs
    refine ev_callV C (T_X11_readySafety _ _ _ _ _ _ e19) (ci := 11) rfl eo19 wc_X11_readySafety wm_X11_227 wi_X11_readySafety ws_X11_readySafety wz_X11 hy_X11_readySafety ⟨(Nat.le_of_ble_eq_true rfl), (Nat.le_of_ble_eq_true rfl)⟩ ⟨c19, z19⟩ (Nat.le_of_ble_eq_true rfl) rfl dX11_safe_19 ?_
    obtain ⟨hw9, rfl, rfl⟩ := wC_at hs
    have hs := hw9
    obtain ⟨x22, e22, hs⟩ := aB hs
    refine ev_getN C (ci := 7) (k := 6) rfl wu_7 (by decide) wg_X11_231 (gI_F e22) dX11_safe_22 ?_
    cases hs
    exact ev_iret C rfl rfl (Nat.le_refl _) (Nat.le_refl _) rfl dX11_safe_25
  · replace hs := (if_pos q4).symm.trans hs
    obtain ⟨hw9, rfl, rfl⟩ := wC_at hs
    have hs := hw9
    refine ev_aload_n C (x := .ref o) rfl trivial dX11_safe_7 ?_
    refine ev_iconst C (v := 1) dX11_safe_8 (by decide) ?_
    obtain ⟨eo9, hs⟩ := kO_at hs
    obtain ⟨x9, h9, e9, hs⟩ := cI_at hs
    refine ev_callV C (T_X11_refused _ _ _ _ _ e9) (ci := 11) rfl eo9 wc_X11_refused wm_X11_105 wi_X11_refused ws_X11_refused wz_X11 hy_X11_refused ⟨(Nat.le_of_ble_eq_true rfl), (Nat.le_of_ble_eq_true rfl)⟩ ⟨(Nat.le_refl _), (Nat.le_refl _)⟩ (Nat.le_of_ble_eq_true rfl) rfl dX11_safe_9 ?_
    cases hs
    exact ev_iret C rfl rfl (Nat.le_refl _) (Nat.le_refl _) rfl dX11_safe_12
end
-- X11_layer
theorem dX11_layer_0 : decode cX11_layer 0 = .ok (.aload_n 0, 1) := by decide +kernel
theorem dX11_layer_1 : decode cX11_layer 1 = .ok (.iload_n 1, 1) := by decide +kernel
theorem dX11_layer_2 : decode cX11_layer 2 = .ok (.invokevirtual 199, 3) := by decide +kernel
theorem dX11_layer_5 : decode cX11_layer 5 = .ok (.ifCond .ne 5, 3) := by decide +kernel
theorem dX11_layer_8 : decode cX11_layer 8 = .ok (.iconst (-1), 1) := by decide +kernel
theorem dX11_layer_9 : decode cX11_layer 9 = .ok (.ireturn, 1) := by decide +kernel
theorem dX11_layer_10 : decode cX11_layer 10 = .ok (.aload_n 0, 1) := by decide +kernel
theorem dX11_layer_11 : decode cX11_layer 11 = .ok (.getfield 54, 3) := by decide +kernel
theorem dX11_layer_14 : decode cX11_layer 14 = .ok (.iload_n 1, 1) := by decide +kernel
theorem dX11_layer_15 : decode cX11_layer 15 = .ok (.invokevirtual 234, 3) := by decide +kernel
theorem dX11_layer_18 : decode cX11_layer 18 = .ok (.ifCond .eq 15, 3) := by decide +kernel
theorem dX11_layer_21 : decode cX11_layer 21 = .ok (.aload_n 0, 1) := by decide +kernel
theorem dX11_layer_22 : decode cX11_layer 22 = .ok (.invokevirtual 227, 3) := by decide +kernel
theorem dX11_layer_25 : decode cX11_layer 25 = .ok (.getfield 237, 3) := by decide +kernel
theorem dX11_layer_28 : decode cX11_layer 28 = .ok (.iload_n 1, 1) := by decide +kernel
theorem dX11_layer_29 : decode cX11_layer 29 = .ok (.iaload, 1) := by decide +kernel
theorem dX11_layer_30 : decode cX11_layer 30 = .ok (.goto 5, 3) := by decide +kernel
theorem dX11_layer_33 : decode cX11_layer 33 = .ok (.bipush (-2), 2) := by decide +kernel
theorem dX11_layer_35 : decode cX11_layer 35 = .ok (.ireturn, 1) := by decide +kernel
def s_X11_layer (o : Nat) (a1 : Int32) (h : aH) : aP :=
  kO h o 11 (cI (s_X11_hasCell o a1 h) fun x2 h2 => ck 0 0 (if x2 = 0 then (wC 0 0 (some (.inl (some (.int (-1))), h2))) else ((gO h2 (.ref o) 11 12).bind fun x11 => kO h2 x11 10 (cI (s_X10_isGood x11 a1 h2) fun x15 h15 => ck 0 0 (if x15 = 0 then (wC 0 0 (some (.inl (some (.int (-2))), h15))) else (kO h15 o 11 (dR (s_X11_readySafety o h15) fun x22 h22 n22 y22 => ck (0 + n22) (0 + y22) (wC (0 + n22) (0 + y22) ((gO h22 (.ref x22) 7 7).bind fun x25 => (ldI .int h22 (.ref x25) a1).bind fun x29 => some (.inl (some (.int x29)), h22))))))))))
section
variable {p : Program} {l : Launch} {e : Env} {s : State} {m : MethodId} {args : Array Value} {below : List Frame} {meth : Method} {c : Code} {D : va_G} {B0 : Nat} {X : Nat → Nat} {ws0 : va_W} {r : aR} {h' : aH} {mc ms : Nat}
theorem hy_X11_layer : yX11_layer.cls ≠ "java/lang/invoke/MethodHandle" ∧ yX11_layer.cls ≠ "java/lang/invoke/VarHandle" ∧ (parseMethodDescriptor yX11_layer.desc).map (fun d => d.parameters.length) = some 1 := by decide +kernel
theorem T_X11_layer (o : Nat) (a1 : Int32) (h : aH) (r : aR) (h' : aH) (mc ms : Nat) (hs : s_X11_layer o a1 h = some (r, h', mc, ms)) : Mt yX11_layer (Cond.code yX11_layer cX11_layer 2 (some .int) :: aTB) 7 170 mc ms [.ref o, .int a1] h r h' := by
  unfold s_X11_layer at hs
  refine Mt_of (k := 0) (by decide) rfl (fun p l e s m args below meth c D B0 X ws0 C => ?_)
  show Ev p l e { frames := 7, cells := mc, slots := ms, locals := 170 } s m args below meth c D B0 X ws0 r h' mc ms 2 0 0 0 [some (.ref o), some (.int a1)] [] h
  refine ev_aload_n C (x := .ref o) rfl trivial dX11_layer_0 ?_
  refine ev_iload_n C rfl dX11_layer_1 ?_
  obtain ⟨eo2, hs⟩ := kO_at hs
  obtain ⟨x2, h2, e2, hs⟩ := cI_at hs
  obtain ⟨c2, z2, hs⟩ := ck_at hs
  refine ev_callV C (T_X11_hasCell _ _ _ _ _ e2) (ci := 11) rfl eo2 wc_X11_hasCell wm_X11_199 wi_X11_hasCell ws_X11_hasCell wz_X11 hy_X11_hasCell ⟨(Nat.le_of_ble_eq_true rfl), (Nat.le_of_ble_eq_true rfl)⟩ ⟨c2, z2⟩ (Nat.le_of_ble_eq_true rfl) rfl dX11_layer_2 ?_
  refine ev_if_ne C (tgt := 10) (by decide) dX11_layer_5 (fun q5 => ?_) (fun q5 => ?_)
  · replace hs := (if_neg q5).symm.trans hs
    refine ev_aload_n C (x := .ref o) rfl trivial dX11_layer_10 ?_
    obtain ⟨x11, e11, hs⟩ := aB hs
    refine ev_get C (ci := 11) (k := 12) rfl wu_11 (by decide) wf_X11_54 (gO_F e11) dX11_layer_11 ?_
    refine ev_iload_n C rfl dX11_layer_14 ?_
    obtain ⟨eo15, hs⟩ := kO_at hs
    obtain ⟨x15, h15, e15, hs⟩ := cI_at hs
    obtain ⟨c15, z15, hs⟩ := ck_at hs
    refine ev_callVN C (T_X10_isGood _ _ _ _ _ e15) (ci := 10) rfl eo15 wc_X10_isGood wn_X11_234 wi_X10_isGood ws_X10_isGood wz_X10 hy_X10_isGood ⟨(Nat.le_of_ble_eq_true rfl), (Nat.le_of_ble_eq_true rfl)⟩ ⟨c15, z15⟩ (Nat.le_of_ble_eq_true rfl) rfl dX11_layer_15 ?_
    refine ev_if_eq C (tgt := 33) (by decide) dX11_layer_18 (fun q18 => ?_) (fun q18 => ?_)
    · replace hs := (if_pos q18).symm.trans hs
      obtain ⟨hw9, rfl, rfl⟩ := wC_at hs
      have hs := hw9
      refine ev_bipush C (v := (-2)) dX11_layer_33 (by decide) ?_
      cases hs
      exact ev_iret C rfl rfl (Nat.le_refl _) (Nat.le_refl _) rfl dX11_layer_35
    · replace hs := (if_neg q18).symm.trans hs
      refine ev_aload_n C (x := .ref o) rfl trivial dX11_layer_21 ?_
      obtain ⟨eo22, hs⟩ := kO_at hs
      obtain ⟨x22, h22, n22, y22, e22, hs⟩ := dR_at hs
      obtain ⟨c22, z22, hs⟩ := ck_at hs
      refine ev_callV C (T_X11_readySafety _ _ _ _ _ _ e22) (ci := 11) rfl eo22 wc_X11_readySafety wm_X11_227 wi_X11_readySafety ws_X11_readySafety wz_X11 hy_X11_readySafety ⟨(Nat.le_of_ble_eq_true rfl), (Nat.le_of_ble_eq_true rfl)⟩ ⟨c22, z22⟩ (Nat.le_of_ble_eq_true rfl) rfl dX11_layer_22 ?_
      obtain ⟨hw9, rfl, rfl⟩ := wC_at hs
      have hs := hw9
      obtain ⟨x25, e25, hs⟩ := aB hs
      refine ev_getN C (ci := 7) (k := 7) rfl wu_7 (by decide) wg_X11_237 (gO_F e25) dX11_layer_25 ?_
      refine ev_iload_n C rfl dX11_layer_28 ?_
      obtain ⟨x29, e29, hs⟩ := aB hs
      refine ev_iald C e29 dX11_layer_29 ?_
      refine ev_goto C (tgt := 35) (by decide) dX11_layer_30 ?_
      cases hs
      exact ev_iret C rfl rfl (Nat.le_refl _) (Nat.le_refl _) rfl dX11_layer_35
  · replace hs := (if_pos q5).symm.trans hs
    obtain ⟨hw9, rfl, rfl⟩ := wC_at hs
    have hs := hw9
    refine ev_iconst C (v := (-1)) dX11_layer_8 (by decide) ?_
    cases hs
    exact ev_iret C rfl rfl (Nat.le_refl _) (Nat.le_refl _) rfl dX11_layer_9
end
-- X11_allowed
theorem dX11_allowed_0 : decode cX11_allowed 0 = .ok (.aload_n 0, 1) := by decide +kernel
theorem dX11_allowed_1 : decode cX11_allowed 1 = .ok (.iload_n 1, 1) := by decide +kernel
theorem dX11_allowed_2 : decode cX11_allowed 2 = .ok (.invokevirtual 199, 3) := by decide +kernel
theorem dX11_allowed_5 : decode cX11_allowed 5 = .ok (.ifCond .eq 15, 3) := by decide +kernel
theorem dX11_allowed_8 : decode cX11_allowed 8 = .ok (.aload_n 0, 1) := by decide +kernel
theorem dX11_allowed_9 : decode cX11_allowed 9 = .ok (.invokevirtual 227, 3) := by decide +kernel
theorem dX11_allowed_12 : decode cX11_allowed 12 = .ok (.getfield 240, 3) := by decide +kernel
theorem dX11_allowed_15 : decode cX11_allowed 15 = .ok (.iload_n 1, 1) := by decide +kernel
theorem dX11_allowed_16 : decode cX11_allowed 16 = .ok (.iaload, 1) := by decide +kernel
theorem dX11_allowed_17 : decode cX11_allowed 17 = .ok (.goto 4, 3) := by decide +kernel
theorem dX11_allowed_20 : decode cX11_allowed 20 = .ok (.iconst (-1), 1) := by decide +kernel
theorem dX11_allowed_21 : decode cX11_allowed 21 = .ok (.ireturn, 1) := by decide +kernel
def s_X11_allowed (o : Nat) (a1 : Int32) (h : aH) : aP :=
  kO h o 11 (cI (s_X11_hasCell o a1 h) fun x2 h2 => ck 0 0 (if x2 = 0 then (wC 0 0 (some (.inl (some (.int (-1))), h2))) else (kO h2 o 11 (dR (s_X11_readySafety o h2) fun x9 h9 n9 y9 => ck (0 + n9) (0 + y9) (wC (0 + n9) (0 + y9) ((gO h9 (.ref x9) 7 8).bind fun x12 => (ldI .int h9 (.ref x12) a1).bind fun x16 => some (.inl (some (.int x16)), h9)))))))
section
variable {p : Program} {l : Launch} {e : Env} {s : State} {m : MethodId} {args : Array Value} {below : List Frame} {meth : Method} {c : Code} {D : va_G} {B0 : Nat} {X : Nat → Nat} {ws0 : va_W} {r : aR} {h' : aH} {mc ms : Nat}
theorem hy_X11_allowed : yX11_allowed.cls ≠ "java/lang/invoke/MethodHandle" ∧ yX11_allowed.cls ≠ "java/lang/invoke/VarHandle" ∧ (parseMethodDescriptor yX11_allowed.desc).map (fun d => d.parameters.length) = some 1 := by decide +kernel
theorem T_X11_allowed (o : Nat) (a1 : Int32) (h : aH) (r : aR) (h' : aH) (mc ms : Nat) (hs : s_X11_allowed o a1 h = some (r, h', mc, ms)) : Mt yX11_allowed (Cond.code yX11_allowed cX11_allowed 2 (some .int) :: aTB) 7 170 mc ms [.ref o, .int a1] h r h' := by
  unfold s_X11_allowed at hs
  refine Mt_of (k := 0) (by decide) rfl (fun p l e s m args below meth c D B0 X ws0 C => ?_)
  show Ev p l e { frames := 7, cells := mc, slots := ms, locals := 170 } s m args below meth c D B0 X ws0 r h' mc ms 2 0 0 0 [some (.ref o), some (.int a1)] [] h
  refine ev_aload_n C (x := .ref o) rfl trivial dX11_allowed_0 ?_
  refine ev_iload_n C rfl dX11_allowed_1 ?_
  obtain ⟨eo2, hs⟩ := kO_at hs
  obtain ⟨x2, h2, e2, hs⟩ := cI_at hs
  obtain ⟨c2, z2, hs⟩ := ck_at hs
  refine ev_callV C (T_X11_hasCell _ _ _ _ _ e2) (ci := 11) rfl eo2 wc_X11_hasCell wm_X11_199 wi_X11_hasCell ws_X11_hasCell wz_X11 hy_X11_hasCell ⟨(Nat.le_of_ble_eq_true rfl), (Nat.le_of_ble_eq_true rfl)⟩ ⟨c2, z2⟩ (Nat.le_of_ble_eq_true rfl) rfl dX11_allowed_2 ?_
  refine ev_if_eq C (tgt := 20) (by decide) dX11_allowed_5 (fun q5 => ?_) (fun q5 => ?_)
  · replace hs := (if_pos q5).symm.trans hs
    obtain ⟨hw9, rfl, rfl⟩ := wC_at hs
    have hs := hw9
    refine ev_iconst C (v := (-1)) dX11_allowed_20 (by decide) ?_
    cases hs
    exact ev_iret C rfl rfl (Nat.le_refl _) (Nat.le_refl _) rfl dX11_allowed_21
  · replace hs := (if_neg q5).symm.trans hs
    refine ev_aload_n C (x := .ref o) rfl trivial dX11_allowed_8 ?_
    obtain ⟨eo9, hs⟩ := kO_at hs
    obtain ⟨x9, h9, n9, y9, e9, hs⟩ := dR_at hs
    obtain ⟨c9, z9, hs⟩ := ck_at hs
    refine ev_callV C (T_X11_readySafety _ _ _ _ _ _ e9) (ci := 11) rfl eo9 wc_X11_readySafety wm_X11_227 wi_X11_readySafety ws_X11_readySafety wz_X11 hy_X11_readySafety ⟨(Nat.le_of_ble_eq_true rfl), (Nat.le_of_ble_eq_true rfl)⟩ ⟨c9, z9⟩ (Nat.le_of_ble_eq_true rfl) rfl dX11_allowed_9 ?_
    obtain ⟨hw9, rfl, rfl⟩ := wC_at hs
    have hs := hw9
    obtain ⟨x12, e12, hs⟩ := aB hs
    refine ev_getN C (ci := 7) (k := 8) rfl wu_7 (by decide) wg_X11_240 (gO_F e12) dX11_allowed_12 ?_
    refine ev_iload_n C rfl dX11_allowed_15 ?_
    obtain ⟨x16, e16, hs⟩ := aB hs
    refine ev_iald C e16 dX11_allowed_16 ?_
    refine ev_goto C (tgt := 21) (by decide) dX11_allowed_17 ?_
    cases hs
    exact ev_iret C rfl rfl (Nat.le_refl _) (Nat.le_refl _) rfl dX11_allowed_21
end
-- X11_readyReaches
theorem dX11_readyReaches_0 : decode cX11_readyReaches 0 = .ok (.aload_n 0, 1) := by decide +kernel
theorem dX11_readyReaches_1 : decode cX11_readyReaches 1 = .ok (.getfield 45, 3) := by decide +kernel
theorem dX11_readyReaches_4 : decode cX11_readyReaches 4 = .ok (.invokevirtual 372, 3) := by decide +kernel
theorem dX11_readyReaches_7 : decode cX11_readyReaches 7 = .ok (.aload_n 0, 1) := by decide +kernel
theorem dX11_readyReaches_8 : decode cX11_readyReaches 8 = .ok (.getfield 54, 3) := by decide +kernel
theorem dX11_readyReaches_11 : decode cX11_readyReaches 11 = .ok (.invokevirtual 386, 3) := by decide +kernel
theorem dX11_readyReaches_14 : decode cX11_readyReaches 14 = .ok (.aload_n 0, 1) := by decide +kernel
theorem dX11_readyReaches_15 : decode cX11_readyReaches 15 = .ok (.getfield 54, 3) := by decide +kernel
theorem dX11_readyReaches_18 : decode cX11_readyReaches 18 = .ok (.areturn, 1) := by decide +kernel
def s_X11_readyReaches (o : Nat) (h : aH) : aP :=
  (gO h (.ref o) 11 11).bind fun x1 => kO h x1 3 (dN (s_X3_fill x1 h) fun h4 n4 y4 => ck (0 + n4) (0 + y4) ((gO h4 (.ref o) 11 12).bind fun x8 => kO h4 x8 10 (dN (s_X10_settleReaches x8 h4) fun h11 n11 y11 => ck (0 + n4 + n11) (0 + y4 + y11) (wC (0 + n4 + n11) (0 + y4 + y11) ((gO h11 (.ref o) 11 12).bind fun x15 => some (.inl (some (.ref x15)), h11))))))
section
variable {p : Program} {l : Launch} {e : Env} {s : State} {m : MethodId} {args : Array Value} {below : List Frame} {meth : Method} {c : Code} {D : va_G} {B0 : Nat} {X : Nat → Nat} {ws0 : va_W} {r : aR} {h' : aH} {mc ms : Nat}
theorem hy_X11_readyReaches : yX11_readyReaches.cls ≠ "java/lang/invoke/MethodHandle" ∧ yX11_readyReaches.cls ≠ "java/lang/invoke/VarHandle" ∧ (parseMethodDescriptor yX11_readyReaches.desc).map (fun d => d.parameters.length) = some 0 := by decide +kernel
theorem T_X11_readyReaches (o : Nat) (h : aH) (r : aR) (h' : aH) (mc ms : Nat) (hs : s_X11_readyReaches o h = some (r, h', mc, ms)) : Mt yX11_readyReaches (Cond.code yX11_readyReaches cX11_readyReaches 1 (some (.object "SteeringHouse$Wishes")) :: aTB) 6 150 mc ms [.ref o] h r h' := by
  unfold s_X11_readyReaches at hs
  refine Mt_of (k := 0) (by decide) rfl (fun p l e s m args below meth c D B0 X ws0 C => ?_)
  show Ev p l e { frames := 6, cells := mc, slots := ms, locals := 150 } s m args below meth c D B0 X ws0 r h' mc ms 1 0 0 0 [some (.ref o)] [] h
  refine ev_aload_n C (x := .ref o) rfl trivial dX11_readyReaches_0 ?_
  obtain ⟨x1, e1, hs⟩ := aB hs
  refine ev_get C (ci := 11) (k := 11) rfl wu_11 (by decide) wf_X11_45 (gO_F e1) dX11_readyReaches_1 ?_
  obtain ⟨eo4, hs⟩ := kO_at hs
  obtain ⟨h4, n4, y4, e4, hs⟩ := dN_at hs
  obtain ⟨c4, z4, hs⟩ := ck_at hs
  refine ev_callVN C (T_X3_fill _ _ _ _ _ _ e4) (ci := 3) rfl eo4 wc_X3_fill wn_X11_372 wi_X3_fill ws_X3_fill wz_X3 hy_X3_fill ⟨(Nat.le_of_ble_eq_true rfl), (Nat.le_of_ble_eq_true rfl)⟩ ⟨c4, z4⟩ (Nat.le_of_ble_eq_true rfl) rfl dX11_readyReaches_4 ?_
  refine ev_aload_n C (x := .ref o) rfl trivial dX11_readyReaches_7 ?_
  obtain ⟨x8, e8, hs⟩ := aB hs
  refine ev_get C (ci := 11) (k := 12) rfl wu_11 (by decide) wf_X11_54 (gO_F e8) dX11_readyReaches_8 ?_
  obtain ⟨eo11, hs⟩ := kO_at hs
  obtain ⟨h11, n11, y11, e11, hs⟩ := dN_at hs
  obtain ⟨c11, z11, hs⟩ := ck_at hs
  refine ev_callVN C (T_X10_settleReaches _ _ _ _ _ _ e11) (ci := 10) rfl eo11 wc_X10_settleReaches wn_X11_386 wi_X10_settleReaches ws_X10_settleReaches wz_X10 hy_X10_settleReaches ⟨(Nat.le_of_ble_eq_true rfl), (Nat.le_of_ble_eq_true rfl)⟩ ⟨c11, z11⟩ (Nat.le_of_ble_eq_true rfl) rfl dX11_readyReaches_11 ?_
  obtain ⟨hw9, rfl, rfl⟩ := wC_at hs
  have hs := hw9
  refine ev_aload_n C (x := .ref o) rfl trivial dX11_readyReaches_14 ?_
  obtain ⟨x15, e15, hs⟩ := aB hs
  refine ev_get C (ci := 11) (k := 12) rfl wu_11 (by decide) wf_X11_54 (gO_F e15) dX11_readyReaches_15 ?_
  cases hs
  exact ev_aret C rfl (Or.inl ⟨_, rfl⟩) trivial rfl (Nat.le_refl _) (Nat.le_refl _) rfl dX11_readyReaches_18
end
-- X11_ticks
theorem dX11_ticks_0 : decode cX11_ticks 0 = .ok (.aload_n 0, 1) := by decide +kernel
theorem dX11_ticks_1 : decode cX11_ticks 1 = .ok (.iload_n 1, 1) := by decide +kernel
theorem dX11_ticks_2 : decode cX11_ticks 2 = .ok (.invokevirtual 199, 3) := by decide +kernel
theorem dX11_ticks_5 : decode cX11_ticks 5 = .ok (.ifCond .eq 15, 3) := by decide +kernel
theorem dX11_ticks_8 : decode cX11_ticks 8 = .ok (.aload_n 0, 1) := by decide +kernel
theorem dX11_ticks_9 : decode cX11_ticks 9 = .ok (.invokevirtual 243, 3) := by decide +kernel
theorem dX11_ticks_12 : decode cX11_ticks 12 = .ok (.getfield 247, 3) := by decide +kernel
theorem dX11_ticks_15 : decode cX11_ticks 15 = .ok (.iload_n 1, 1) := by decide +kernel
theorem dX11_ticks_16 : decode cX11_ticks 16 = .ok (.iaload, 1) := by decide +kernel
theorem dX11_ticks_17 : decode cX11_ticks 17 = .ok (.goto 4, 3) := by decide +kernel
theorem dX11_ticks_20 : decode cX11_ticks 20 = .ok (.iconst (-1), 1) := by decide +kernel
theorem dX11_ticks_21 : decode cX11_ticks 21 = .ok (.ireturn, 1) := by decide +kernel
def s_X11_ticks (o : Nat) (a1 : Int32) (h : aH) : aP :=
  kO h o 11 (cI (s_X11_hasCell o a1 h) fun x2 h2 => ck 0 0 (if x2 = 0 then (wC 0 0 (some (.inl (some (.int (-1))), h2))) else (kO h2 o 11 (dR (s_X11_readyReaches o h2) fun x9 h9 n9 y9 => ck (0 + n9) (0 + y9) (wC (0 + n9) (0 + y9) ((gO h9 (.ref x9) 10 8).bind fun x12 => (ldI .int h9 (.ref x12) a1).bind fun x16 => some (.inl (some (.int x16)), h9)))))))
section
variable {p : Program} {l : Launch} {e : Env} {s : State} {m : MethodId} {args : Array Value} {below : List Frame} {meth : Method} {c : Code} {D : va_G} {B0 : Nat} {X : Nat → Nat} {ws0 : va_W} {r : aR} {h' : aH} {mc ms : Nat}
theorem hy_X11_ticks : yX11_ticks.cls ≠ "java/lang/invoke/MethodHandle" ∧ yX11_ticks.cls ≠ "java/lang/invoke/VarHandle" ∧ (parseMethodDescriptor yX11_ticks.desc).map (fun d => d.parameters.length) = some 1 := by decide +kernel
theorem T_X11_ticks (o : Nat) (a1 : Int32) (h : aH) (r : aR) (h' : aH) (mc ms : Nat) (hs : s_X11_ticks o a1 h = some (r, h', mc, ms)) : Mt yX11_ticks (Cond.code yX11_ticks cX11_ticks 2 (some .int) :: aTB) 7 170 mc ms [.ref o, .int a1] h r h' := by
  unfold s_X11_ticks at hs
  refine Mt_of (k := 0) (by decide) rfl (fun p l e s m args below meth c D B0 X ws0 C => ?_)
  show Ev p l e { frames := 7, cells := mc, slots := ms, locals := 170 } s m args below meth c D B0 X ws0 r h' mc ms 2 0 0 0 [some (.ref o), some (.int a1)] [] h
  refine ev_aload_n C (x := .ref o) rfl trivial dX11_ticks_0 ?_
  refine ev_iload_n C rfl dX11_ticks_1 ?_
  obtain ⟨eo2, hs⟩ := kO_at hs
  obtain ⟨x2, h2, e2, hs⟩ := cI_at hs
  obtain ⟨c2, z2, hs⟩ := ck_at hs
  refine ev_callV C (T_X11_hasCell _ _ _ _ _ e2) (ci := 11) rfl eo2 wc_X11_hasCell wm_X11_199 wi_X11_hasCell ws_X11_hasCell wz_X11 hy_X11_hasCell ⟨(Nat.le_of_ble_eq_true rfl), (Nat.le_of_ble_eq_true rfl)⟩ ⟨c2, z2⟩ (Nat.le_of_ble_eq_true rfl) rfl dX11_ticks_2 ?_
  refine ev_if_eq C (tgt := 20) (by decide) dX11_ticks_5 (fun q5 => ?_) (fun q5 => ?_)
  · replace hs := (if_pos q5).symm.trans hs
    obtain ⟨hw9, rfl, rfl⟩ := wC_at hs
    have hs := hw9
    refine ev_iconst C (v := (-1)) dX11_ticks_20 (by decide) ?_
    cases hs
    exact ev_iret C rfl rfl (Nat.le_refl _) (Nat.le_refl _) rfl dX11_ticks_21
  · replace hs := (if_neg q5).symm.trans hs
    refine ev_aload_n C (x := .ref o) rfl trivial dX11_ticks_8 ?_
    obtain ⟨eo9, hs⟩ := kO_at hs
    obtain ⟨x9, h9, n9, y9, e9, hs⟩ := dR_at hs
    obtain ⟨c9, z9, hs⟩ := ck_at hs
    refine ev_callV C (T_X11_readyReaches _ _ _ _ _ _ e9) (ci := 11) rfl eo9 wc_X11_readyReaches wm_X11_243 wi_X11_readyReaches ws_X11_readyReaches wz_X11 hy_X11_readyReaches ⟨(Nat.le_of_ble_eq_true rfl), (Nat.le_of_ble_eq_true rfl)⟩ ⟨c9, z9⟩ (Nat.le_of_ble_eq_true rfl) rfl dX11_ticks_9 ?_
    obtain ⟨hw9, rfl, rfl⟩ := wC_at hs
    have hs := hw9
    obtain ⟨x12, e12, hs⟩ := aB hs
    refine ev_getN C (ci := 10) (k := 8) rfl wu_10 (by decide) wg_X11_247 (gO_F e12) dX11_ticks_12 ?_
    refine ev_iload_n C rfl dX11_ticks_15 ?_
    obtain ⟨x16, e16, hs⟩ := aB hs
    refine ev_iald C e16 dX11_ticks_16 ?_
    refine ev_goto C (tgt := 21) (by decide) dX11_ticks_17 ?_
    cases hs
    exact ev_iret C rfl rfl (Nat.le_refl _) (Nat.le_refl _) rfl dX11_ticks_21
end
-- X11_law
theorem dX11_law_0 : decode cX11_law 0 = .ok (.aload_n 0, 1) := by decide +kernel
theorem dX11_law_1 : decode cX11_law 1 = .ok (.iload_n 1, 1) := by decide +kernel
theorem dX11_law_2 : decode cX11_law 2 = .ok (.invokevirtual 199, 3) := by decide +kernel
theorem dX11_law_5 : decode cX11_law 5 = .ok (.ifCond .eq 15, 3) := by decide +kernel
theorem dX11_law_8 : decode cX11_law 8 = .ok (.aload_n 0, 1) := by decide +kernel
theorem dX11_law_9 : decode cX11_law 9 = .ok (.invokevirtual 243, 3) := by decide +kernel
theorem dX11_law_12 : decode cX11_law 12 = .ok (.getfield 250, 3) := by decide +kernel
theorem dX11_law_15 : decode cX11_law 15 = .ok (.iload_n 1, 1) := by decide +kernel
theorem dX11_law_16 : decode cX11_law 16 = .ok (.iaload, 1) := by decide +kernel
theorem dX11_law_17 : decode cX11_law 17 = .ok (.goto 4, 3) := by decide +kernel
theorem dX11_law_20 : decode cX11_law 20 = .ok (.iconst (-1), 1) := by decide +kernel
theorem dX11_law_21 : decode cX11_law 21 = .ok (.ireturn, 1) := by decide +kernel
def s_X11_law (o : Nat) (a1 : Int32) (h : aH) : aP :=
  kO h o 11 (cI (s_X11_hasCell o a1 h) fun x2 h2 => ck 0 0 (if x2 = 0 then (wC 0 0 (some (.inl (some (.int (-1))), h2))) else (kO h2 o 11 (dR (s_X11_readyReaches o h2) fun x9 h9 n9 y9 => ck (0 + n9) (0 + y9) (wC (0 + n9) (0 + y9) ((gO h9 (.ref x9) 10 9).bind fun x12 => (ldI .int h9 (.ref x12) a1).bind fun x16 => some (.inl (some (.int x16)), h9)))))))
section
variable {p : Program} {l : Launch} {e : Env} {s : State} {m : MethodId} {args : Array Value} {below : List Frame} {meth : Method} {c : Code} {D : va_G} {B0 : Nat} {X : Nat → Nat} {ws0 : va_W} {r : aR} {h' : aH} {mc ms : Nat}
theorem hy_X11_law : yX11_law.cls ≠ "java/lang/invoke/MethodHandle" ∧ yX11_law.cls ≠ "java/lang/invoke/VarHandle" ∧ (parseMethodDescriptor yX11_law.desc).map (fun d => d.parameters.length) = some 1 := by decide +kernel
theorem T_X11_law (o : Nat) (a1 : Int32) (h : aH) (r : aR) (h' : aH) (mc ms : Nat) (hs : s_X11_law o a1 h = some (r, h', mc, ms)) : Mt yX11_law (Cond.code yX11_law cX11_law 2 (some .int) :: aTB) 7 170 mc ms [.ref o, .int a1] h r h' := by
  unfold s_X11_law at hs
  refine Mt_of (k := 0) (by decide) rfl (fun p l e s m args below meth c D B0 X ws0 C => ?_)
  show Ev p l e { frames := 7, cells := mc, slots := ms, locals := 170 } s m args below meth c D B0 X ws0 r h' mc ms 2 0 0 0 [some (.ref o), some (.int a1)] [] h
  refine ev_aload_n C (x := .ref o) rfl trivial dX11_law_0 ?_
  refine ev_iload_n C rfl dX11_law_1 ?_
  obtain ⟨eo2, hs⟩ := kO_at hs
  obtain ⟨x2, h2, e2, hs⟩ := cI_at hs
  obtain ⟨c2, z2, hs⟩ := ck_at hs
  refine ev_callV C (T_X11_hasCell _ _ _ _ _ e2) (ci := 11) rfl eo2 wc_X11_hasCell wm_X11_199 wi_X11_hasCell ws_X11_hasCell wz_X11 hy_X11_hasCell ⟨(Nat.le_of_ble_eq_true rfl), (Nat.le_of_ble_eq_true rfl)⟩ ⟨c2, z2⟩ (Nat.le_of_ble_eq_true rfl) rfl dX11_law_2 ?_
  refine ev_if_eq C (tgt := 20) (by decide) dX11_law_5 (fun q5 => ?_) (fun q5 => ?_)
  · replace hs := (if_pos q5).symm.trans hs
    obtain ⟨hw9, rfl, rfl⟩ := wC_at hs
    have hs := hw9
    refine ev_iconst C (v := (-1)) dX11_law_20 (by decide) ?_
    cases hs
    exact ev_iret C rfl rfl (Nat.le_refl _) (Nat.le_refl _) rfl dX11_law_21
  · replace hs := (if_neg q5).symm.trans hs
    refine ev_aload_n C (x := .ref o) rfl trivial dX11_law_8 ?_
    obtain ⟨eo9, hs⟩ := kO_at hs
    obtain ⟨x9, h9, n9, y9, e9, hs⟩ := dR_at hs
    obtain ⟨c9, z9, hs⟩ := ck_at hs
    refine ev_callV C (T_X11_readyReaches _ _ _ _ _ _ e9) (ci := 11) rfl eo9 wc_X11_readyReaches wm_X11_243 wi_X11_readyReaches ws_X11_readyReaches wz_X11 hy_X11_readyReaches ⟨(Nat.le_of_ble_eq_true rfl), (Nat.le_of_ble_eq_true rfl)⟩ ⟨c9, z9⟩ (Nat.le_of_ble_eq_true rfl) rfl dX11_law_9 ?_
    obtain ⟨hw9, rfl, rfl⟩ := wC_at hs
    have hs := hw9
    obtain ⟨x12, e12, hs⟩ := aB hs
    refine ev_getN C (ci := 10) (k := 9) rfl wu_10 (by decide) wg_X11_250 (gO_F e12) dX11_law_12 ?_
    refine ev_iload_n C rfl dX11_law_15 ?_
    obtain ⟨x16, e16, hs⟩ := aB hs
    refine ev_iald C e16 dX11_law_16 ?_
    refine ev_goto C (tgt := 21) (by decide) dX11_law_17 ?_
    cases hs
    exact ev_iret C rfl rfl (Nat.le_refl _) (Nat.le_refl _) rfl dX11_law_21
end
-- X11_readyPayments
theorem dX11_readyPayments_0 : decode cX11_readyPayments 0 = .ok (.aload_n 0, 1) := by decide +kernel
theorem dX11_readyPayments_1 : decode cX11_readyPayments 1 = .ok (.getfield 45, 3) := by decide +kernel
theorem dX11_readyPayments_4 : decode cX11_readyPayments 4 = .ok (.invokevirtual 372, 3) := by decide +kernel
theorem dX11_readyPayments_7 : decode cX11_readyPayments 7 = .ok (.aload_n 0, 1) := by decide +kernel
theorem dX11_readyPayments_8 : decode cX11_readyPayments 8 = .ok (.getfield 70, 3) := by decide +kernel
theorem dX11_readyPayments_11 : decode cX11_readyPayments 11 = .ok (.iload_n 1, 1) := by decide +kernel
theorem dX11_readyPayments_12 : decode cX11_readyPayments 12 = .ok (.invokevirtual 389, 3) := by decide +kernel
theorem dX11_readyPayments_15 : decode cX11_readyPayments 15 = .ok (.aload_n 0, 1) := by decide +kernel
theorem dX11_readyPayments_16 : decode cX11_readyPayments 16 = .ok (.getfield 70, 3) := by decide +kernel
theorem dX11_readyPayments_19 : decode cX11_readyPayments 19 = .ok (.areturn, 1) := by decide +kernel
def s_X11_readyPayments (o : Nat) (a1 : Int32) (h : aH) : aP :=
  (gO h (.ref o) 11 11).bind fun x1 => kO h x1 3 (dN (s_X3_fill x1 h) fun h4 n4 y4 => ck (0 + n4) (0 + y4) ((gO h4 (.ref o) 11 14).bind fun x8 => kO h4 x8 4 (dN (s_X4_settle x8 a1 h4) fun h12 n12 y12 => ck (0 + n4 + n12) (0 + y4 + y12) (wC (0 + n4 + n12) (0 + y4 + y12) ((gO h12 (.ref o) 11 14).bind fun x16 => some (.inl (some (.ref x16)), h12))))))
section
variable {p : Program} {l : Launch} {e : Env} {s : State} {m : MethodId} {args : Array Value} {below : List Frame} {meth : Method} {c : Code} {D : va_G} {B0 : Nat} {X : Nat → Nat} {ws0 : va_W} {r : aR} {h' : aH} {mc ms : Nat}
theorem hy_X11_readyPayments : yX11_readyPayments.cls ≠ "java/lang/invoke/MethodHandle" ∧ yX11_readyPayments.cls ≠ "java/lang/invoke/VarHandle" ∧ (parseMethodDescriptor yX11_readyPayments.desc).map (fun d => d.parameters.length) = some 1 := by decide +kernel
theorem T_X11_readyPayments (o : Nat) (a1 : Int32) (h : aH) (r : aR) (h' : aH) (mc ms : Nat) (hs : s_X11_readyPayments o a1 h = some (r, h', mc, ms)) : Mt yX11_readyPayments (Cond.code yX11_readyPayments cX11_readyPayments 2 (some (.object "SteeringHouse$Payments")) :: aTB) 6 150 mc ms [.ref o, .int a1] h r h' := by
  unfold s_X11_readyPayments at hs
  refine Mt_of (k := 0) (by decide) rfl (fun p l e s m args below meth c D B0 X ws0 C => ?_)
  show Ev p l e { frames := 6, cells := mc, slots := ms, locals := 150 } s m args below meth c D B0 X ws0 r h' mc ms 2 0 0 0 [some (.ref o), some (.int a1)] [] h
  refine ev_aload_n C (x := .ref o) rfl trivial dX11_readyPayments_0 ?_
  obtain ⟨x1, e1, hs⟩ := aB hs
  refine ev_get C (ci := 11) (k := 11) rfl wu_11 (by decide) wf_X11_45 (gO_F e1) dX11_readyPayments_1 ?_
  obtain ⟨eo4, hs⟩ := kO_at hs
  obtain ⟨h4, n4, y4, e4, hs⟩ := dN_at hs
  obtain ⟨c4, z4, hs⟩ := ck_at hs
  refine ev_callVN C (T_X3_fill _ _ _ _ _ _ e4) (ci := 3) rfl eo4 wc_X3_fill wn_X11_372 wi_X3_fill ws_X3_fill wz_X3 hy_X3_fill ⟨(Nat.le_of_ble_eq_true rfl), (Nat.le_of_ble_eq_true rfl)⟩ ⟨c4, z4⟩ (Nat.le_of_ble_eq_true rfl) rfl dX11_readyPayments_4 ?_
  refine ev_aload_n C (x := .ref o) rfl trivial dX11_readyPayments_7 ?_
  obtain ⟨x8, e8, hs⟩ := aB hs
  refine ev_get C (ci := 11) (k := 14) rfl wu_11 (by decide) wf_X11_70 (gO_F e8) dX11_readyPayments_8 ?_
  refine ev_iload_n C rfl dX11_readyPayments_11 ?_
  obtain ⟨eo12, hs⟩ := kO_at hs
  obtain ⟨h12, n12, y12, e12, hs⟩ := dN_at hs
  obtain ⟨c12, z12, hs⟩ := ck_at hs
  refine ev_callVN C (T_X4_settle _ _ _ _ _ _ _ e12) (ci := 4) rfl eo12 wc_X4_settle wn_X11_389 wi_X4_settle ws_X4_settle wz_X4 hy_X4_settle ⟨(Nat.le_of_ble_eq_true rfl), (Nat.le_of_ble_eq_true rfl)⟩ ⟨c12, z12⟩ (Nat.le_of_ble_eq_true rfl) rfl dX11_readyPayments_12 ?_
  obtain ⟨hw9, rfl, rfl⟩ := wC_at hs
  have hs := hw9
  refine ev_aload_n C (x := .ref o) rfl trivial dX11_readyPayments_15 ?_
  obtain ⟨x16, e16, hs⟩ := aB hs
  refine ev_get C (ci := 11) (k := 14) rfl wu_11 (by decide) wf_X11_70 (gO_F e16) dX11_readyPayments_16 ?_
  cases hs
  exact ev_aret C rfl (Or.inl ⟨_, rfl⟩) trivial rfl (Nat.le_refl _) (Nat.le_refl _) rfl dX11_readyPayments_19
end
-- X11_best
theorem dX11_best_0 : decode cX11_best 0 = .ok (.aload_n 0, 1) := by decide +kernel
theorem dX11_best_1 : decode cX11_best 1 = .ok (.iload_n 1, 1) := by decide +kernel
theorem dX11_best_2 : decode cX11_best 2 = .ok (.invokevirtual 199, 3) := by decide +kernel
theorem dX11_best_5 : decode cX11_best 5 = .ok (.ifCond .ne 9, 3) := by decide +kernel
theorem dX11_best_8 : decode cX11_best 8 = .ok (.aload_n 0, 1) := by decide +kernel
theorem dX11_best_9 : decode cX11_best 9 = .ok (.iconst 1, 1) := by decide +kernel
theorem dX11_best_10 : decode cX11_best 10 = .ok (.invokevirtual 105, 3) := by decide +kernel
theorem dX11_best_13 : decode cX11_best 13 = .ok (.ireturn, 1) := by decide +kernel
theorem dX11_best_14 : decode cX11_best 14 = .ok (.iload_n 2, 1) := by decide +kernel
theorem dX11_best_15 : decode cX11_best 15 = .ok (.ifCond .lt 9, 3) := by decide +kernel
theorem dX11_best_18 : decode cX11_best 18 = .ok (.iload_n 2, 1) := by decide +kernel
theorem dX11_best_19 : decode cX11_best 19 = .ok (.bipush 20, 2) := by decide +kernel
theorem dX11_best_21 : decode cX11_best 21 = .ok (.if_icmp .le 9, 3) := by decide +kernel
theorem dX11_best_24 : decode cX11_best 24 = .ok (.aload_n 0, 1) := by decide +kernel
theorem dX11_best_25 : decode cX11_best 25 = .ok (.iconst 2, 1) := by decide +kernel
theorem dX11_best_26 : decode cX11_best 26 = .ok (.invokevirtual 105, 3) := by decide +kernel
theorem dX11_best_29 : decode cX11_best 29 = .ok (.ireturn, 1) := by decide +kernel
theorem dX11_best_30 : decode cX11_best 30 = .ok (.aload_n 0, 1) := by decide +kernel
theorem dX11_best_31 : decode cX11_best 31 = .ok (.iconst 0, 1) := by decide +kernel
theorem dX11_best_32 : decode cX11_best 32 = .ok (.putfield 167, 3) := by decide +kernel
theorem dX11_best_35 : decode cX11_best 35 = .ok (.aload_n 0, 1) := by decide +kernel
theorem dX11_best_36 : decode cX11_best 36 = .ok (.iload_n 2, 1) := by decide +kernel
theorem dX11_best_37 : decode cX11_best 37 = .ok (.invokevirtual 253, 3) := by decide +kernel
theorem dX11_best_40 : decode cX11_best 40 = .ok (.iload_n 1, 1) := by decide +kernel
theorem dX11_best_41 : decode cX11_best 41 = .ok (.iload_n 2, 1) := by decide +kernel
theorem dX11_best_42 : decode cX11_best 42 = .ok (.invokevirtual 257, 3) := by decide +kernel
theorem dX11_best_45 : decode cX11_best 45 = .ok (.ireturn, 1) := by decide +kernel
def s_X11_best_24  (l0 : Nat) (h : aH) (c9 z9 : Nat) : aP :=
  wC c9 z9 (kO h l0 11 (cI (s_X11_refused l0 2 h) fun x26 h26 => some (.inl (some (.int x26)), h26)))
def s_X11_best (o : Nat) (a1 : Int32) (a2 : Int32) (h : aH) : aP :=
  kO h o 11 (cI (s_X11_hasCell o a1 h) fun x2 h2 => ck 0 0 (if x2 = 0 then (wC 0 0 (kO h2 o 11 (cI (s_X11_refused o 1 h2) fun x10 h10 => some (.inl (some (.int x10)), h10)))) else (if a2 < 0 then (s_X11_best_24 o h2 0 0) else (if a2 ≤ 20 then ((pF h2 (.ref o) 11 3 (.int 0)).bind fun h32 => kO h32 o 11 (dR (s_X11_readyPayments o a2 h32) fun x37 h37 n37 y37 => ck (0 + n37) (0 + y37) (wC (0 + n37) (0 + y37) (kO h37 x37 4 (cI (s_X4_paid x37 a1 a2 h37) fun x42 h42 => some (.inl (some (.int x42)), h42)))))) else (s_X11_best_24 o h2 0 0)))))
section
variable {p : Program} {l : Launch} {e : Env} {s : State} {m : MethodId} {args : Array Value} {below : List Frame} {meth : Method} {c : Code} {D : va_G} {B0 : Nat} {X : Nat → Nat} {ws0 : va_W} {r : aR} {h' : aH} {mc ms : Nat}
theorem t_X11_best_24 (C : Cx p l s m args meth c B0 X RX11 "best" cX11_best 3 (some .int) [])   {l0 : Nat} {h : aH} {c9 z9 : Nat} (hs : s_X11_best_24  l0 h c9 z9 = some (r, h', mc, ms)) : Ev p l e { frames := 7, cells := mc, slots := ms, locals := 171 } s m args below meth c D B0 X ws0 r h' mc ms 3 c9 z9 24 [some (.ref l0), none, none] [] h := by
  unfold s_X11_best_24 at hs
  obtain ⟨hw9, rfl, rfl⟩ := wC_at hs
  have hs := hw9
  refine ev_aload_n C (x := .ref l0) rfl trivial dX11_best_24 ?_
  refine ev_iconst C (v := 2) dX11_best_25 (by decide) ?_
  obtain ⟨eo26, hs⟩ := kO_at hs
  obtain ⟨x26, h26, e26, hs⟩ := cI_at hs
  refine ev_callV C (T_X11_refused _ _ _ _ _ e26) (ci := 11) rfl eo26 wc_X11_refused wm_X11_105 wi_X11_refused ws_X11_refused wz_X11 hy_X11_refused ⟨(Nat.le_of_ble_eq_true rfl), (Nat.le_of_ble_eq_true rfl)⟩ ⟨(Nat.le_refl _), (Nat.le_refl _)⟩ (Nat.le_of_ble_eq_true rfl) rfl dX11_best_26 ?_
  cases hs
  exact ev_iret C rfl rfl (Nat.le_refl _) (Nat.le_refl _) rfl dX11_best_29
theorem hy_X11_best : yX11_best.cls ≠ "java/lang/invoke/MethodHandle" ∧ yX11_best.cls ≠ "java/lang/invoke/VarHandle" ∧ (parseMethodDescriptor yX11_best.desc).map (fun d => d.parameters.length) = some 2 := by decide +kernel
theorem T_X11_best (o : Nat) (a1 : Int32) (a2 : Int32) (h : aH) (r : aR) (h' : aH) (mc ms : Nat) (hs : s_X11_best o a1 a2 h = some (r, h', mc, ms)) : Mt yX11_best (Cond.code yX11_best cX11_best 3 (some .int) :: aTB) 7 171 mc ms [.ref o, .int a1, .int a2] h r h' := by
  unfold s_X11_best at hs
  refine Mt_of (k := 0) (by decide) rfl (fun p l e s m args below meth c D B0 X ws0 C => ?_)
  show Ev p l e { frames := 7, cells := mc, slots := ms, locals := 171 } s m args below meth c D B0 X ws0 r h' mc ms 3 0 0 0 [some (.ref o), some (.int a1), some (.int a2)] [] h
  refine ev_aload_n C (x := .ref o) rfl trivial dX11_best_0 ?_
  refine ev_iload_n C rfl dX11_best_1 ?_
  obtain ⟨eo2, hs⟩ := kO_at hs
  obtain ⟨x2, h2, e2, hs⟩ := cI_at hs
  obtain ⟨c2, z2, hs⟩ := ck_at hs
  refine ev_callV C (T_X11_hasCell _ _ _ _ _ e2) (ci := 11) rfl eo2 wc_X11_hasCell wm_X11_199 wi_X11_hasCell ws_X11_hasCell wz_X11 hy_X11_hasCell ⟨(Nat.le_of_ble_eq_true rfl), (Nat.le_of_ble_eq_true rfl)⟩ ⟨c2, z2⟩ (Nat.le_of_ble_eq_true rfl) rfl dX11_best_2 ?_
  refine ev_if_ne C (tgt := 14) (by decide) dX11_best_5 (fun q5 => ?_) (fun q5 => ?_)
  · replace hs := (if_neg q5).symm.trans hs
    refine ev_iload_n C rfl dX11_best_14 ?_
    refine ev_if_lt C (tgt := 24) (by decide) dX11_best_15 (fun q15 => ?_) (fun q15 => ?_)
    · replace hs := (if_pos q15).symm.trans hs
      exact Ev.keep [true, false, false] (t_X11_best_24 C  hs)
    · replace hs := (if_neg q15).symm.trans hs
      refine ev_iload_n C rfl dX11_best_18 ?_
      refine ev_bipush C (v := 20) dX11_best_19 (by decide) ?_
      refine ev_icmp_le C (tgt := 30) (by decide) dX11_best_21 (fun q21 => ?_) (fun q21 => ?_)
      · replace hs := (if_pos q21).symm.trans hs
        refine ev_aload_n C (x := .ref o) rfl trivial dX11_best_30 ?_
        refine ev_iconst C (v := 0) dX11_best_31 (by decide) ?_
        obtain ⟨h32, e32, hs⟩ := aB hs
        refine ev_put C (ci := 11) (k := 3) rfl wu_11 (by decide) tyX11 tyX11_ok nmX11 wf_X11_167 rfl trivial e32 dX11_best_32 ?_
        refine ev_aload_n C (x := .ref o) rfl trivial dX11_best_35 ?_
        refine ev_iload_n C rfl dX11_best_36 ?_
        obtain ⟨eo37, hs⟩ := kO_at hs
        obtain ⟨x37, h37, n37, y37, e37, hs⟩ := dR_at hs
        obtain ⟨c37, z37, hs⟩ := ck_at hs
        refine ev_callV C (T_X11_readyPayments _ _ _ _ _ _ _ e37) (ci := 11) rfl eo37 wc_X11_readyPayments wm_X11_253 wi_X11_readyPayments ws_X11_readyPayments wz_X11 hy_X11_readyPayments ⟨(Nat.le_of_ble_eq_true rfl), (Nat.le_of_ble_eq_true rfl)⟩ ⟨c37, z37⟩ (Nat.le_of_ble_eq_true rfl) rfl dX11_best_37 ?_
        obtain ⟨hw9, rfl, rfl⟩ := wC_at hs
        have hs := hw9
        refine ev_iload_n C rfl dX11_best_40 ?_
        refine ev_iload_n C rfl dX11_best_41 ?_
        obtain ⟨eo42, hs⟩ := kO_at hs
        obtain ⟨x42, h42, e42, hs⟩ := cI_at hs
        refine ev_callVN C (T_X4_paid _ _ _ _ _ _ e42) (ci := 4) rfl eo42 wc_X4_paid wn_X11_257 wi_X4_paid ws_X4_paid wz_X4 hy_X4_paid ⟨(Nat.le_of_ble_eq_true rfl), (Nat.le_of_ble_eq_true rfl)⟩ ⟨(Nat.le_refl _), (Nat.le_refl _)⟩ (Nat.le_of_ble_eq_true rfl) rfl dX11_best_42 ?_
        cases hs
        exact ev_iret C rfl rfl (Nat.le_refl _) (Nat.le_refl _) rfl dX11_best_45
      · replace hs := (if_neg q21).symm.trans hs
        exact Ev.keep [true, false, false] (t_X11_best_24 C  hs)
  · replace hs := (if_pos q5).symm.trans hs
    obtain ⟨hw9, rfl, rfl⟩ := wC_at hs
    have hs := hw9
    refine ev_aload_n C (x := .ref o) rfl trivial dX11_best_8 ?_
    refine ev_iconst C (v := 1) dX11_best_9 (by decide) ?_
    obtain ⟨eo10, hs⟩ := kO_at hs
    obtain ⟨x10, h10, e10, hs⟩ := cI_at hs
    refine ev_callV C (T_X11_refused _ _ _ _ _ e10) (ci := 11) rfl eo10 wc_X11_refused wm_X11_105 wi_X11_refused ws_X11_refused wz_X11 hy_X11_refused ⟨(Nat.le_of_ble_eq_true rfl), (Nat.le_of_ble_eq_true rfl)⟩ ⟨(Nat.le_refl _), (Nat.le_refl _)⟩ (Nat.le_of_ble_eq_true rfl) rfl dX11_best_10 ?_
    cases hs
    exact ev_iret C rfl rfl (Nat.le_refl _) (Nat.le_refl _) rfl dX11_best_13
end
-- X11_bestLaw
theorem dX11_bestLaw_0 : decode cX11_bestLaw 0 = .ok (.aload_n 0, 1) := by decide +kernel
theorem dX11_bestLaw_1 : decode cX11_bestLaw 1 = .ok (.iload_n 1, 1) := by decide +kernel
theorem dX11_bestLaw_2 : decode cX11_bestLaw 2 = .ok (.invokevirtual 199, 3) := by decide +kernel
theorem dX11_bestLaw_5 : decode cX11_bestLaw 5 = .ok (.ifCond .ne 9, 3) := by decide +kernel
theorem dX11_bestLaw_8 : decode cX11_bestLaw 8 = .ok (.aload_n 0, 1) := by decide +kernel
theorem dX11_bestLaw_9 : decode cX11_bestLaw 9 = .ok (.iconst 1, 1) := by decide +kernel
theorem dX11_bestLaw_10 : decode cX11_bestLaw 10 = .ok (.invokevirtual 105, 3) := by decide +kernel
theorem dX11_bestLaw_13 : decode cX11_bestLaw 13 = .ok (.ireturn, 1) := by decide +kernel
theorem dX11_bestLaw_14 : decode cX11_bestLaw 14 = .ok (.iload_n 2, 1) := by decide +kernel
theorem dX11_bestLaw_15 : decode cX11_bestLaw 15 = .ok (.iconst 1, 1) := by decide +kernel
theorem dX11_bestLaw_16 : decode cX11_bestLaw 16 = .ok (.if_icmp .lt 9, 3) := by decide +kernel
theorem dX11_bestLaw_19 : decode cX11_bestLaw 19 = .ok (.iload_n 2, 1) := by decide +kernel
theorem dX11_bestLaw_20 : decode cX11_bestLaw 20 = .ok (.bipush 20, 2) := by decide +kernel
theorem dX11_bestLaw_22 : decode cX11_bestLaw 22 = .ok (.if_icmp .le 9, 3) := by decide +kernel
theorem dX11_bestLaw_25 : decode cX11_bestLaw 25 = .ok (.aload_n 0, 1) := by decide +kernel
theorem dX11_bestLaw_26 : decode cX11_bestLaw 26 = .ok (.iconst 2, 1) := by decide +kernel
theorem dX11_bestLaw_27 : decode cX11_bestLaw 27 = .ok (.invokevirtual 105, 3) := by decide +kernel
theorem dX11_bestLaw_30 : decode cX11_bestLaw 30 = .ok (.ireturn, 1) := by decide +kernel
theorem dX11_bestLaw_31 : decode cX11_bestLaw 31 = .ok (.aload_n 0, 1) := by decide +kernel
theorem dX11_bestLaw_32 : decode cX11_bestLaw 32 = .ok (.iconst 0, 1) := by decide +kernel
theorem dX11_bestLaw_33 : decode cX11_bestLaw 33 = .ok (.putfield 167, 3) := by decide +kernel
theorem dX11_bestLaw_36 : decode cX11_bestLaw 36 = .ok (.aload_n 0, 1) := by decide +kernel
theorem dX11_bestLaw_37 : decode cX11_bestLaw 37 = .ok (.iload_n 2, 1) := by decide +kernel
theorem dX11_bestLaw_38 : decode cX11_bestLaw 38 = .ok (.invokevirtual 253, 3) := by decide +kernel
theorem dX11_bestLaw_41 : decode cX11_bestLaw 41 = .ok (.iload_n 1, 1) := by decide +kernel
theorem dX11_bestLaw_42 : decode cX11_bestLaw 42 = .ok (.iload_n 2, 1) := by decide +kernel
theorem dX11_bestLaw_43 : decode cX11_bestLaw 43 = .ok (.invokevirtual 261, 3) := by decide +kernel
theorem dX11_bestLaw_46 : decode cX11_bestLaw 46 = .ok (.ireturn, 1) := by decide +kernel
def s_X11_bestLaw_25  (l0 : Nat) (h : aH) (c9 z9 : Nat) : aP :=
  wC c9 z9 (kO h l0 11 (cI (s_X11_refused l0 2 h) fun x27 h27 => some (.inl (some (.int x27)), h27)))
def s_X11_bestLaw (o : Nat) (a1 : Int32) (a2 : Int32) (h : aH) : aP :=
  kO h o 11 (cI (s_X11_hasCell o a1 h) fun x2 h2 => ck 0 0 (if x2 = 0 then (wC 0 0 (kO h2 o 11 (cI (s_X11_refused o 1 h2) fun x10 h10 => some (.inl (some (.int x10)), h10)))) else (if a2 < 1 then (s_X11_bestLaw_25 o h2 0 0) else (if a2 ≤ 20 then ((pF h2 (.ref o) 11 3 (.int 0)).bind fun h33 => kO h33 o 11 (dR (s_X11_readyPayments o a2 h33) fun x38 h38 n38 y38 => ck (0 + n38) (0 + y38) (wC (0 + n38) (0 + y38) (kO h38 x38 4 (cI (s_X4_lawOf x38 a1 a2 h38) fun x43 h43 => some (.inl (some (.int x43)), h43)))))) else (s_X11_bestLaw_25 o h2 0 0)))))
section
variable {p : Program} {l : Launch} {e : Env} {s : State} {m : MethodId} {args : Array Value} {below : List Frame} {meth : Method} {c : Code} {D : va_G} {B0 : Nat} {X : Nat → Nat} {ws0 : va_W} {r : aR} {h' : aH} {mc ms : Nat}
theorem t_X11_bestLaw_25 (C : Cx p l s m args meth c B0 X RX11 "bestLaw" cX11_bestLaw 3 (some .int) [])   {l0 : Nat} {h : aH} {c9 z9 : Nat} (hs : s_X11_bestLaw_25  l0 h c9 z9 = some (r, h', mc, ms)) : Ev p l e { frames := 7, cells := mc, slots := ms, locals := 171 } s m args below meth c D B0 X ws0 r h' mc ms 3 c9 z9 25 [some (.ref l0), none, none] [] h := by
  unfold s_X11_bestLaw_25 at hs
  obtain ⟨hw9, rfl, rfl⟩ := wC_at hs
  have hs := hw9
  refine ev_aload_n C (x := .ref l0) rfl trivial dX11_bestLaw_25 ?_
  refine ev_iconst C (v := 2) dX11_bestLaw_26 (by decide) ?_
  obtain ⟨eo27, hs⟩ := kO_at hs
  obtain ⟨x27, h27, e27, hs⟩ := cI_at hs
  refine ev_callV C (T_X11_refused _ _ _ _ _ e27) (ci := 11) rfl eo27 wc_X11_refused wm_X11_105 wi_X11_refused ws_X11_refused wz_X11 hy_X11_refused ⟨(Nat.le_of_ble_eq_true rfl), (Nat.le_of_ble_eq_true rfl)⟩ ⟨(Nat.le_refl _), (Nat.le_refl _)⟩ (Nat.le_of_ble_eq_true rfl) rfl dX11_bestLaw_27 ?_
  cases hs
  exact ev_iret C rfl rfl (Nat.le_refl _) (Nat.le_refl _) rfl dX11_bestLaw_30
theorem hy_X11_bestLaw : yX11_bestLaw.cls ≠ "java/lang/invoke/MethodHandle" ∧ yX11_bestLaw.cls ≠ "java/lang/invoke/VarHandle" ∧ (parseMethodDescriptor yX11_bestLaw.desc).map (fun d => d.parameters.length) = some 2 := by decide +kernel
theorem T_X11_bestLaw (o : Nat) (a1 : Int32) (a2 : Int32) (h : aH) (r : aR) (h' : aH) (mc ms : Nat) (hs : s_X11_bestLaw o a1 a2 h = some (r, h', mc, ms)) : Mt yX11_bestLaw (Cond.code yX11_bestLaw cX11_bestLaw 3 (some .int) :: aTB) 7 171 mc ms [.ref o, .int a1, .int a2] h r h' := by
  unfold s_X11_bestLaw at hs
  refine Mt_of (k := 0) (by decide) rfl (fun p l e s m args below meth c D B0 X ws0 C => ?_)
  show Ev p l e { frames := 7, cells := mc, slots := ms, locals := 171 } s m args below meth c D B0 X ws0 r h' mc ms 3 0 0 0 [some (.ref o), some (.int a1), some (.int a2)] [] h
  refine ev_aload_n C (x := .ref o) rfl trivial dX11_bestLaw_0 ?_
  refine ev_iload_n C rfl dX11_bestLaw_1 ?_
  obtain ⟨eo2, hs⟩ := kO_at hs
  obtain ⟨x2, h2, e2, hs⟩ := cI_at hs
  obtain ⟨c2, z2, hs⟩ := ck_at hs
  refine ev_callV C (T_X11_hasCell _ _ _ _ _ e2) (ci := 11) rfl eo2 wc_X11_hasCell wm_X11_199 wi_X11_hasCell ws_X11_hasCell wz_X11 hy_X11_hasCell ⟨(Nat.le_of_ble_eq_true rfl), (Nat.le_of_ble_eq_true rfl)⟩ ⟨c2, z2⟩ (Nat.le_of_ble_eq_true rfl) rfl dX11_bestLaw_2 ?_
  refine ev_if_ne C (tgt := 14) (by decide) dX11_bestLaw_5 (fun q5 => ?_) (fun q5 => ?_)
  · replace hs := (if_neg q5).symm.trans hs
    refine ev_iload_n C rfl dX11_bestLaw_14 ?_
    refine ev_iconst C (v := 1) dX11_bestLaw_15 (by decide) ?_
    refine ev_icmp_lt C (tgt := 25) (by decide) dX11_bestLaw_16 (fun q16 => ?_) (fun q16 => ?_)
    · replace hs := (if_pos q16).symm.trans hs
      exact Ev.keep [true, false, false] (t_X11_bestLaw_25 C  hs)
    · replace hs := (if_neg q16).symm.trans hs
      refine ev_iload_n C rfl dX11_bestLaw_19 ?_
      refine ev_bipush C (v := 20) dX11_bestLaw_20 (by decide) ?_
      refine ev_icmp_le C (tgt := 31) (by decide) dX11_bestLaw_22 (fun q22 => ?_) (fun q22 => ?_)
      · replace hs := (if_pos q22).symm.trans hs
        refine ev_aload_n C (x := .ref o) rfl trivial dX11_bestLaw_31 ?_
        refine ev_iconst C (v := 0) dX11_bestLaw_32 (by decide) ?_
        obtain ⟨h33, e33, hs⟩ := aB hs
        refine ev_put C (ci := 11) (k := 3) rfl wu_11 (by decide) tyX11 tyX11_ok nmX11 wf_X11_167 rfl trivial e33 dX11_bestLaw_33 ?_
        refine ev_aload_n C (x := .ref o) rfl trivial dX11_bestLaw_36 ?_
        refine ev_iload_n C rfl dX11_bestLaw_37 ?_
        obtain ⟨eo38, hs⟩ := kO_at hs
        obtain ⟨x38, h38, n38, y38, e38, hs⟩ := dR_at hs
        obtain ⟨c38, z38, hs⟩ := ck_at hs
        refine ev_callV C (T_X11_readyPayments _ _ _ _ _ _ _ e38) (ci := 11) rfl eo38 wc_X11_readyPayments wm_X11_253 wi_X11_readyPayments ws_X11_readyPayments wz_X11 hy_X11_readyPayments ⟨(Nat.le_of_ble_eq_true rfl), (Nat.le_of_ble_eq_true rfl)⟩ ⟨c38, z38⟩ (Nat.le_of_ble_eq_true rfl) rfl dX11_bestLaw_38 ?_
        obtain ⟨hw9, rfl, rfl⟩ := wC_at hs
        have hs := hw9
        refine ev_iload_n C rfl dX11_bestLaw_41 ?_
        refine ev_iload_n C rfl dX11_bestLaw_42 ?_
        obtain ⟨eo43, hs⟩ := kO_at hs
        obtain ⟨x43, h43, e43, hs⟩ := cI_at hs
        refine ev_callVN C (T_X4_lawOf _ _ _ _ _ _ e43) (ci := 4) rfl eo43 wc_X4_lawOf wn_X11_261 wi_X4_lawOf ws_X4_lawOf wz_X4 hy_X4_lawOf ⟨(Nat.le_of_ble_eq_true rfl), (Nat.le_of_ble_eq_true rfl)⟩ ⟨(Nat.le_refl _), (Nat.le_refl _)⟩ (Nat.le_of_ble_eq_true rfl) rfl dX11_bestLaw_43 ?_
        cases hs
        exact ev_iret C rfl rfl (Nat.le_refl _) (Nat.le_refl _) rfl dX11_bestLaw_46
      · replace hs := (if_neg q22).symm.trans hs
        exact Ev.keep [true, false, false] (t_X11_bestLaw_25 C  hs)
  · replace hs := (if_pos q5).symm.trans hs
    obtain ⟨hw9, rfl, rfl⟩ := wC_at hs
    have hs := hw9
    refine ev_aload_n C (x := .ref o) rfl trivial dX11_bestLaw_8 ?_
    refine ev_iconst C (v := 1) dX11_bestLaw_9 (by decide) ?_
    obtain ⟨eo10, hs⟩ := kO_at hs
    obtain ⟨x10, h10, e10, hs⟩ := cI_at hs
    refine ev_callV C (T_X11_refused _ _ _ _ _ e10) (ci := 11) rfl eo10 wc_X11_refused wm_X11_105 wi_X11_refused ws_X11_refused wz_X11 hy_X11_refused ⟨(Nat.le_of_ble_eq_true rfl), (Nat.le_of_ble_eq_true rfl)⟩ ⟨(Nat.le_refl _), (Nat.le_refl _)⟩ (Nat.le_of_ble_eq_true rfl) rfl dX11_bestLaw_10 ?_
    cases hs
    exact ev_iret C rfl rfl (Nat.le_refl _) (Nat.le_refl _) rfl dX11_bestLaw_13
end
-- X11_margin
theorem dX11_margin_0 : decode cX11_margin 0 = .ok (.aload_n 0, 1) := by decide +kernel
theorem dX11_margin_1 : decode cX11_margin 1 = .ok (.iload_n 1, 1) := by decide +kernel
theorem dX11_margin_2 : decode cX11_margin 2 = .ok (.invokevirtual 199, 3) := by decide +kernel
theorem dX11_margin_5 : decode cX11_margin 5 = .ok (.ifCond .ne 5, 3) := by decide +kernel
theorem dX11_margin_8 : decode cX11_margin 8 = .ok (.iconst (-1), 1) := by decide +kernel
theorem dX11_margin_9 : decode cX11_margin 9 = .ok (.ireturn, 1) := by decide +kernel
theorem dX11_margin_10 : decode cX11_margin 10 = .ok (.aload_n 0, 1) := by decide +kernel
theorem dX11_margin_11 : decode cX11_margin 11 = .ok (.invokevirtual 227, 3) := by decide +kernel
theorem dX11_margin_14 : decode cX11_margin 14 = .ok (.invokevirtual 275, 3) := by decide +kernel
theorem dX11_margin_17 : decode cX11_margin 17 = .ok (.aload_n 0, 1) := by decide +kernel
theorem dX11_margin_18 : decode cX11_margin 18 = .ok (.getfield 63, 3) := by decide +kernel
theorem dX11_margin_21 : decode cX11_margin 21 = .ok (.getfield 278, 3) := by decide +kernel
theorem dX11_margin_24 : decode cX11_margin 24 = .ok (.iload_n 1, 1) := by decide +kernel
theorem dX11_margin_25 : decode cX11_margin 25 = .ok (.iaload, 1) := by decide +kernel
theorem dX11_margin_26 : decode cX11_margin 26 = .ok (.ireturn, 1) := by decide +kernel
def s_X11_margin (o : Nat) (a1 : Int32) (h : aH) : aP :=
  kO h o 11 (cI (s_X11_hasCell o a1 h) fun x2 h2 => ck 0 0 (if x2 = 0 then (wC 0 0 (some (.inl (some (.int (-1))), h2))) else (kO h2 o 11 (dR (s_X11_readySafety o h2) fun x11 h11 n11 y11 => ck (0 + n11) (0 + y11) (kO h11 x11 7 (dN (s_X7_settleMargins x11 h11) fun h14 n14 y14 => ck (0 + n11 + n14) (0 + y11 + y14) (wC (0 + n11 + n14) (0 + y11 + y14) ((gO h14 (.ref o) 11 13).bind fun x18 => (gO h14 (.ref x18) 7 9).bind fun x21 => (ldI .int h14 (.ref x21) a1).bind fun x25 => some (.inl (some (.int x25)), h14)))))))))
section
variable {p : Program} {l : Launch} {e : Env} {s : State} {m : MethodId} {args : Array Value} {below : List Frame} {meth : Method} {c : Code} {D : va_G} {B0 : Nat} {X : Nat → Nat} {ws0 : va_W} {r : aR} {h' : aH} {mc ms : Nat}
theorem hy_X11_margin : yX11_margin.cls ≠ "java/lang/invoke/MethodHandle" ∧ yX11_margin.cls ≠ "java/lang/invoke/VarHandle" ∧ (parseMethodDescriptor yX11_margin.desc).map (fun d => d.parameters.length) = some 1 := by decide +kernel
theorem T_X11_margin (o : Nat) (a1 : Int32) (h : aH) (r : aR) (h' : aH) (mc ms : Nat) (hs : s_X11_margin o a1 h = some (r, h', mc, ms)) : Mt yX11_margin (Cond.code yX11_margin cX11_margin 2 (some .int) :: aTB) 7 174 mc ms [.ref o, .int a1] h r h' := by
  unfold s_X11_margin at hs
  refine Mt_of (k := 0) (by decide) rfl (fun p l e s m args below meth c D B0 X ws0 C => ?_)
  show Ev p l e { frames := 7, cells := mc, slots := ms, locals := 174 } s m args below meth c D B0 X ws0 r h' mc ms 2 0 0 0 [some (.ref o), some (.int a1)] [] h
  refine ev_aload_n C (x := .ref o) rfl trivial dX11_margin_0 ?_
  refine ev_iload_n C rfl dX11_margin_1 ?_
  obtain ⟨eo2, hs⟩ := kO_at hs
  obtain ⟨x2, h2, e2, hs⟩ := cI_at hs
  obtain ⟨c2, z2, hs⟩ := ck_at hs
  refine ev_callV C (T_X11_hasCell _ _ _ _ _ e2) (ci := 11) rfl eo2 wc_X11_hasCell wm_X11_199 wi_X11_hasCell ws_X11_hasCell wz_X11 hy_X11_hasCell ⟨(Nat.le_of_ble_eq_true rfl), (Nat.le_of_ble_eq_true rfl)⟩ ⟨c2, z2⟩ (Nat.le_of_ble_eq_true rfl) rfl dX11_margin_2 ?_
  refine ev_if_ne C (tgt := 10) (by decide) dX11_margin_5 (fun q5 => ?_) (fun q5 => ?_)
  · replace hs := (if_neg q5).symm.trans hs
    refine ev_aload_n C (x := .ref o) rfl trivial dX11_margin_10 ?_
    obtain ⟨eo11, hs⟩ := kO_at hs
    obtain ⟨x11, h11, n11, y11, e11, hs⟩ := dR_at hs
    obtain ⟨c11, z11, hs⟩ := ck_at hs
    refine ev_callV C (T_X11_readySafety _ _ _ _ _ _ e11) (ci := 11) rfl eo11 wc_X11_readySafety wm_X11_227 wi_X11_readySafety ws_X11_readySafety wz_X11 hy_X11_readySafety ⟨(Nat.le_of_ble_eq_true rfl), (Nat.le_of_ble_eq_true rfl)⟩ ⟨c11, z11⟩ (Nat.le_of_ble_eq_true rfl) rfl dX11_margin_11 ?_
    obtain ⟨eo14, hs⟩ := kO_at hs
    obtain ⟨h14, n14, y14, e14, hs⟩ := dN_at hs
    obtain ⟨c14, z14, hs⟩ := ck_at hs
    refine ev_callVN C (T_X7_settleMargins _ _ _ _ _ _ e14) (ci := 7) rfl eo14 wc_X7_settleMargins wn_X11_275 wi_X7_settleMargins ws_X7_settleMargins wz_X7 hy_X7_settleMargins ⟨(Nat.le_of_ble_eq_true rfl), (Nat.le_of_ble_eq_true rfl)⟩ ⟨c14, z14⟩ (Nat.le_of_ble_eq_true rfl) rfl dX11_margin_14 ?_
    obtain ⟨hw9, rfl, rfl⟩ := wC_at hs
    have hs := hw9
    refine ev_aload_n C (x := .ref o) rfl trivial dX11_margin_17 ?_
    obtain ⟨x18, e18, hs⟩ := aB hs
    refine ev_get C (ci := 11) (k := 13) rfl wu_11 (by decide) wf_X11_63 (gO_F e18) dX11_margin_18 ?_
    obtain ⟨x21, e21, hs⟩ := aB hs
    refine ev_getN C (ci := 7) (k := 9) rfl wu_7 (by decide) wg_X11_278 (gO_F e21) dX11_margin_21 ?_
    refine ev_iload_n C rfl dX11_margin_24 ?_
    obtain ⟨x25, e25, hs⟩ := aB hs
    refine ev_iald C e25 dX11_margin_25 ?_
    cases hs
    exact ev_iret C rfl rfl (Nat.le_refl _) (Nat.le_refl _) rfl dX11_margin_26
  · replace hs := (if_pos q5).symm.trans hs
    obtain ⟨hw9, rfl, rfl⟩ := wC_at hs
    have hs := hw9
    refine ev_iconst C (v := (-1)) dX11_margin_8 (by decide) ?_
    cases hs
    exact ev_iret C rfl rfl (Nat.le_refl _) (Nat.le_refl _) rfl dX11_margin_9
end
-- X11_rank
theorem dX11_rank_0 : decode cX11_rank 0 = .ok (.aload_n 0, 1) := by decide +kernel
theorem dX11_rank_1 : decode cX11_rank 1 = .ok (.getfield 120, 3) := by decide +kernel
theorem dX11_rank_4 : decode cX11_rank 4 = .ok (.ifCond .ne 9, 3) := by decide +kernel
theorem dX11_rank_7 : decode cX11_rank 7 = .ok (.aload_n 0, 1) := by decide +kernel
theorem dX11_rank_8 : decode cX11_rank 8 = .ok (.iconst 1, 1) := by decide +kernel
theorem dX11_rank_9 : decode cX11_rank 9 = .ok (.invokevirtual 105, 3) := by decide +kernel
theorem dX11_rank_12 : decode cX11_rank 12 = .ok (.ireturn, 1) := by decide +kernel
theorem dX11_rank_13 : decode cX11_rank 13 = .ok (.aload_n 0, 1) := by decide +kernel
theorem dX11_rank_14 : decode cX11_rank 14 = .ok (.getfield 77, 3) := by decide +kernel
theorem dX11_rank_17 : decode cX11_rank 17 = .ok (.invokevirtual 185, 3) := by decide +kernel
theorem dX11_rank_20 : decode cX11_rank 20 = .ok (.ifCond .ne 9, 3) := by decide +kernel
theorem dX11_rank_23 : decode cX11_rank 23 = .ok (.aload_n 0, 1) := by decide +kernel
theorem dX11_rank_24 : decode cX11_rank 24 = .ok (.iconst 5, 1) := by decide +kernel
theorem dX11_rank_25 : decode cX11_rank 25 = .ok (.invokevirtual 105, 3) := by decide +kernel
theorem dX11_rank_28 : decode cX11_rank 28 = .ok (.ireturn, 1) := by decide +kernel
theorem dX11_rank_29 : decode cX11_rank 29 = .ok (.aload_n 0, 1) := by decide +kernel
theorem dX11_rank_30 : decode cX11_rank 30 = .ok (.iconst 0, 1) := by decide +kernel
theorem dX11_rank_31 : decode cX11_rank 31 = .ok (.putfield 167, 3) := by decide +kernel
theorem dX11_rank_34 : decode cX11_rank 34 = .ok (.aload_n 0, 1) := by decide +kernel
theorem dX11_rank_35 : decode cX11_rank 35 = .ok (.getfield 77, 3) := by decide +kernel
theorem dX11_rank_38 : decode cX11_rank 38 = .ok (.iload_n 1, 1) := by decide +kernel
theorem dX11_rank_39 : decode cX11_rank 39 = .ok (.invokevirtual 281, 3) := by decide +kernel
theorem dX11_rank_42 : decode cX11_rank 42 = .ok (.ireturn, 1) := by decide +kernel
def s_X11_rank (o : Nat) (a1 : Int32) (h : aH) : aO :=
  (gI h (.ref o) 11 2).bind fun x1 => if x1 = 0 then (kO h o 11 (cI (s_X11_refused o 1 h) fun x9 h9 => some (.inl (some (.int x9)), h9))) else ((gO h (.ref o) 11 15).bind fun x14 => kO h x14 1 (cI (s_X1_holds x14 h) fun x17 h17 => if x17 = 0 then (kO h17 o 11 (cI (s_X11_refused o 5 h17) fun x25 h25 => some (.inl (some (.int x25)), h25))) else ((pF h17 (.ref o) 11 3 (.int 0)).bind fun h31 => (gO h31 (.ref o) 11 15).bind fun x35 => kO h31 x35 1 (cI (s_X1_rankOf x35 a1 h31) fun x39 h39 => some (.inl (some (.int x39)), h39)))))
section
variable {p : Program} {l : Launch} {e : Env} {s : State} {m : MethodId} {args : Array Value} {below : List Frame} {meth : Method} {c : Code} {D : va_G} {B0 : Nat} {X : Nat → Nat} {ws0 : va_W} {r : aR} {h' : aH} {mc ms : Nat}
theorem hy_X11_rank : yX11_rank.cls ≠ "java/lang/invoke/MethodHandle" ∧ yX11_rank.cls ≠ "java/lang/invoke/VarHandle" ∧ (parseMethodDescriptor yX11_rank.desc).map (fun d => d.parameters.length) = some 1 := by decide +kernel
theorem T_X11_rank (o : Nat) (a1 : Int32) (h : aH) (r : aR) (h' : aH) (hs : s_X11_rank o a1 h = some (r, h')) : Mt yX11_rank (Cond.code yX11_rank cX11_rank 2 (some .int) :: aTB) 4 100 0 0 [.ref o, .int a1] h r h' := by
  unfold s_X11_rank at hs
  refine Mt_of (k := 0) (by decide) rfl (fun p l e s m args below meth c D B0 X ws0 C => ?_)
  show Ev p l e { frames := 4, cells := 0, slots := 0, locals := 100 } s m args below meth c D B0 X ws0 r h' 0 0 2 0 0 0 [some (.ref o), some (.int a1)] [] h
  refine ev_aload_n C (x := .ref o) rfl trivial dX11_rank_0 ?_
  obtain ⟨x1, e1, hs⟩ := aB hs
  refine ev_get C (ci := 11) (k := 2) rfl wu_11 (by decide) wf_X11_120 (gI_F e1) dX11_rank_1 ?_
  refine ev_if_ne C (tgt := 13) (by decide) dX11_rank_4 (fun q4 => ?_) (fun q4 => ?_)
  · replace hs := (if_neg q4).symm.trans hs
    refine ev_aload_n C (x := .ref o) rfl trivial dX11_rank_13 ?_
    obtain ⟨x14, e14, hs⟩ := aB hs
    refine ev_get C (ci := 11) (k := 15) rfl wu_11 (by decide) wf_X11_77 (gO_F e14) dX11_rank_14 ?_
    obtain ⟨eo17, hs⟩ := kO_at hs
    obtain ⟨x17, h17, e17, hs⟩ := cI_at hs
    refine ev_callVN C (T_X1_holds _ _ _ _ e17) (ci := 1) rfl eo17 wc_X1_holds wn_X11_185 wi_X1_holds ws_X1_holds wz_X1 hy_X1_holds ⟨(Nat.le_of_ble_eq_true rfl), (Nat.le_of_ble_eq_true rfl)⟩ ⟨(Nat.le_refl _), (Nat.le_refl _)⟩ (Nat.le_of_ble_eq_true rfl) rfl dX11_rank_17 ?_
    refine ev_if_ne C (tgt := 29) (by decide) dX11_rank_20 (fun q20 => ?_) (fun q20 => ?_)
    · replace hs := (if_neg q20).symm.trans hs
      refine ev_aload_n C (x := .ref o) rfl trivial dX11_rank_29 ?_
      refine ev_iconst C (v := 0) dX11_rank_30 (by decide) ?_
      obtain ⟨h31, e31, hs⟩ := aB hs
      refine ev_put C (ci := 11) (k := 3) rfl wu_11 (by decide) tyX11 tyX11_ok nmX11 wf_X11_167 rfl trivial e31 dX11_rank_31 ?_
      refine ev_aload_n C (x := .ref o) rfl trivial dX11_rank_34 ?_
      obtain ⟨x35, e35, hs⟩ := aB hs
      refine ev_get C (ci := 11) (k := 15) rfl wu_11 (by decide) wf_X11_77 (gO_F e35) dX11_rank_35 ?_
      refine ev_iload_n C rfl dX11_rank_38 ?_
      obtain ⟨eo39, hs⟩ := kO_at hs
      obtain ⟨x39, h39, e39, hs⟩ := cI_at hs
      refine ev_callVN C (T_X1_rankOf _ _ _ _ _ e39) (ci := 1) rfl eo39 wc_X1_rankOf wn_X11_281 wi_X1_rankOf ws_X1_rankOf wz_X1 hy_X1_rankOf ⟨(Nat.le_of_ble_eq_true rfl), (Nat.le_of_ble_eq_true rfl)⟩ ⟨(Nat.le_refl _), (Nat.le_refl _)⟩ (Nat.le_of_ble_eq_true rfl) rfl dX11_rank_39 ?_
      cases hs
      exact ev_iret C rfl rfl (Nat.le_refl _) (Nat.le_refl _) rfl dX11_rank_42
    · replace hs := (if_pos q20).symm.trans hs
      refine ev_aload_n C (x := .ref o) rfl trivial dX11_rank_23 ?_
      refine ev_iconst C (v := 5) dX11_rank_24 (by decide) ?_
      obtain ⟨eo25, hs⟩ := kO_at hs
      obtain ⟨x25, h25, e25, hs⟩ := cI_at hs
      refine ev_callV C (T_X11_refused _ _ _ _ _ e25) (ci := 11) rfl eo25 wc_X11_refused wm_X11_105 wi_X11_refused ws_X11_refused wz_X11 hy_X11_refused ⟨(Nat.le_of_ble_eq_true rfl), (Nat.le_of_ble_eq_true rfl)⟩ ⟨(Nat.le_refl _), (Nat.le_refl _)⟩ (Nat.le_of_ble_eq_true rfl) rfl dX11_rank_25 ?_
      cases hs
      exact ev_iret C rfl rfl (Nat.le_refl _) (Nat.le_refl _) rfl dX11_rank_28
  · replace hs := (if_pos q4).symm.trans hs
    refine ev_aload_n C (x := .ref o) rfl trivial dX11_rank_7 ?_
    refine ev_iconst C (v := 1) dX11_rank_8 (by decide) ?_
    obtain ⟨eo9, hs⟩ := kO_at hs
    obtain ⟨x9, h9, e9, hs⟩ := cI_at hs
    refine ev_callV C (T_X11_refused _ _ _ _ _ e9) (ci := 11) rfl eo9 wc_X11_refused wm_X11_105 wi_X11_refused ws_X11_refused wz_X11 hy_X11_refused ⟨(Nat.le_of_ble_eq_true rfl), (Nat.le_of_ble_eq_true rfl)⟩ ⟨(Nat.le_refl _), (Nat.le_refl _)⟩ (Nat.le_of_ble_eq_true rfl) rfl dX11_rank_9 ?_
    cases hs
    exact ev_iret C rfl rfl (Nat.le_refl _) (Nat.le_refl _) rfl dX11_rank_12
end
-- X11_form
theorem dX11_form_0 : decode cX11_form 0 = .ok (.aload_n 0, 1) := by decide +kernel
theorem dX11_form_1 : decode cX11_form 1 = .ok (.getfield 120, 3) := by decide +kernel
theorem dX11_form_4 : decode cX11_form 4 = .ok (.ifCond .ne 11, 3) := by decide +kernel
theorem dX11_form_7 : decode cX11_form 7 = .ok (.aload_n 0, 1) := by decide +kernel
theorem dX11_form_8 : decode cX11_form 8 = .ok (.iconst 1, 1) := by decide +kernel
theorem dX11_form_9 : decode cX11_form 9 = .ok (.putfield 167, 3) := by decide +kernel
theorem dX11_form_12 : decode cX11_form 12 = .ok (.ldc 202, 2) := by decide +kernel
theorem dX11_form_14 : decode cX11_form 14 = .ok (.ireturn, 1) := by decide +kernel
theorem dX11_form_15 : decode cX11_form 15 = .ok (.iload_n 1, 1) := by decide +kernel
theorem dX11_form_16 : decode cX11_form 16 = .ok (.ifCond .lt 16, 3) := by decide +kernel
theorem dX11_form_19 : decode cX11_form 19 = .ok (.iload_n 1, 1) := by decide +kernel
theorem dX11_form_20 : decode cX11_form 20 = .ok (.aload_n 0, 1) := by decide +kernel
theorem dX11_form_21 : decode cX11_form 21 = .ok (.getfield 19, 3) := by decide +kernel
theorem dX11_form_24 : decode cX11_form 24 = .ok (.getfield 173, 3) := by decide +kernel
theorem dX11_form_27 : decode cX11_form 27 = .ok (.iconst 0, 1) := by decide +kernel
theorem dX11_form_28 : decode cX11_form 28 = .ok (.iaload, 1) := by decide +kernel
theorem dX11_form_29 : decode cX11_form 29 = .ok (.if_icmp .le 11, 3) := by decide +kernel
theorem dX11_form_32 : decode cX11_form 32 = .ok (.aload_n 0, 1) := by decide +kernel
theorem dX11_form_33 : decode cX11_form 33 = .ok (.iconst 2, 1) := by decide +kernel
theorem dX11_form_34 : decode cX11_form 34 = .ok (.putfield 167, 3) := by decide +kernel
theorem dX11_form_37 : decode cX11_form 37 = .ok (.ldc 202, 2) := by decide +kernel
theorem dX11_form_39 : decode cX11_form 39 = .ok (.ireturn, 1) := by decide +kernel
theorem dX11_form_40 : decode cX11_form 40 = .ok (.aload_n 0, 1) := by decide +kernel
theorem dX11_form_41 : decode cX11_form 41 = .ok (.getfield 77, 3) := by decide +kernel
theorem dX11_form_44 : decode cX11_form 44 = .ok (.invokevirtual 185, 3) := by decide +kernel
theorem dX11_form_47 : decode cX11_form 47 = .ok (.ifCond .ne 11, 3) := by decide +kernel
theorem dX11_form_50 : decode cX11_form 50 = .ok (.aload_n 0, 1) := by decide +kernel
theorem dX11_form_51 : decode cX11_form 51 = .ok (.iconst 5, 1) := by decide +kernel
theorem dX11_form_52 : decode cX11_form 52 = .ok (.putfield 167, 3) := by decide +kernel
theorem dX11_form_55 : decode cX11_form 55 = .ok (.ldc 202, 2) := by decide +kernel
theorem dX11_form_57 : decode cX11_form 57 = .ok (.ireturn, 1) := by decide +kernel
theorem dX11_form_58 : decode cX11_form 58 = .ok (.aload_n 0, 1) := by decide +kernel
theorem dX11_form_59 : decode cX11_form 59 = .ok (.iconst 0, 1) := by decide +kernel
theorem dX11_form_60 : decode cX11_form 60 = .ok (.putfield 167, 3) := by decide +kernel
theorem dX11_form_63 : decode cX11_form 63 = .ok (.aload_n 0, 1) := by decide +kernel
theorem dX11_form_64 : decode cX11_form 64 = .ok (.getfield 77, 3) := by decide +kernel
theorem dX11_form_67 : decode cX11_form 67 = .ok (.getfield 285, 3) := by decide +kernel
theorem dX11_form_70 : decode cX11_form 70 = .ok (.iload_n 1, 1) := by decide +kernel
theorem dX11_form_71 : decode cX11_form 71 = .ok (.laload, 1) := by decide +kernel
theorem dX11_form_72 : decode cX11_form 72 = .ok (.l2i, 1) := by decide +kernel
theorem dX11_form_73 : decode cX11_form 73 = .ok (.ireturn, 1) := by decide +kernel
def s_X11_form_32  (l0 : Nat) (h : aH) : aO :=
  (pF h (.ref l0) 11 3 (.int 2)).bind fun h34 => some (.inl (some (.int (-2147483648))), h34)
def s_X11_form (o : Nat) (a1 : Int32) (h : aH) : aO :=
  (gI h (.ref o) 11 2).bind fun x1 => if x1 = 0 then ((pF h (.ref o) 11 3 (.int 1)).bind fun h9 => some (.inl (some (.int (-2147483648))), h9)) else (if a1 < 0 then (s_X11_form_32 o h) else ((gO h (.ref o) 11 7).bind fun x21 => (gO h (.ref x21) 2 0).bind fun x24 => (ldI .int h (.ref x24) 0).bind fun x28 => if a1 ≤ x28 then ((gO h (.ref o) 11 15).bind fun x41 => kO h x41 1 (cI (s_X1_holds x41 h) fun x44 h44 => if x44 = 0 then ((pF h44 (.ref o) 11 3 (.int 5)).bind fun h52 => some (.inl (some (.int (-2147483648))), h52)) else ((pF h44 (.ref o) 11 3 (.int 0)).bind fun h60 => (gO h60 (.ref o) 11 15).bind fun x64 => (gO h60 (.ref x64) 1 6).bind fun x67 => (ldJ h60 (.ref x67) a1).bind fun x71 => some (.inl (some (.int x71.toInt32)), h60)))) else (s_X11_form_32 o h)))
section
variable {p : Program} {l : Launch} {e : Env} {s : State} {m : MethodId} {args : Array Value} {below : List Frame} {meth : Method} {c : Code} {D : va_G} {B0 : Nat} {X : Nat → Nat} {ws0 : va_W} {r : aR} {h' : aH} {mc ms : Nat}
theorem t_X11_form_32 (C : Cx p l s m args meth c B0 X RX11 "form" cX11_form 2 (some .int) [])   {l0 : Nat} {h : aH} (hs : s_X11_form_32  l0 h = some (r, h')) : Ev p l e { frames := 4, cells := mc, slots := ms, locals := 100 } s m args below meth c D B0 X ws0 r h' mc ms 2 mc ms 32 [some (.ref l0), none] [] h := by
  unfold s_X11_form_32 at hs
  refine ev_aload_n C (x := .ref l0) rfl trivial dX11_form_32 ?_
  refine ev_iconst C (v := 2) dX11_form_33 (by decide) ?_
  obtain ⟨h34, e34, hs⟩ := aB hs
  refine ev_put C (ci := 11) (k := 3) rfl wu_11 (by decide) tyX11 tyX11_ok nmX11 wf_X11_167 rfl trivial e34 dX11_form_34 ?_
  refine ev_ldc C wv_X11_202 dX11_form_37 ?_
  cases hs
  exact ev_iret C rfl rfl (Nat.le_refl _) (Nat.le_refl _) rfl dX11_form_39
theorem hy_X11_form : yX11_form.cls ≠ "java/lang/invoke/MethodHandle" ∧ yX11_form.cls ≠ "java/lang/invoke/VarHandle" ∧ (parseMethodDescriptor yX11_form.desc).map (fun d => d.parameters.length) = some 1 := by decide +kernel
theorem T_X11_form (o : Nat) (a1 : Int32) (h : aH) (r : aR) (h' : aH) (hs : s_X11_form o a1 h = some (r, h')) : Mt yX11_form (Cond.code yX11_form cX11_form 2 (some .int) :: aTB) 4 100 0 0 [.ref o, .int a1] h r h' := by
  unfold s_X11_form at hs
  refine Mt_of (k := 0) (by decide) rfl (fun p l e s m args below meth c D B0 X ws0 C => ?_)
  show Ev p l e { frames := 4, cells := 0, slots := 0, locals := 100 } s m args below meth c D B0 X ws0 r h' 0 0 2 0 0 0 [some (.ref o), some (.int a1)] [] h
  refine ev_aload_n C (x := .ref o) rfl trivial dX11_form_0 ?_
  obtain ⟨x1, e1, hs⟩ := aB hs
  refine ev_get C (ci := 11) (k := 2) rfl wu_11 (by decide) wf_X11_120 (gI_F e1) dX11_form_1 ?_
  refine ev_if_ne C (tgt := 15) (by decide) dX11_form_4 (fun q4 => ?_) (fun q4 => ?_)
  · replace hs := (if_neg q4).symm.trans hs
    refine ev_iload_n C rfl dX11_form_15 ?_
    refine ev_if_lt C (tgt := 32) (by decide) dX11_form_16 (fun q16 => ?_) (fun q16 => ?_)
    · replace hs := (if_pos q16).symm.trans hs
      exact Ev.keep [true, false] (t_X11_form_32 C  hs)
    · replace hs := (if_neg q16).symm.trans hs
      refine ev_iload_n C rfl dX11_form_19 ?_
      refine ev_aload_n C (x := .ref o) rfl trivial dX11_form_20 ?_
      obtain ⟨x21, e21, hs⟩ := aB hs
      refine ev_get C (ci := 11) (k := 7) rfl wu_11 (by decide) wf_X11_19 (gO_F e21) dX11_form_21 ?_
      obtain ⟨x24, e24, hs⟩ := aB hs
      refine ev_getN C (ci := 2) (k := 0) rfl wu_2 (by decide) wg_X11_173 (gO_F e24) dX11_form_24 ?_
      refine ev_iconst C (v := 0) dX11_form_27 (by decide) ?_
      obtain ⟨x28, e28, hs⟩ := aB hs
      refine ev_iald C e28 dX11_form_28 ?_
      refine ev_icmp_le C (tgt := 40) (by decide) dX11_form_29 (fun q29 => ?_) (fun q29 => ?_)
      · replace hs := (if_pos q29).symm.trans hs
        refine ev_aload_n C (x := .ref o) rfl trivial dX11_form_40 ?_
        obtain ⟨x41, e41, hs⟩ := aB hs
        refine ev_get C (ci := 11) (k := 15) rfl wu_11 (by decide) wf_X11_77 (gO_F e41) dX11_form_41 ?_
        obtain ⟨eo44, hs⟩ := kO_at hs
        obtain ⟨x44, h44, e44, hs⟩ := cI_at hs
        refine ev_callVN C (T_X1_holds _ _ _ _ e44) (ci := 1) rfl eo44 wc_X1_holds wn_X11_185 wi_X1_holds ws_X1_holds wz_X1 hy_X1_holds ⟨(Nat.le_of_ble_eq_true rfl), (Nat.le_of_ble_eq_true rfl)⟩ ⟨(Nat.le_refl _), (Nat.le_refl _)⟩ (Nat.le_of_ble_eq_true rfl) rfl dX11_form_44 ?_
        refine ev_if_ne C (tgt := 58) (by decide) dX11_form_47 (fun q47 => ?_) (fun q47 => ?_)
        · replace hs := (if_neg q47).symm.trans hs
          refine ev_aload_n C (x := .ref o) rfl trivial dX11_form_58 ?_
          refine ev_iconst C (v := 0) dX11_form_59 (by decide) ?_
          obtain ⟨h60, e60, hs⟩ := aB hs
          refine ev_put C (ci := 11) (k := 3) rfl wu_11 (by decide) tyX11 tyX11_ok nmX11 wf_X11_167 rfl trivial e60 dX11_form_60 ?_
          refine ev_aload_n C (x := .ref o) rfl trivial dX11_form_63 ?_
          obtain ⟨x64, e64, hs⟩ := aB hs
          refine ev_get C (ci := 11) (k := 15) rfl wu_11 (by decide) wf_X11_77 (gO_F e64) dX11_form_64 ?_
          obtain ⟨x67, e67, hs⟩ := aB hs
          refine ev_getN C (ci := 1) (k := 6) rfl wu_1 (by decide) wg_X11_285 (gO_F e67) dX11_form_67 ?_
          refine ev_iload_n C rfl dX11_form_70 ?_
          obtain ⟨x71, e71, hs⟩ := aB hs
          refine ev_lald C e71 dX11_form_71 ?_
          refine ev_l2i C dX11_form_72 ?_
          cases hs
          exact ev_iret C rfl rfl (Nat.le_refl _) (Nat.le_refl _) rfl dX11_form_73
        · replace hs := (if_pos q47).symm.trans hs
          refine ev_aload_n C (x := .ref o) rfl trivial dX11_form_50 ?_
          refine ev_iconst C (v := 5) dX11_form_51 (by decide) ?_
          obtain ⟨h52, e52, hs⟩ := aB hs
          refine ev_put C (ci := 11) (k := 3) rfl wu_11 (by decide) tyX11 tyX11_ok nmX11 wf_X11_167 rfl trivial e52 dX11_form_52 ?_
          refine ev_ldc C wv_X11_202 dX11_form_55 ?_
          cases hs
          exact ev_iret C rfl rfl (Nat.le_refl _) (Nat.le_refl _) rfl dX11_form_57
      · replace hs := (if_neg q29).symm.trans hs
        exact Ev.keep [true, false] (t_X11_form_32 C  hs)
  · replace hs := (if_pos q4).symm.trans hs
    refine ev_aload_n C (x := .ref o) rfl trivial dX11_form_7 ?_
    refine ev_iconst C (v := 1) dX11_form_8 (by decide) ?_
    obtain ⟨h9, e9, hs⟩ := aB hs
    refine ev_put C (ci := 11) (k := 3) rfl wu_11 (by decide) tyX11 tyX11_ok nmX11 wf_X11_167 rfl trivial e9 dX11_form_9 ?_
    refine ev_ldc C wv_X11_202 dX11_form_12 ?_
    cases hs
    exact ev_iret C rfl rfl (Nat.le_refl _) (Nat.le_refl _) rfl dX11_form_14
end
-- X11_beyond
theorem dX11_beyond_0 : decode cX11_beyond 0 = .ok (.iload_n 0, 1) := by decide +kernel
theorem dX11_beyond_1 : decode cX11_beyond 1 = .ok (.iload_n 1, 1) := by decide +kernel
theorem dX11_beyond_2 : decode cX11_beyond 2 = .ok (.ineg, 1) := by decide +kernel
theorem dX11_beyond_3 : decode cX11_beyond 3 = .ok (.if_icmp .lt 8, 3) := by decide +kernel
theorem dX11_beyond_6 : decode cX11_beyond 6 = .ok (.iload_n 0, 1) := by decide +kernel
theorem dX11_beyond_7 : decode cX11_beyond 7 = .ok (.iload_n 1, 1) := by decide +kernel
theorem dX11_beyond_8 : decode cX11_beyond 8 = .ok (.if_icmp .le 7, 3) := by decide +kernel
theorem dX11_beyond_11 : decode cX11_beyond 11 = .ok (.iconst 1, 1) := by decide +kernel
theorem dX11_beyond_12 : decode cX11_beyond 12 = .ok (.goto 4, 3) := by decide +kernel
theorem dX11_beyond_15 : decode cX11_beyond 15 = .ok (.iconst 0, 1) := by decide +kernel
theorem dX11_beyond_16 : decode cX11_beyond 16 = .ok (.ireturn, 1) := by decide +kernel
def s_X11_beyond (a1 : Int32) (a2 : Int32) (h : aH) : aO :=
  if a1 < (-a2) then (rtZ 1 h) else (if a1 ≤ a2 then (rtZ 0 h) else (rtZ 1 h))
section
variable {p : Program} {l : Launch} {e : Env} {s : State} {m : MethodId} {args : Array Value} {below : List Frame} {meth : Method} {c : Code} {D : va_G} {B0 : Nat} {X : Nat → Nat} {ws0 : va_W} {r : aR} {h' : aH} {mc ms : Nat}
theorem hy_X11_beyond : yX11_beyond.cls ≠ "java/lang/invoke/MethodHandle" ∧ yX11_beyond.cls ≠ "java/lang/invoke/VarHandle" ∧ (parseMethodDescriptor yX11_beyond.desc).map (fun d => d.parameters.length) = some 2 := by decide +kernel
theorem T_X11_beyond (a1 : Int32) (a2 : Int32) (h : aH) (r : aR) (h' : aH) (hs : s_X11_beyond a1 a2 h = some (r, h')) : Mt yX11_beyond (Cond.code yX11_beyond cX11_beyond 2 (some .boolean) :: aTB) 0 0 0 0 [.int a1, .int a2] h r h' := by
  unfold s_X11_beyond at hs
  refine Mt_of (k := 0) (by decide) rfl (fun p l e s m args below meth c D B0 X ws0 C => ?_)
  show Ev p l e { frames := 0, cells := 0, slots := 0, locals := 0 } s m args below meth c D B0 X ws0 r h' 0 0 2 0 0 0 [some (.int a1), some (.int a2)] [] h
  refine ev_iload_n C rfl dX11_beyond_0 ?_
  refine ev_iload_n C rfl dX11_beyond_1 ?_
  refine ev_ineg C dX11_beyond_2 ?_
  refine ev_icmp_lt C (tgt := 11) (by decide) dX11_beyond_3 (fun q3 => ?_) (fun q3 => ?_)
  · replace hs := (if_pos q3).symm.trans hs
    refine ev_iconst C (v := 1) dX11_beyond_11 (by decide) ?_
    refine ev_goto C (tgt := 16) (by decide) dX11_beyond_12 ?_
    obtain ⟨hz, rfl, rfl⟩ := rtZ_at hs
    exact ev_zret C rfl hz rfl (Nat.le_refl _) (Nat.le_refl _) rfl dX11_beyond_16
  · replace hs := (if_neg q3).symm.trans hs
    refine ev_iload_n C rfl dX11_beyond_6 ?_
    refine ev_iload_n C rfl dX11_beyond_7 ?_
    refine ev_icmp_le C (tgt := 15) (by decide) dX11_beyond_8 (fun q8 => ?_) (fun q8 => ?_)
    · replace hs := (if_pos q8).symm.trans hs
      refine ev_iconst C (v := 0) dX11_beyond_15 (by decide) ?_
      obtain ⟨hz, rfl, rfl⟩ := rtZ_at hs
      exact ev_zret C rfl hz rfl (Nat.le_refl _) (Nat.le_refl _) rfl dX11_beyond_16
    · replace hs := (if_neg q8).symm.trans hs
      refine ev_iconst C (v := 1) dX11_beyond_11 (by decide) ?_
      refine ev_goto C (tgt := 16) (by decide) dX11_beyond_12 ?_
      obtain ⟨hz, rfl, rfl⟩ := rtZ_at hs
      exact ev_zret C rfl hz rfl (Nat.le_refl _) (Nat.le_refl _) rfl dX11_beyond_16
end
-- X11_place
theorem dX11_place_0 : decode cX11_place 0 = .ok (.aload_n 0, 1) := by decide +kernel
theorem dX11_place_1 : decode cX11_place 1 = .ok (.getfield 120, 3) := by decide +kernel
theorem dX11_place_4 : decode cX11_place 4 = .ok (.ifCond .ne 9, 3) := by decide +kernel
theorem dX11_place_7 : decode cX11_place 7 = .ok (.aload_n 0, 1) := by decide +kernel
theorem dX11_place_8 : decode cX11_place 8 = .ok (.iconst 1, 1) := by decide +kernel
theorem dX11_place_9 : decode cX11_place 9 = .ok (.invokevirtual 105, 3) := by decide +kernel
theorem dX11_place_12 : decode cX11_place 12 = .ok (.ireturn, 1) := by decide +kernel
theorem dX11_place_13 : decode cX11_place 13 = .ok (.aload_n 0, 1) := by decide +kernel
theorem dX11_place_14 : decode cX11_place 14 = .ok (.getfield 19, 3) := by decide +kernel
theorem dX11_place_17 : decode cX11_place 17 = .ok (.getfield 173, 3) := by decide +kernel
theorem dX11_place_20 : decode cX11_place 20 = .ok (.iconst 0, 1) := by decide +kernel
theorem dX11_place_21 : decode cX11_place 21 = .ok (.iaload, 1) := by decide +kernel
theorem dX11_place_22 : decode cX11_place 22 = .ok (.istore 4, 2) := by decide +kernel
theorem dX11_place_24 : decode cX11_place 24 = .ok (.iload_n 1, 1) := by decide +kernel
theorem dX11_place_25 : decode cX11_place 25 = .ok (.sipush 999, 3) := by decide +kernel
theorem dX11_place_28 : decode cX11_place 28 = .ok (.invokestatic 289, 3) := by decide +kernel
theorem dX11_place_31 : decode cX11_place 31 = .ok (.ifCond .ne 35, 3) := by decide +kernel
theorem dX11_place_34 : decode cX11_place 34 = .ok (.iload 4, 2) := by decide +kernel
theorem dX11_place_36 : decode cX11_place 36 = .ok (.iconst 1, 1) := by decide +kernel
theorem dX11_place_37 : decode cX11_place 37 = .ok (.if_icmp .le 13, 3) := by decide +kernel
theorem dX11_place_40 : decode cX11_place 40 = .ok (.iload_n 2, 1) := by decide +kernel
theorem dX11_place_41 : decode cX11_place 41 = .ok (.sipush 999, 3) := by decide +kernel
theorem dX11_place_44 : decode cX11_place 44 = .ok (.invokestatic 289, 3) := by decide +kernel
theorem dX11_place_47 : decode cX11_place 47 = .ok (.ifCond .ne 19, 3) := by decide +kernel
theorem dX11_place_50 : decode cX11_place 50 = .ok (.iload 4, 2) := by decide +kernel
theorem dX11_place_52 : decode cX11_place 52 = .ok (.iconst 2, 1) := by decide +kernel
theorem dX11_place_53 : decode cX11_place 53 = .ok (.if_icmp .le 19, 3) := by decide +kernel
theorem dX11_place_56 : decode cX11_place 56 = .ok (.iload_n 3, 1) := by decide +kernel
theorem dX11_place_57 : decode cX11_place 57 = .ok (.sipush 999, 3) := by decide +kernel
theorem dX11_place_60 : decode cX11_place 60 = .ok (.invokestatic 289, 3) := by decide +kernel
theorem dX11_place_63 : decode cX11_place 63 = .ok (.ifCond .eq 9, 3) := by decide +kernel
theorem dX11_place_66 : decode cX11_place 66 = .ok (.aload_n 0, 1) := by decide +kernel
theorem dX11_place_67 : decode cX11_place 67 = .ok (.iconst 2, 1) := by decide +kernel
theorem dX11_place_68 : decode cX11_place 68 = .ok (.invokevirtual 105, 3) := by decide +kernel
theorem dX11_place_71 : decode cX11_place 71 = .ok (.ireturn, 1) := by decide +kernel
theorem dX11_place_72 : decode cX11_place 72 = .ok (.aload_n 0, 1) := by decide +kernel
theorem dX11_place_73 : decode cX11_place 73 = .ok (.getfield 77, 3) := by decide +kernel
theorem dX11_place_76 : decode cX11_place 76 = .ok (.invokevirtual 185, 3) := by decide +kernel
theorem dX11_place_79 : decode cX11_place 79 = .ok (.ifCond .eq 29, 3) := by decide +kernel
theorem dX11_place_82 : decode cX11_place 82 = .ok (.aload_n 0, 1) := by decide +kernel
theorem dX11_place_83 : decode cX11_place 83 = .ok (.getfield 19, 3) := by decide +kernel
theorem dX11_place_86 : decode cX11_place 86 = .ok (.getfield 173, 3) := by decide +kernel
theorem dX11_place_89 : decode cX11_place 89 = .ok (.iconst 1, 1) := by decide +kernel
theorem dX11_place_90 : decode cX11_place 90 = .ok (.iaload, 1) := by decide +kernel
theorem dX11_place_91 : decode cX11_place 91 = .ok (.iconst 1, 1) := by decide +kernel
theorem dX11_place_92 : decode cX11_place 92 = .ok (.if_icmp .ne 16, 3) := by decide +kernel
theorem dX11_place_95 : decode cX11_place 95 = .ok (.aload_n 0, 1) := by decide +kernel
theorem dX11_place_96 : decode cX11_place 96 = .ok (.getfield 77, 3) := by decide +kernel
theorem dX11_place_99 : decode cX11_place 99 = .ok (.iconst 0, 1) := by decide +kernel
theorem dX11_place_100 : decode cX11_place 100 = .ok (.invokevirtual 281, 3) := by decide +kernel
theorem dX11_place_103 : decode cX11_place 103 = .ok (.iload 4, 2) := by decide +kernel
theorem dX11_place_105 : decode cX11_place 105 = .ok (.if_icmp .eq 9, 3) := by decide +kernel
theorem dX11_place_108 : decode cX11_place 108 = .ok (.aload_n 0, 1) := by decide +kernel
theorem dX11_place_109 : decode cX11_place 109 = .ok (.iconst 5, 1) := by decide +kernel
theorem dX11_place_110 : decode cX11_place 110 = .ok (.invokevirtual 105, 3) := by decide +kernel
theorem dX11_place_113 : decode cX11_place 113 = .ok (.ireturn, 1) := by decide +kernel
theorem dX11_place_114 : decode cX11_place 114 = .ok (.aload_n 0, 1) := by decide +kernel
theorem dX11_place_115 : decode cX11_place 115 = .ok (.iconst 0, 1) := by decide +kernel
theorem dX11_place_116 : decode cX11_place 116 = .ok (.putfield 167, 3) := by decide +kernel
theorem dX11_place_119 : decode cX11_place 119 = .ok (.aload_n 0, 1) := by decide +kernel
theorem dX11_place_120 : decode cX11_place 120 = .ok (.getfield 77, 3) := by decide +kernel
theorem dX11_place_123 : decode cX11_place 123 = .ok (.iload_n 1, 1) := by decide +kernel
theorem dX11_place_124 : decode cX11_place 124 = .ok (.iload_n 2, 1) := by decide +kernel
theorem dX11_place_125 : decode cX11_place 125 = .ok (.iload_n 3, 1) := by decide +kernel
theorem dX11_place_126 : decode cX11_place 126 = .ok (.invokevirtual 293, 3) := by decide +kernel
theorem dX11_place_129 : decode cX11_place 129 = .ok (.iload 4, 2) := by decide +kernel
theorem dX11_place_131 : decode cX11_place 131 = .ok (.ireturn, 1) := by decide +kernel
def s_X11_place_66  (l0 : Nat) (h : aH) : aO :=
  kO h l0 11 (cI (s_X11_refused l0 2 h) fun x68 h68 => some (.inl (some (.int x68)), h68))
def s_X11_place_108  (l0 : Nat) (h : aH) : aO :=
  kO h l0 11 (cI (s_X11_refused l0 5 h) fun x110 h110 => some (.inl (some (.int x110)), h110))
def s_X11_place_72  (l0 : Nat) (l1 : Int32) (l2 : Int32) (l3 : Int32) (l4 : Int32) (h : aH) : aO :=
  (gO h (.ref l0) 11 15).bind fun x73 => kO h x73 1 (cI (s_X1_holds x73 h) fun x76 h76 => if x76 = 0 then (s_X11_place_108 l0 h76) else ((gO h76 (.ref l0) 11 7).bind fun x83 => (gO h76 (.ref x83) 2 0).bind fun x86 => (ldI .int h76 (.ref x86) 1).bind fun x90 => if x90 = 1 then ((gO h76 (.ref l0) 11 15).bind fun x96 => kO h76 x96 1 (cI (s_X1_rankOf x96 0 h76) fun x100 h100 => if x100 = l4 then ((pF h100 (.ref l0) 11 3 (.int 0)).bind fun h116 => (gO h116 (.ref l0) 11 15).bind fun x120 => kO h116 x120 1 (cN (s_X1_solve x120 l1 l2 l3 h116) fun h126 => some (.inl (some (.int l4)), h126))) else (s_X11_place_108 l0 h100))) else (s_X11_place_108 l0 h76)))
def s_X11_place_50  (l0 : Nat) (l1 : Int32) (l2 : Int32) (l3 : Int32) (l4 : Int32) (h : aH) : aO :=
  if l4 ≤ 2 then (s_X11_place_72 l0 l1 l2 l3 l4 h) else (cI (s_X11_beyond l3 999 h) fun x60 h60 => if x60 = 0 then (s_X11_place_72 l0 l1 l2 l3 l4 h60) else (s_X11_place_66 l0 h60))
def s_X11_place (o : Nat) (a1 : Int32) (a2 : Int32) (a3 : Int32) (h : aH) : aO :=
  (gI h (.ref o) 11 2).bind fun x1 => if x1 = 0 then (kO h o 11 (cI (s_X11_refused o 1 h) fun x9 h9 => some (.inl (some (.int x9)), h9))) else ((gO h (.ref o) 11 7).bind fun x14 => (gO h (.ref x14) 2 0).bind fun x17 => (ldI .int h (.ref x17) 0).bind fun x21 => cI (s_X11_beyond a1 999 h) fun x28 h28 => if x28 = 0 then (if x21 ≤ 1 then (s_X11_place_50 o a1 a2 a3 x21 h28) else (cI (s_X11_beyond a2 999 h28) fun x44 h44 => if x44 = 0 then (s_X11_place_50 o a1 a2 a3 x21 h44) else (s_X11_place_66 o h44))) else (s_X11_place_66 o h28))
section
variable {p : Program} {l : Launch} {e : Env} {s : State} {m : MethodId} {args : Array Value} {below : List Frame} {meth : Method} {c : Code} {D : va_G} {B0 : Nat} {X : Nat → Nat} {ws0 : va_W} {r : aR} {h' : aH} {mc ms : Nat}
theorem t_X11_place_66 (C : Cx p l s m args meth c B0 X RX11 "place" cX11_place 5 (some .int) [])   {l0 : Nat} {h : aH} (hs : s_X11_place_66  l0 h = some (r, h')) : Ev p l e { frames := 4, cells := mc, slots := ms, locals := 109 } s m args below meth c D B0 X ws0 r h' mc ms 5 mc ms 66 [some (.ref l0), none, none, none, none] [] h := by
  unfold s_X11_place_66 at hs
  refine ev_aload_n C (x := .ref l0) rfl trivial dX11_place_66 ?_
  refine ev_iconst C (v := 2) dX11_place_67 (by decide) ?_
  obtain ⟨eo68, hs⟩ := kO_at hs
  obtain ⟨x68, h68, e68, hs⟩ := cI_at hs
  refine ev_callV C (T_X11_refused _ _ _ _ _ e68) (ci := 11) rfl eo68 wc_X11_refused wm_X11_105 wi_X11_refused ws_X11_refused wz_X11 hy_X11_refused ⟨(Nat.le_of_ble_eq_true rfl), (Nat.le_of_ble_eq_true rfl)⟩ ⟨(Nat.le_refl _), (Nat.le_refl _)⟩ (Nat.le_of_ble_eq_true rfl) rfl dX11_place_68 ?_
  cases hs
  exact ev_iret C rfl rfl (Nat.le_refl _) (Nat.le_refl _) rfl dX11_place_71
theorem t_X11_place_108 (C : Cx p l s m args meth c B0 X RX11 "place" cX11_place 5 (some .int) [])   {l0 : Nat} {h : aH} (hs : s_X11_place_108  l0 h = some (r, h')) : Ev p l e { frames := 4, cells := mc, slots := ms, locals := 109 } s m args below meth c D B0 X ws0 r h' mc ms 5 mc ms 108 [some (.ref l0), none, none, none, none] [] h := by
  unfold s_X11_place_108 at hs
  refine ev_aload_n C (x := .ref l0) rfl trivial dX11_place_108 ?_
  refine ev_iconst C (v := 5) dX11_place_109 (by decide) ?_
  obtain ⟨eo110, hs⟩ := kO_at hs
  obtain ⟨x110, h110, e110, hs⟩ := cI_at hs
  refine ev_callV C (T_X11_refused _ _ _ _ _ e110) (ci := 11) rfl eo110 wc_X11_refused wm_X11_105 wi_X11_refused ws_X11_refused wz_X11 hy_X11_refused ⟨(Nat.le_of_ble_eq_true rfl), (Nat.le_of_ble_eq_true rfl)⟩ ⟨(Nat.le_refl _), (Nat.le_refl _)⟩ (Nat.le_of_ble_eq_true rfl) rfl dX11_place_110 ?_
  cases hs
  exact ev_iret C rfl rfl (Nat.le_refl _) (Nat.le_refl _) rfl dX11_place_113
theorem t_X11_place_72 (C : Cx p l s m args meth c B0 X RX11 "place" cX11_place 5 (some .int) [])   {l0 : Nat} {l1 : Int32} {l2 : Int32} {l3 : Int32} {l4 : Int32} {h : aH} (hs : s_X11_place_72  l0 l1 l2 l3 l4 h = some (r, h')) : Ev p l e { frames := 4, cells := mc, slots := ms, locals := 109 } s m args below meth c D B0 X ws0 r h' mc ms 5 mc ms 72 [some (.ref l0), some (.int l1), some (.int l2), some (.int l3), some (.int l4)] [] h := by
  unfold s_X11_place_72 at hs
  refine ev_aload_n C (x := .ref l0) rfl trivial dX11_place_72 ?_
  obtain ⟨x73, e73, hs⟩ := aB hs
  refine ev_get C (ci := 11) (k := 15) rfl wu_11 (by decide) wf_X11_77 (gO_F e73) dX11_place_73 ?_
  obtain ⟨eo76, hs⟩ := kO_at hs
  obtain ⟨x76, h76, e76, hs⟩ := cI_at hs
  refine ev_callVN C (T_X1_holds _ _ _ _ e76) (ci := 1) rfl eo76 wc_X1_holds wn_X11_185 wi_X1_holds ws_X1_holds wz_X1 hy_X1_holds ⟨(Nat.le_of_ble_eq_true rfl), (Nat.le_of_ble_eq_true rfl)⟩ ⟨(Nat.le_refl _), (Nat.le_refl _)⟩ (Nat.le_of_ble_eq_true rfl) rfl dX11_place_76 ?_
  refine ev_if_eq C (tgt := 108) (by decide) dX11_place_79 (fun q79 => ?_) (fun q79 => ?_)
  · replace hs := (if_pos q79).symm.trans hs
    exact Ev.keep [true, false, false, false, false] (t_X11_place_108 C  hs)
  · replace hs := (if_neg q79).symm.trans hs
    refine ev_aload_n C (x := .ref l0) rfl trivial dX11_place_82 ?_
    obtain ⟨x83, e83, hs⟩ := aB hs
    refine ev_get C (ci := 11) (k := 7) rfl wu_11 (by decide) wf_X11_19 (gO_F e83) dX11_place_83 ?_
    obtain ⟨x86, e86, hs⟩ := aB hs
    refine ev_getN C (ci := 2) (k := 0) rfl wu_2 (by decide) wg_X11_173 (gO_F e86) dX11_place_86 ?_
    refine ev_iconst C (v := 1) dX11_place_89 (by decide) ?_
    obtain ⟨x90, e90, hs⟩ := aB hs
    refine ev_iald C e90 dX11_place_90 ?_
    refine ev_iconst C (v := 1) dX11_place_91 (by decide) ?_
    refine ev_icmp_ne C (tgt := 108) (by decide) dX11_place_92 (fun q92 => ?_) (fun q92 => ?_)
    · replace hs := (if_neg q92).symm.trans hs
      exact Ev.keep [true, false, false, false, false] (t_X11_place_108 C  hs)
    · replace hs := (if_pos q92).symm.trans hs
      refine ev_aload_n C (x := .ref l0) rfl trivial dX11_place_95 ?_
      obtain ⟨x96, e96, hs⟩ := aB hs
      refine ev_get C (ci := 11) (k := 15) rfl wu_11 (by decide) wf_X11_77 (gO_F e96) dX11_place_96 ?_
      refine ev_iconst C (v := 0) dX11_place_99 (by decide) ?_
      obtain ⟨eo100, hs⟩ := kO_at hs
      obtain ⟨x100, h100, e100, hs⟩ := cI_at hs
      refine ev_callVN C (T_X1_rankOf _ _ _ _ _ e100) (ci := 1) rfl eo100 wc_X1_rankOf wn_X11_281 wi_X1_rankOf ws_X1_rankOf wz_X1 hy_X1_rankOf ⟨(Nat.le_of_ble_eq_true rfl), (Nat.le_of_ble_eq_true rfl)⟩ ⟨(Nat.le_refl _), (Nat.le_refl _)⟩ (Nat.le_of_ble_eq_true rfl) rfl dX11_place_100 ?_
      refine ev_iload C rfl dX11_place_103 ?_
      refine ev_icmp_eq C (tgt := 114) (by decide) dX11_place_105 (fun q105 => ?_) (fun q105 => ?_)
      · replace hs := (if_pos q105).symm.trans hs
        refine ev_aload_n C (x := .ref l0) rfl trivial dX11_place_114 ?_
        refine ev_iconst C (v := 0) dX11_place_115 (by decide) ?_
        obtain ⟨h116, e116, hs⟩ := aB hs
        refine ev_put C (ci := 11) (k := 3) rfl wu_11 (by decide) tyX11 tyX11_ok nmX11 wf_X11_167 rfl trivial e116 dX11_place_116 ?_
        refine ev_aload_n C (x := .ref l0) rfl trivial dX11_place_119 ?_
        obtain ⟨x120, e120, hs⟩ := aB hs
        refine ev_get C (ci := 11) (k := 15) rfl wu_11 (by decide) wf_X11_77 (gO_F e120) dX11_place_120 ?_
        refine ev_iload_n C rfl dX11_place_123 ?_
        refine ev_iload_n C rfl dX11_place_124 ?_
        refine ev_iload_n C rfl dX11_place_125 ?_
        obtain ⟨eo126, hs⟩ := kO_at hs
        obtain ⟨h126, e126, hs⟩ := cN_at hs
        refine ev_callVN C (T_X1_solve _ _ _ _ _ _ _ e126) (ci := 1) rfl eo126 wc_X1_solve wn_X11_293 wi_X1_solve ws_X1_solve wz_X1 hy_X1_solve ⟨(Nat.le_of_ble_eq_true rfl), (Nat.le_of_ble_eq_true rfl)⟩ ⟨(Nat.le_refl _), (Nat.le_refl _)⟩ (Nat.le_of_ble_eq_true rfl) rfl dX11_place_126 ?_
        refine ev_iload C rfl dX11_place_129 ?_
        cases hs
        exact ev_iret C rfl rfl (Nat.le_refl _) (Nat.le_refl _) rfl dX11_place_131
      · replace hs := (if_neg q105).symm.trans hs
        exact Ev.keep [true, false, false, false, false] (t_X11_place_108 C  hs)
theorem t_X11_place_50 (C : Cx p l s m args meth c B0 X RX11 "place" cX11_place 5 (some .int) [])   {l0 : Nat} {l1 : Int32} {l2 : Int32} {l3 : Int32} {l4 : Int32} {h : aH} (hs : s_X11_place_50  l0 l1 l2 l3 l4 h = some (r, h')) : Ev p l e { frames := 4, cells := mc, slots := ms, locals := 109 } s m args below meth c D B0 X ws0 r h' mc ms 5 mc ms 50 [some (.ref l0), some (.int l1), some (.int l2), some (.int l3), some (.int l4)] [] h := by
  unfold s_X11_place_50 at hs
  refine ev_iload C rfl dX11_place_50 ?_
  refine ev_iconst C (v := 2) dX11_place_52 (by decide) ?_
  refine ev_icmp_le C (tgt := 72) (by decide) dX11_place_53 (fun q53 => ?_) (fun q53 => ?_)
  · replace hs := (if_pos q53).symm.trans hs
    exact (t_X11_place_72 C  hs)
  · replace hs := (if_neg q53).symm.trans hs
    refine ev_iload_n C rfl dX11_place_56 ?_
    refine ev_sipush C (v := 999) dX11_place_57 (by decide) ?_
    obtain ⟨x60, h60, e60, hs⟩ := cI_at hs
    refine ev_callS C (T_X11_beyond _ _ _ _ _ e60) wc_X11_beyond wm_X11_289 wt_X11_beyond wz_X11 hy_X11_beyond ⟨(Nat.le_of_ble_eq_true rfl), (Nat.le_of_ble_eq_true rfl)⟩ ⟨(Nat.le_refl _), (Nat.le_refl _)⟩ (Nat.le_of_ble_eq_true rfl) rfl dX11_place_60 ?_
    refine ev_if_eq C (tgt := 72) (by decide) dX11_place_63 (fun q63 => ?_) (fun q63 => ?_)
    · replace hs := (if_pos q63).symm.trans hs
      exact (t_X11_place_72 C  hs)
    · replace hs := (if_neg q63).symm.trans hs
      exact Ev.keep [true, false, false, false, false] (t_X11_place_66 C  hs)
theorem hy_X11_place : yX11_place.cls ≠ "java/lang/invoke/MethodHandle" ∧ yX11_place.cls ≠ "java/lang/invoke/VarHandle" ∧ (parseMethodDescriptor yX11_place.desc).map (fun d => d.parameters.length) = some 3 := by decide +kernel
theorem T_X11_place (o : Nat) (a1 : Int32) (a2 : Int32) (a3 : Int32) (h : aH) (r : aR) (h' : aH) (hs : s_X11_place o a1 a2 a3 h = some (r, h')) : Mt yX11_place (Cond.code yX11_place cX11_place 5 (some .int) :: aTB) 4 109 0 0 [.ref o, .int a1, .int a2, .int a3] h r h' := by
  unfold s_X11_place at hs
  refine Mt_of (k := 1) (by decide) rfl (fun p l e s m args below meth c D B0 X ws0 C => ?_)
  show Ev p l e { frames := 4, cells := 0, slots := 0, locals := 109 } s m args below meth c D B0 X ws0 r h' 0 0 5 0 0 0 [some (.ref o), some (.int a1), some (.int a2), some (.int a3), none] [] h
  refine ev_aload_n C (x := .ref o) rfl trivial dX11_place_0 ?_
  obtain ⟨x1, e1, hs⟩ := aB hs
  refine ev_get C (ci := 11) (k := 2) rfl wu_11 (by decide) wf_X11_120 (gI_F e1) dX11_place_1 ?_
  refine ev_if_ne C (tgt := 13) (by decide) dX11_place_4 (fun q4 => ?_) (fun q4 => ?_)
  · replace hs := (if_neg q4).symm.trans hs
    refine ev_aload_n C (x := .ref o) rfl trivial dX11_place_13 ?_
    obtain ⟨x14, e14, hs⟩ := aB hs
    refine ev_get C (ci := 11) (k := 7) rfl wu_11 (by decide) wf_X11_19 (gO_F e14) dX11_place_14 ?_
    obtain ⟨x17, e17, hs⟩ := aB hs
    refine ev_getN C (ci := 2) (k := 0) rfl wu_2 (by decide) wg_X11_173 (gO_F e17) dX11_place_17 ?_
    refine ev_iconst C (v := 0) dX11_place_20 (by decide) ?_
    obtain ⟨x21, e21, hs⟩ := aB hs
    refine ev_iald C e21 dX11_place_21 ?_
    refine ev_istore C (by decide) dX11_place_22 ?_
    refine ev_iload_n C rfl dX11_place_24 ?_
    refine ev_sipush C (v := 999) dX11_place_25 (by decide) ?_
    obtain ⟨x28, h28, e28, hs⟩ := cI_at hs
    refine ev_callS C (T_X11_beyond _ _ _ _ _ e28) wc_X11_beyond wm_X11_289 wt_X11_beyond wz_X11 hy_X11_beyond ⟨(Nat.le_of_ble_eq_true rfl), (Nat.le_of_ble_eq_true rfl)⟩ ⟨(Nat.le_refl _), (Nat.le_refl _)⟩ (Nat.le_of_ble_eq_true rfl) rfl dX11_place_28 ?_
    refine ev_if_ne C (tgt := 66) (by decide) dX11_place_31 (fun q31 => ?_) (fun q31 => ?_)
    · replace hs := (if_neg q31).symm.trans hs
      exact Ev.keep [true, false, false, false, false] (t_X11_place_66 C  hs)
    · replace hs := (if_pos q31).symm.trans hs
      refine ev_iload C rfl dX11_place_34 ?_
      refine ev_iconst C (v := 1) dX11_place_36 (by decide) ?_
      refine ev_icmp_le C (tgt := 50) (by decide) dX11_place_37 (fun q37 => ?_) (fun q37 => ?_)
      · replace hs := (if_pos q37).symm.trans hs
        exact (t_X11_place_50 C  hs)
      · replace hs := (if_neg q37).symm.trans hs
        refine ev_iload_n C rfl dX11_place_40 ?_
        refine ev_sipush C (v := 999) dX11_place_41 (by decide) ?_
        obtain ⟨x44, h44, e44, hs⟩ := cI_at hs
        refine ev_callS C (T_X11_beyond _ _ _ _ _ e44) wc_X11_beyond wm_X11_289 wt_X11_beyond wz_X11 hy_X11_beyond ⟨(Nat.le_of_ble_eq_true rfl), (Nat.le_of_ble_eq_true rfl)⟩ ⟨(Nat.le_refl _), (Nat.le_refl _)⟩ (Nat.le_of_ble_eq_true rfl) rfl dX11_place_44 ?_
        refine ev_if_ne C (tgt := 66) (by decide) dX11_place_47 (fun q47 => ?_) (fun q47 => ?_)
        · replace hs := (if_neg q47).symm.trans hs
          exact Ev.keep [true, false, false, false, false] (t_X11_place_66 C  hs)
        · replace hs := (if_pos q47).symm.trans hs
          exact (t_X11_place_50 C  hs)
  · replace hs := (if_pos q4).symm.trans hs
    refine ev_aload_n C (x := .ref o) rfl trivial dX11_place_7 ?_
    refine ev_iconst C (v := 1) dX11_place_8 (by decide) ?_
    obtain ⟨eo9, hs⟩ := kO_at hs
    obtain ⟨x9, h9, e9, hs⟩ := cI_at hs
    refine ev_callV C (T_X11_refused _ _ _ _ _ e9) (ci := 11) rfl eo9 wc_X11_refused wm_X11_105 wi_X11_refused ws_X11_refused wz_X11 hy_X11_refused ⟨(Nat.le_of_ble_eq_true rfl), (Nat.le_of_ble_eq_true rfl)⟩ ⟨(Nat.le_refl _), (Nat.le_refl _)⟩ (Nat.le_of_ble_eq_true rfl) rfl dX11_place_9 ?_
    cases hs
    exact ev_iret C rfl rfl (Nat.le_refl _) (Nat.le_refl _) rfl dX11_place_12
end
-- X11_gain
theorem dX11_gain_0 : decode cX11_gain 0 = .ok (.iload_n 1, 1) := by decide +kernel
theorem dX11_gain_1 : decode cX11_gain 1 = .ok (.ifCond .lt 14, 3) := by decide +kernel
theorem dX11_gain_4 : decode cX11_gain 4 = .ok (.iload_n 1, 1) := by decide +kernel
theorem dX11_gain_5 : decode cX11_gain 5 = .ok (.aload_n 0, 1) := by decide +kernel
theorem dX11_gain_6 : decode cX11_gain 6 = .ok (.getfield 77, 3) := by decide +kernel
theorem dX11_gain_9 : decode cX11_gain 9 = .ok (.getfield 297, 3) := by decide +kernel
theorem dX11_gain_12 : decode cX11_gain 12 = .ok (.if_icmp .lt 7, 3) := by decide +kernel
theorem dX11_gain_15 : decode cX11_gain 15 = .ok (.ldc2_w 300, 3) := by decide +kernel
theorem dX11_gain_18 : decode cX11_gain 18 = .ok (.lreturn, 1) := by decide +kernel
theorem dX11_gain_19 : decode cX11_gain 19 = .ok (.iload_n 2, 1) := by decide +kernel
theorem dX11_gain_20 : decode cX11_gain 20 = .ok (.ifCond .eq 15, 3) := by decide +kernel
theorem dX11_gain_23 : decode cX11_gain 23 = .ok (.aload_n 0, 1) := by decide +kernel
theorem dX11_gain_24 : decode cX11_gain 24 = .ok (.getfield 77, 3) := by decide +kernel
theorem dX11_gain_27 : decode cX11_gain 27 = .ok (.getfield 302, 3) := by decide +kernel
theorem dX11_gain_30 : decode cX11_gain 30 = .ok (.iload_n 1, 1) := by decide +kernel
theorem dX11_gain_31 : decode cX11_gain 31 = .ok (.laload, 1) := by decide +kernel
theorem dX11_gain_32 : decode cX11_gain 32 = .ok (.goto 12, 3) := by decide +kernel
theorem dX11_gain_35 : decode cX11_gain 35 = .ok (.aload_n 0, 1) := by decide +kernel
theorem dX11_gain_36 : decode cX11_gain 36 = .ok (.getfield 77, 3) := by decide +kernel
theorem dX11_gain_39 : decode cX11_gain 39 = .ok (.getfield 305, 3) := by decide +kernel
theorem dX11_gain_42 : decode cX11_gain 42 = .ok (.iload_n 1, 1) := by decide +kernel
theorem dX11_gain_43 : decode cX11_gain 43 = .ok (.laload, 1) := by decide +kernel
theorem dX11_gain_44 : decode cX11_gain 44 = .ok (.lreturn, 1) := by decide +kernel
def s_X11_gain_15   (h : aH) : aO :=
  some (.inl (some (.long (-9223372036854775808))), h)
def s_X11_gain (o : Nat) (a1 : Int32) (a2 : Int32) (h : aH) : aO :=
  if a1 < 0 then (s_X11_gain_15 h) else ((gO h (.ref o) 11 15).bind fun x6 => (gI h (.ref x6) 1 8).bind fun x9 => if a1 < x9 then (if a2 = 0 then ((gO h (.ref o) 11 15).bind fun x36 => (gO h (.ref x36) 1 9).bind fun x39 => (ldJ h (.ref x39) a1).bind fun x43 => some (.inl (some (.long x43)), h)) else ((gO h (.ref o) 11 15).bind fun x24 => (gO h (.ref x24) 1 10).bind fun x27 => (ldJ h (.ref x27) a1).bind fun x31 => some (.inl (some (.long x31)), h))) else (s_X11_gain_15 h))
section
variable {p : Program} {l : Launch} {e : Env} {s : State} {m : MethodId} {args : Array Value} {below : List Frame} {meth : Method} {c : Code} {D : va_G} {B0 : Nat} {X : Nat → Nat} {ws0 : va_W} {r : aR} {h' : aH} {mc ms : Nat}
theorem t_X11_gain_15 (C : Cx p l s m args meth c B0 X RX11 "gain" cX11_gain 3 (some .long) [])    {h : aH} (hs : s_X11_gain_15   h = some (r, h')) : Ev p l e { frames := 0, cells := mc, slots := ms, locals := 0 } s m args below meth c D B0 X ws0 r h' mc ms 3 mc ms 15 [none, none, none] [] h := by
  unfold s_X11_gain_15 at hs
  refine ev_ldc2 C wv_X11_300 dX11_gain_15 ?_
  cases hs
  exact ev_lret C rfl rfl (Nat.le_refl _) (Nat.le_refl _) rfl dX11_gain_18
theorem hy_X11_gain : yX11_gain.cls ≠ "java/lang/invoke/MethodHandle" ∧ yX11_gain.cls ≠ "java/lang/invoke/VarHandle" ∧ (parseMethodDescriptor yX11_gain.desc).map (fun d => d.parameters.length) = some 2 := by decide +kernel
theorem T_X11_gain (o : Nat) (a1 : Int32) (a2 : Int32) (h : aH) (r : aR) (h' : aH) (hs : s_X11_gain o a1 a2 h = some (r, h')) : Mt yX11_gain (Cond.code yX11_gain cX11_gain 3 (some .long) :: aTB) 0 0 0 0 [.ref o, .int a1, .int a2] h r h' := by
  unfold s_X11_gain at hs
  refine Mt_of (k := 0) (by decide) rfl (fun p l e s m args below meth c D B0 X ws0 C => ?_)
  show Ev p l e { frames := 0, cells := 0, slots := 0, locals := 0 } s m args below meth c D B0 X ws0 r h' 0 0 3 0 0 0 [some (.ref o), some (.int a1), some (.int a2)] [] h
  refine ev_iload_n C rfl dX11_gain_0 ?_
  refine ev_if_lt C (tgt := 15) (by decide) dX11_gain_1 (fun q1 => ?_) (fun q1 => ?_)
  · replace hs := (if_pos q1).symm.trans hs
    exact Ev.keep [false, false, false] (t_X11_gain_15 C  hs)
  · replace hs := (if_neg q1).symm.trans hs
    refine ev_iload_n C rfl dX11_gain_4 ?_
    refine ev_aload_n C (x := .ref o) rfl trivial dX11_gain_5 ?_
    obtain ⟨x6, e6, hs⟩ := aB hs
    refine ev_get C (ci := 11) (k := 15) rfl wu_11 (by decide) wf_X11_77 (gO_F e6) dX11_gain_6 ?_
    obtain ⟨x9, e9, hs⟩ := aB hs
    refine ev_getN C (ci := 1) (k := 8) rfl wu_1 (by decide) wg_X11_297 (gI_F e9) dX11_gain_9 ?_
    refine ev_icmp_lt C (tgt := 19) (by decide) dX11_gain_12 (fun q12 => ?_) (fun q12 => ?_)
    · replace hs := (if_pos q12).symm.trans hs
      refine ev_iload_n C rfl dX11_gain_19 ?_
      refine ev_if_eq C (tgt := 35) (by decide) dX11_gain_20 (fun q20 => ?_) (fun q20 => ?_)
      · replace hs := (if_pos q20).symm.trans hs
        refine ev_aload_n C (x := .ref o) rfl trivial dX11_gain_35 ?_
        obtain ⟨x36, e36, hs⟩ := aB hs
        refine ev_get C (ci := 11) (k := 15) rfl wu_11 (by decide) wf_X11_77 (gO_F e36) dX11_gain_36 ?_
        obtain ⟨x39, e39, hs⟩ := aB hs
        refine ev_getN C (ci := 1) (k := 9) rfl wu_1 (by decide) wg_X11_305 (gO_F e39) dX11_gain_39 ?_
        refine ev_iload_n C rfl dX11_gain_42 ?_
        obtain ⟨x43, e43, hs⟩ := aB hs
        refine ev_lald C e43 dX11_gain_43 ?_
        cases hs
        exact ev_lret C rfl rfl (Nat.le_refl _) (Nat.le_refl _) rfl dX11_gain_44
      · replace hs := (if_neg q20).symm.trans hs
        refine ev_aload_n C (x := .ref o) rfl trivial dX11_gain_23 ?_
        obtain ⟨x24, e24, hs⟩ := aB hs
        refine ev_get C (ci := 11) (k := 15) rfl wu_11 (by decide) wf_X11_77 (gO_F e24) dX11_gain_24 ?_
        obtain ⟨x27, e27, hs⟩ := aB hs
        refine ev_getN C (ci := 1) (k := 10) rfl wu_1 (by decide) wg_X11_302 (gO_F e27) dX11_gain_27 ?_
        refine ev_iload_n C rfl dX11_gain_30 ?_
        obtain ⟨x31, e31, hs⟩ := aB hs
        refine ev_lald C e31 dX11_gain_31 ?_
        refine ev_goto C (tgt := 44) (by decide) dX11_gain_32 ?_
        cases hs
        exact ev_lret C rfl rfl (Nat.le_refl _) (Nat.le_refl _) rfl dX11_gain_44
    · replace hs := (if_neg q12).symm.trans hs
      exact Ev.keep [false, false, false] (t_X11_gain_15 C  hs)
end
-- X11_stays
theorem dX11_stays_0 : decode cX11_stays 0 = .ok (.iload_n 1, 1) := by decide +kernel
theorem dX11_stays_1 : decode cX11_stays 1 = .ok (.sipush 999, 3) := by decide +kernel
theorem dX11_stays_4 : decode cX11_stays 4 = .ok (.invokestatic 289, 3) := by decide +kernel
theorem dX11_stays_7 : decode cX11_stays 7 = .ok (.ifCond .ne 34, 3) := by decide +kernel
theorem dX11_stays_10 : decode cX11_stays 10 = .ok (.iload_n 2, 1) := by decide +kernel
theorem dX11_stays_11 : decode cX11_stays 11 = .ok (.sipush 999, 3) := by decide +kernel
theorem dX11_stays_14 : decode cX11_stays 14 = .ok (.invokestatic 289, 3) := by decide +kernel
theorem dX11_stays_17 : decode cX11_stays 17 = .ok (.ifCond .ne 24, 3) := by decide +kernel
theorem dX11_stays_20 : decode cX11_stays 20 = .ok (.iload_n 3, 1) := by decide +kernel
theorem dX11_stays_21 : decode cX11_stays 21 = .ok (.sipush 999, 3) := by decide +kernel
theorem dX11_stays_24 : decode cX11_stays 24 = .ok (.invokestatic 289, 3) := by decide +kernel
theorem dX11_stays_27 : decode cX11_stays 27 = .ok (.ifCond .ne 14, 3) := by decide +kernel
theorem dX11_stays_30 : decode cX11_stays 30 = .ok (.iload 4, 2) := by decide +kernel
theorem dX11_stays_32 : decode cX11_stays 32 = .ok (.sipush 999, 3) := by decide +kernel
theorem dX11_stays_35 : decode cX11_stays 35 = .ok (.invokestatic 289, 3) := by decide +kernel
theorem dX11_stays_38 : decode cX11_stays 38 = .ok (.ifCond .eq 7, 3) := by decide +kernel
theorem dX11_stays_41 : decode cX11_stays 41 = .ok (.iconst 1, 1) := by decide +kernel
theorem dX11_stays_42 : decode cX11_stays 42 = .ok (.goto 4, 3) := by decide +kernel
theorem dX11_stays_45 : decode cX11_stays 45 = .ok (.iconst 0, 1) := by decide +kernel
theorem dX11_stays_46 : decode cX11_stays 46 = .ok (.istore 5, 2) := by decide +kernel
theorem dX11_stays_48 : decode cX11_stays 48 = .ok (.iload 5, 2) := by decide +kernel
theorem dX11_stays_50 : decode cX11_stays 50 = .ok (.ifCond .ne 14, 3) := by decide +kernel
theorem dX11_stays_53 : decode cX11_stays 53 = .ok (.iload_n 1, 1) := by decide +kernel
theorem dX11_stays_54 : decode cX11_stays 54 = .ok (.iload_n 2, 1) := by decide +kernel
theorem dX11_stays_55 : decode cX11_stays 55 = .ok (.ior, 1) := by decide +kernel
theorem dX11_stays_56 : decode cX11_stays 56 = .ok (.iload_n 3, 1) := by decide +kernel
theorem dX11_stays_57 : decode cX11_stays 57 = .ok (.ior, 1) := by decide +kernel
theorem dX11_stays_58 : decode cX11_stays 58 = .ok (.iload 4, 2) := by decide +kernel
theorem dX11_stays_60 : decode cX11_stays 60 = .ok (.ior, 1) := by decide +kernel
theorem dX11_stays_61 : decode cX11_stays 61 = .ok (.ifCond .ne 9, 3) := by decide +kernel
theorem dX11_stays_64 : decode cX11_stays 64 = .ok (.aload_n 0, 1) := by decide +kernel
theorem dX11_stays_65 : decode cX11_stays 65 = .ok (.iconst 2, 1) := by decide +kernel
theorem dX11_stays_66 : decode cX11_stays 66 = .ok (.invokevirtual 105, 3) := by decide +kernel
theorem dX11_stays_69 : decode cX11_stays 69 = .ok (.ireturn, 1) := by decide +kernel
theorem dX11_stays_70 : decode cX11_stays 70 = .ok (.aload_n 0, 1) := by decide +kernel
theorem dX11_stays_71 : decode cX11_stays 71 = .ok (.iconst 0, 1) := by decide +kernel
theorem dX11_stays_72 : decode cX11_stays 72 = .ok (.putfield 167, 3) := by decide +kernel
theorem dX11_stays_75 : decode cX11_stays 75 = .ok (.aload_n 0, 1) := by decide +kernel
theorem dX11_stays_76 : decode cX11_stays 76 = .ok (.getfield 77, 3) := by decide +kernel
theorem dX11_stays_79 : decode cX11_stays 79 = .ok (.iload_n 1, 1) := by decide +kernel
theorem dX11_stays_80 : decode cX11_stays 80 = .ok (.iload_n 2, 1) := by decide +kernel
theorem dX11_stays_81 : decode cX11_stays 81 = .ok (.iload_n 3, 1) := by decide +kernel
theorem dX11_stays_82 : decode cX11_stays 82 = .ok (.iload 4, 2) := by decide +kernel
theorem dX11_stays_84 : decode cX11_stays 84 = .ok (.invokevirtual 308, 3) := by decide +kernel
theorem dX11_stays_87 : decode cX11_stays 87 = .ok (.ifCond .eq 7, 3) := by decide +kernel
theorem dX11_stays_90 : decode cX11_stays 90 = .ok (.iconst 1, 1) := by decide +kernel
theorem dX11_stays_91 : decode cX11_stays 91 = .ok (.goto 4, 3) := by decide +kernel
theorem dX11_stays_94 : decode cX11_stays 94 = .ok (.iconst 0, 1) := by decide +kernel
theorem dX11_stays_95 : decode cX11_stays 95 = .ok (.ireturn, 1) := by decide +kernel
def s_X11_stays_64  (l0 : Nat) (h : aH) : aO :=
  kO h l0 11 (cI (s_X11_refused l0 2 h) fun x66 h66 => some (.inl (some (.int x66)), h66))
def s_X11_stays_46  (l0 : Nat) (l1 : Int32) (l2 : Int32) (l3 : Int32) (l4 : Int32) (s0 : Int32) (h : aH) : aO :=
  if s0 = 0 then (if (((l1 ||| l2) ||| l3) ||| l4) = 0 then (s_X11_stays_64 l0 h) else ((pF h (.ref l0) 11 3 (.int 0)).bind fun h72 => (gO h72 (.ref l0) 11 15).bind fun x76 => kO h72 x76 1 (cI (s_X1_rootsWithin x76 l1 l2 l3 l4 h72) fun x84 h84 => if x84 = 0 then (some (.inl (some (.int 0)), h84)) else (some (.inl (some (.int 1)), h84))))) else (s_X11_stays_64 l0 h)
def s_X11_stays_41  (l0 : Nat) (l1 : Int32) (l2 : Int32) (l3 : Int32) (l4 : Int32) (h : aH) : aO :=
  s_X11_stays_46 l0 l1 l2 l3 l4 1 h
def s_X11_stays (o : Nat) (a1 : Int32) (a2 : Int32) (a3 : Int32) (a4 : Int32) (h : aH) : aO :=
  cI (s_X11_beyond a1 999 h) fun x4 h4 => if x4 = 0 then (cI (s_X11_beyond a2 999 h4) fun x14 h14 => if x14 = 0 then (cI (s_X11_beyond a3 999 h14) fun x24 h24 => if x24 = 0 then (cI (s_X11_beyond a4 999 h24) fun x35 h35 => if x35 = 0 then (s_X11_stays_46 o a1 a2 a3 a4 0 h35) else (s_X11_stays_41 o a1 a2 a3 a4 h35)) else (s_X11_stays_41 o a1 a2 a3 a4 h24)) else (s_X11_stays_41 o a1 a2 a3 a4 h14)) else (s_X11_stays_41 o a1 a2 a3 a4 h4)
section
variable {p : Program} {l : Launch} {e : Env} {s : State} {m : MethodId} {args : Array Value} {below : List Frame} {meth : Method} {c : Code} {D : va_G} {B0 : Nat} {X : Nat → Nat} {ws0 : va_W} {r : aR} {h' : aH} {mc ms : Nat}
theorem t_X11_stays_64 (C : Cx p l s m args meth c B0 X RX11 "stays" cX11_stays 6 (some .int) [])   {l0 : Nat} {h : aH} (hs : s_X11_stays_64  l0 h = some (r, h')) : Ev p l e { frames := 2, cells := mc, slots := ms, locals := 87 } s m args below meth c D B0 X ws0 r h' mc ms 6 mc ms 64 [some (.ref l0), none, none, none, none, none] [] h := by
  unfold s_X11_stays_64 at hs
  refine ev_aload_n C (x := .ref l0) rfl trivial dX11_stays_64 ?_
  refine ev_iconst C (v := 2) dX11_stays_65 (by decide) ?_
  obtain ⟨eo66, hs⟩ := kO_at hs
  obtain ⟨x66, h66, e66, hs⟩ := cI_at hs
  refine ev_callV C (T_X11_refused _ _ _ _ _ e66) (ci := 11) rfl eo66 wc_X11_refused wm_X11_105 wi_X11_refused ws_X11_refused wz_X11 hy_X11_refused ⟨(Nat.le_of_ble_eq_true rfl), (Nat.le_of_ble_eq_true rfl)⟩ ⟨(Nat.le_refl _), (Nat.le_refl _)⟩ (Nat.le_of_ble_eq_true rfl) rfl dX11_stays_66 ?_
  cases hs
  exact ev_iret C rfl rfl (Nat.le_refl _) (Nat.le_refl _) rfl dX11_stays_69
theorem t_X11_stays_46 (C : Cx p l s m args meth c B0 X RX11 "stays" cX11_stays 6 (some .int) [])   {l0 : Nat} {l1 : Int32} {l2 : Int32} {l3 : Int32} {l4 : Int32} {s0 : Int32} {h : aH} (hs : s_X11_stays_46  l0 l1 l2 l3 l4 s0 h = some (r, h')) : Ev p l e { frames := 2, cells := mc, slots := ms, locals := 87 } s m args below meth c D B0 X ws0 r h' mc ms 6 mc ms 46 [some (.ref l0), some (.int l1), some (.int l2), some (.int l3), some (.int l4), none] [.int s0] h := by
  unfold s_X11_stays_46 at hs
  refine ev_istore C (by decide) dX11_stays_46 ?_
  refine ev_iload C rfl dX11_stays_48 ?_
  refine ev_if_ne C (tgt := 64) (by decide) dX11_stays_50 (fun q50 => ?_) (fun q50 => ?_)
  · replace hs := (if_neg q50).symm.trans hs
    exact Ev.keep [true, false, false, false, false, false] (t_X11_stays_64 C  hs)
  · replace hs := (if_pos q50).symm.trans hs
    refine ev_iload_n C rfl dX11_stays_53 ?_
    refine ev_iload_n C rfl dX11_stays_54 ?_
    refine ev_ior C dX11_stays_55 ?_
    refine ev_iload_n C rfl dX11_stays_56 ?_
    refine ev_ior C dX11_stays_57 ?_
    refine ev_iload C rfl dX11_stays_58 ?_
    refine ev_ior C dX11_stays_60 ?_
    refine ev_if_ne C (tgt := 70) (by decide) dX11_stays_61 (fun q61 => ?_) (fun q61 => ?_)
    · replace hs := (if_neg q61).symm.trans hs
      refine ev_aload_n C (x := .ref l0) rfl trivial dX11_stays_70 ?_
      refine ev_iconst C (v := 0) dX11_stays_71 (by decide) ?_
      obtain ⟨h72, e72, hs⟩ := aB hs
      refine ev_put C (ci := 11) (k := 3) rfl wu_11 (by decide) tyX11 tyX11_ok nmX11 wf_X11_167 rfl trivial e72 dX11_stays_72 ?_
      refine ev_aload_n C (x := .ref l0) rfl trivial dX11_stays_75 ?_
      obtain ⟨x76, e76, hs⟩ := aB hs
      refine ev_get C (ci := 11) (k := 15) rfl wu_11 (by decide) wf_X11_77 (gO_F e76) dX11_stays_76 ?_
      refine ev_iload_n C rfl dX11_stays_79 ?_
      refine ev_iload_n C rfl dX11_stays_80 ?_
      refine ev_iload_n C rfl dX11_stays_81 ?_
      refine ev_iload C rfl dX11_stays_82 ?_
      obtain ⟨eo84, hs⟩ := kO_at hs
      obtain ⟨x84, h84, e84, hs⟩ := cI_at hs
      refine ev_callVN C (T_X1_rootsWithin _ _ _ _ _ _ _ _ e84) (ci := 1) rfl eo84 wc_X1_rootsWithin wn_X11_308 wi_X1_rootsWithin ws_X1_rootsWithin wz_X1 hy_X1_rootsWithin ⟨(Nat.le_of_ble_eq_true rfl), (Nat.le_of_ble_eq_true rfl)⟩ ⟨(Nat.le_refl _), (Nat.le_refl _)⟩ (Nat.le_of_ble_eq_true rfl) rfl dX11_stays_84 ?_
      refine ev_if_eq C (tgt := 94) (by decide) dX11_stays_87 (fun q87 => ?_) (fun q87 => ?_)
      · replace hs := (if_pos q87).symm.trans hs
        refine ev_iconst C (v := 0) dX11_stays_94 (by decide) ?_
        cases hs
        exact ev_iret C rfl rfl (Nat.le_refl _) (Nat.le_refl _) rfl dX11_stays_95
      · replace hs := (if_neg q87).symm.trans hs
        refine ev_iconst C (v := 1) dX11_stays_90 (by decide) ?_
        refine ev_goto C (tgt := 95) (by decide) dX11_stays_91 ?_
        cases hs
        exact ev_iret C rfl rfl (Nat.le_refl _) (Nat.le_refl _) rfl dX11_stays_95
    · replace hs := (if_pos q61).symm.trans hs
      exact Ev.keep [true, false, false, false, false, false] (t_X11_stays_64 C  hs)
theorem t_X11_stays_41 (C : Cx p l s m args meth c B0 X RX11 "stays" cX11_stays 6 (some .int) [])   {l0 : Nat} {l1 : Int32} {l2 : Int32} {l3 : Int32} {l4 : Int32} {h : aH} (hs : s_X11_stays_41  l0 l1 l2 l3 l4 h = some (r, h')) : Ev p l e { frames := 2, cells := mc, slots := ms, locals := 87 } s m args below meth c D B0 X ws0 r h' mc ms 6 mc ms 41 [some (.ref l0), some (.int l1), some (.int l2), some (.int l3), some (.int l4), none] [] h := by
  unfold s_X11_stays_41 at hs
  refine ev_iconst C (v := 1) dX11_stays_41 (by decide) ?_
  refine ev_goto C (tgt := 46) (by decide) dX11_stays_42 ?_
  exact (t_X11_stays_46 C  hs)
theorem hy_X11_stays : yX11_stays.cls ≠ "java/lang/invoke/MethodHandle" ∧ yX11_stays.cls ≠ "java/lang/invoke/VarHandle" ∧ (parseMethodDescriptor yX11_stays.desc).map (fun d => d.parameters.length) = some 4 := by decide +kernel
theorem T_X11_stays (o : Nat) (a1 : Int32) (a2 : Int32) (a3 : Int32) (a4 : Int32) (h : aH) (r : aR) (h' : aH) (hs : s_X11_stays o a1 a2 a3 a4 h = some (r, h')) : Mt yX11_stays (Cond.code yX11_stays cX11_stays 6 (some .int) :: aTB) 2 87 0 0 [.ref o, .int a1, .int a2, .int a3, .int a4] h r h' := by
  unfold s_X11_stays at hs
  refine Mt_of (k := 1) (by decide) rfl (fun p l e s m args below meth c D B0 X ws0 C => ?_)
  show Ev p l e { frames := 2, cells := 0, slots := 0, locals := 87 } s m args below meth c D B0 X ws0 r h' 0 0 6 0 0 0 [some (.ref o), some (.int a1), some (.int a2), some (.int a3), some (.int a4), none] [] h
  refine ev_iload_n C rfl dX11_stays_0 ?_
  refine ev_sipush C (v := 999) dX11_stays_1 (by decide) ?_
  obtain ⟨x4, h4, e4, hs⟩ := cI_at hs
  refine ev_callS C (T_X11_beyond _ _ _ _ _ e4) wc_X11_beyond wm_X11_289 wt_X11_beyond wz_X11 hy_X11_beyond ⟨(Nat.le_of_ble_eq_true rfl), (Nat.le_of_ble_eq_true rfl)⟩ ⟨(Nat.le_refl _), (Nat.le_refl _)⟩ (Nat.le_of_ble_eq_true rfl) rfl dX11_stays_4 ?_
  refine ev_if_ne C (tgt := 41) (by decide) dX11_stays_7 (fun q7 => ?_) (fun q7 => ?_)
  · replace hs := (if_neg q7).symm.trans hs
    exact (t_X11_stays_41 C  hs)
  · replace hs := (if_pos q7).symm.trans hs
    refine ev_iload_n C rfl dX11_stays_10 ?_
    refine ev_sipush C (v := 999) dX11_stays_11 (by decide) ?_
    obtain ⟨x14, h14, e14, hs⟩ := cI_at hs
    refine ev_callS C (T_X11_beyond _ _ _ _ _ e14) wc_X11_beyond wm_X11_289 wt_X11_beyond wz_X11 hy_X11_beyond ⟨(Nat.le_of_ble_eq_true rfl), (Nat.le_of_ble_eq_true rfl)⟩ ⟨(Nat.le_refl _), (Nat.le_refl _)⟩ (Nat.le_of_ble_eq_true rfl) rfl dX11_stays_14 ?_
    refine ev_if_ne C (tgt := 41) (by decide) dX11_stays_17 (fun q17 => ?_) (fun q17 => ?_)
    · replace hs := (if_neg q17).symm.trans hs
      exact (t_X11_stays_41 C  hs)
    · replace hs := (if_pos q17).symm.trans hs
      refine ev_iload_n C rfl dX11_stays_20 ?_
      refine ev_sipush C (v := 999) dX11_stays_21 (by decide) ?_
      obtain ⟨x24, h24, e24, hs⟩ := cI_at hs
      refine ev_callS C (T_X11_beyond _ _ _ _ _ e24) wc_X11_beyond wm_X11_289 wt_X11_beyond wz_X11 hy_X11_beyond ⟨(Nat.le_of_ble_eq_true rfl), (Nat.le_of_ble_eq_true rfl)⟩ ⟨(Nat.le_refl _), (Nat.le_refl _)⟩ (Nat.le_of_ble_eq_true rfl) rfl dX11_stays_24 ?_
      refine ev_if_ne C (tgt := 41) (by decide) dX11_stays_27 (fun q27 => ?_) (fun q27 => ?_)
      · replace hs := (if_neg q27).symm.trans hs
        exact (t_X11_stays_41 C  hs)
      · replace hs := (if_pos q27).symm.trans hs
        refine ev_iload C rfl dX11_stays_30 ?_
        refine ev_sipush C (v := 999) dX11_stays_32 (by decide) ?_
        obtain ⟨x35, h35, e35, hs⟩ := cI_at hs
        refine ev_callS C (T_X11_beyond _ _ _ _ _ e35) wc_X11_beyond wm_X11_289 wt_X11_beyond wz_X11 hy_X11_beyond ⟨(Nat.le_of_ble_eq_true rfl), (Nat.le_of_ble_eq_true rfl)⟩ ⟨(Nat.le_refl _), (Nat.le_refl _)⟩ (Nat.le_of_ble_eq_true rfl) rfl dX11_stays_35 ?_
        refine ev_if_eq C (tgt := 45) (by decide) dX11_stays_38 (fun q38 => ?_) (fun q38 => ?_)
        · replace hs := (if_pos q38).symm.trans hs
          refine ev_iconst C (v := 0) dX11_stays_45 (by decide) ?_
          exact (t_X11_stays_46 C  hs)
        · replace hs := (if_neg q38).symm.trans hs
          exact (t_X11_stays_41 C  hs)
end
-- X11_tick
theorem dX11_tick_0 : decode cX11_tick 0 = .ok (.aload_n 0, 1) := by decide +kernel
theorem dX11_tick_1 : decode cX11_tick 1 = .ok (.iload_n 1, 1) := by decide +kernel
theorem dX11_tick_2 : decode cX11_tick 2 = .ok (.invokevirtual 210, 3) := by decide +kernel
theorem dX11_tick_5 : decode cX11_tick 5 = .ok (.ifCond .ne 9, 3) := by decide +kernel
theorem dX11_tick_8 : decode cX11_tick 8 = .ok (.aload_n 0, 1) := by decide +kernel
theorem dX11_tick_9 : decode cX11_tick 9 = .ok (.iconst 1, 1) := by decide +kernel
theorem dX11_tick_10 : decode cX11_tick 10 = .ok (.invokevirtual 105, 3) := by decide +kernel
theorem dX11_tick_13 : decode cX11_tick 13 = .ok (.ireturn, 1) := by decide +kernel
theorem dX11_tick_14 : decode cX11_tick 14 = .ok (.aload_n 0, 1) := by decide +kernel
theorem dX11_tick_15 : decode cX11_tick 15 = .ok (.getfield 84, 3) := by decide +kernel
theorem dX11_tick_18 : decode cX11_tick 18 = .ok (.getfield 189, 3) := by decide +kernel
theorem dX11_tick_21 : decode cX11_tick 21 = .ok (.bipush 30, 2) := by decide +kernel
theorem dX11_tick_23 : decode cX11_tick 23 = .ok (.if_icmp .lt 9, 3) := by decide +kernel
theorem dX11_tick_26 : decode cX11_tick 26 = .ok (.aload_n 0, 1) := by decide +kernel
theorem dX11_tick_27 : decode cX11_tick 27 = .ok (.iconst 3, 1) := by decide +kernel
theorem dX11_tick_28 : decode cX11_tick 28 = .ok (.invokevirtual 105, 3) := by decide +kernel
theorem dX11_tick_31 : decode cX11_tick 31 = .ok (.ireturn, 1) := by decide +kernel
theorem dX11_tick_32 : decode cX11_tick 32 = .ok (.aload_n 0, 1) := by decide +kernel
theorem dX11_tick_33 : decode cX11_tick 33 = .ok (.iconst 0, 1) := by decide +kernel
theorem dX11_tick_34 : decode cX11_tick 34 = .ok (.putfield 167, 3) := by decide +kernel
theorem dX11_tick_37 : decode cX11_tick 37 = .ok (.aload_n 0, 1) := by decide +kernel
theorem dX11_tick_38 : decode cX11_tick 38 = .ok (.getfield 84, 3) := by decide +kernel
theorem dX11_tick_41 : decode cX11_tick 41 = .ok (.iload_n 1, 1) := by decide +kernel
theorem dX11_tick_42 : decode cX11_tick 42 = .ok (.invokevirtual 312, 3) := by decide +kernel
theorem dX11_tick_45 : decode cX11_tick 45 = .ok (.ireturn, 1) := by decide +kernel
def s_X11_tick (o : Nat) (a1 : Int32) (h : aH) : aO :=
  kO h o 11 (cI (s_X11_hasPush o a1 h) fun x2 h2 => if x2 = 0 then (kO h2 o 11 (cI (s_X11_refused o 1 h2) fun x10 h10 => some (.inl (some (.int x10)), h10))) else ((gO h2 (.ref o) 11 16).bind fun x15 => (gI h2 (.ref x15) 9 4).bind fun x18 => if x18 < 30 then ((pF h2 (.ref o) 11 3 (.int 0)).bind fun h34 => (gO h34 (.ref o) 11 16).bind fun x38 => kO h34 x38 9 (cI (s_X9_take x38 a1 h34) fun x42 h42 => some (.inl (some (.int x42)), h42))) else (kO h2 o 11 (cI (s_X11_refused o 3 h2) fun x28 h28 => some (.inl (some (.int x28)), h28)))))
section
variable {p : Program} {l : Launch} {e : Env} {s : State} {m : MethodId} {args : Array Value} {below : List Frame} {meth : Method} {c : Code} {D : va_G} {B0 : Nat} {X : Nat → Nat} {ws0 : va_W} {r : aR} {h' : aH} {mc ms : Nat}
theorem hy_X11_tick : yX11_tick.cls ≠ "java/lang/invoke/MethodHandle" ∧ yX11_tick.cls ≠ "java/lang/invoke/VarHandle" ∧ (parseMethodDescriptor yX11_tick.desc).map (fun d => d.parameters.length) = some 1 := by decide +kernel
theorem T_X11_tick (o : Nat) (a1 : Int32) (h : aH) (r : aR) (h' : aH) (hs : s_X11_tick o a1 h = some (r, h')) : Mt yX11_tick (Cond.code yX11_tick cX11_tick 2 (some .int) :: aTB) 1 21 0 0 [.ref o, .int a1] h r h' := by
  unfold s_X11_tick at hs
  refine Mt_of (k := 0) (by decide) rfl (fun p l e s m args below meth c D B0 X ws0 C => ?_)
  show Ev p l e { frames := 1, cells := 0, slots := 0, locals := 21 } s m args below meth c D B0 X ws0 r h' 0 0 2 0 0 0 [some (.ref o), some (.int a1)] [] h
  refine ev_aload_n C (x := .ref o) rfl trivial dX11_tick_0 ?_
  refine ev_iload_n C rfl dX11_tick_1 ?_
  obtain ⟨eo2, hs⟩ := kO_at hs
  obtain ⟨x2, h2, e2, hs⟩ := cI_at hs
  refine ev_callV C (T_X11_hasPush _ _ _ _ _ e2) (ci := 11) rfl eo2 wc_X11_hasPush wm_X11_210 wi_X11_hasPush ws_X11_hasPush wz_X11 hy_X11_hasPush ⟨(Nat.le_of_ble_eq_true rfl), (Nat.le_of_ble_eq_true rfl)⟩ ⟨(Nat.le_refl _), (Nat.le_refl _)⟩ (Nat.le_of_ble_eq_true rfl) rfl dX11_tick_2 ?_
  refine ev_if_ne C (tgt := 14) (by decide) dX11_tick_5 (fun q5 => ?_) (fun q5 => ?_)
  · replace hs := (if_neg q5).symm.trans hs
    refine ev_aload_n C (x := .ref o) rfl trivial dX11_tick_14 ?_
    obtain ⟨x15, e15, hs⟩ := aB hs
    refine ev_get C (ci := 11) (k := 16) rfl wu_11 (by decide) wf_X11_84 (gO_F e15) dX11_tick_15 ?_
    obtain ⟨x18, e18, hs⟩ := aB hs
    refine ev_getN C (ci := 9) (k := 4) rfl wu_9 (by decide) wg_X11_189 (gI_F e18) dX11_tick_18 ?_
    refine ev_bipush C (v := 30) dX11_tick_21 (by decide) ?_
    refine ev_icmp_lt C (tgt := 32) (by decide) dX11_tick_23 (fun q23 => ?_) (fun q23 => ?_)
    · replace hs := (if_pos q23).symm.trans hs
      refine ev_aload_n C (x := .ref o) rfl trivial dX11_tick_32 ?_
      refine ev_iconst C (v := 0) dX11_tick_33 (by decide) ?_
      obtain ⟨h34, e34, hs⟩ := aB hs
      refine ev_put C (ci := 11) (k := 3) rfl wu_11 (by decide) tyX11 tyX11_ok nmX11 wf_X11_167 rfl trivial e34 dX11_tick_34 ?_
      refine ev_aload_n C (x := .ref o) rfl trivial dX11_tick_37 ?_
      obtain ⟨x38, e38, hs⟩ := aB hs
      refine ev_get C (ci := 11) (k := 16) rfl wu_11 (by decide) wf_X11_84 (gO_F e38) dX11_tick_38 ?_
      refine ev_iload_n C rfl dX11_tick_41 ?_
      obtain ⟨eo42, hs⟩ := kO_at hs
      obtain ⟨x42, h42, e42, hs⟩ := cI_at hs
      refine ev_callVN C (T_X9_take _ _ _ _ _ e42) (ci := 9) rfl eo42 wc_X9_take wn_X11_312 wi_X9_take ws_X9_take wz_X9 hy_X9_take ⟨(Nat.le_of_ble_eq_true rfl), (Nat.le_of_ble_eq_true rfl)⟩ ⟨(Nat.le_refl _), (Nat.le_refl _)⟩ (Nat.le_of_ble_eq_true rfl) rfl dX11_tick_42 ?_
      cases hs
      exact ev_iret C rfl rfl (Nat.le_refl _) (Nat.le_refl _) rfl dX11_tick_45
    · replace hs := (if_neg q23).symm.trans hs
      refine ev_aload_n C (x := .ref o) rfl trivial dX11_tick_26 ?_
      refine ev_iconst C (v := 3) dX11_tick_27 (by decide) ?_
      obtain ⟨eo28, hs⟩ := kO_at hs
      obtain ⟨x28, h28, e28, hs⟩ := cI_at hs
      refine ev_callV C (T_X11_refused _ _ _ _ _ e28) (ci := 11) rfl eo28 wc_X11_refused wm_X11_105 wi_X11_refused ws_X11_refused wz_X11 hy_X11_refused ⟨(Nat.le_of_ble_eq_true rfl), (Nat.le_of_ble_eq_true rfl)⟩ ⟨(Nat.le_refl _), (Nat.le_refl _)⟩ (Nat.le_of_ble_eq_true rfl) rfl dX11_tick_28 ?_
      cases hs
      exact ev_iret C rfl rfl (Nat.le_refl _) (Nat.le_refl _) rfl dX11_tick_31
  · replace hs := (if_pos q5).symm.trans hs
    refine ev_aload_n C (x := .ref o) rfl trivial dX11_tick_8 ?_
    refine ev_iconst C (v := 1) dX11_tick_9 (by decide) ?_
    obtain ⟨eo10, hs⟩ := kO_at hs
    obtain ⟨x10, h10, e10, hs⟩ := cI_at hs
    refine ev_callV C (T_X11_refused _ _ _ _ _ e10) (ci := 11) rfl eo10 wc_X11_refused wm_X11_105 wi_X11_refused ws_X11_refused wz_X11 hy_X11_refused ⟨(Nat.le_of_ble_eq_true rfl), (Nat.le_of_ble_eq_true rfl)⟩ ⟨(Nat.le_refl _), (Nat.le_refl _)⟩ (Nat.le_of_ble_eq_true rfl) rfl dX11_tick_10 ?_
    cases hs
    exact ev_iret C rfl rfl (Nat.le_refl _) (Nat.le_refl _) rfl dX11_tick_13
end
-- X11_told
theorem dX11_told_0 : decode cX11_told 0 = .ok (.aload_n 0, 1) := by decide +kernel
theorem dX11_told_1 : decode cX11_told 1 = .ok (.getfield 120, 3) := by decide +kernel
theorem dX11_told_4 : decode cX11_told 4 = .ok (.ifCond .eq 39, 3) := by decide +kernel
theorem dX11_told_7 : decode cX11_told 7 = .ok (.iload_n 1, 1) := by decide +kernel
theorem dX11_told_8 : decode cX11_told 8 = .ok (.ifCond .lt 35, 3) := by decide +kernel
theorem dX11_told_11 : decode cX11_told 11 = .ok (.iload_n 1, 1) := by decide +kernel
theorem dX11_told_12 : decode cX11_told 12 = .ok (.aload_n 0, 1) := by decide +kernel
theorem dX11_told_13 : decode cX11_told 13 = .ok (.getfield 84, 3) := by decide +kernel
theorem dX11_told_16 : decode cX11_told 16 = .ok (.getfield 189, 3) := by decide +kernel
theorem dX11_told_19 : decode cX11_told 19 = .ok (.if_icmp .gt 24, 3) := by decide +kernel
theorem dX11_told_22 : decode cX11_told 22 = .ok (.iload_n 2, 1) := by decide +kernel
theorem dX11_told_23 : decode cX11_told 23 = .ok (.ifCond .lt 20, 3) := by decide +kernel
theorem dX11_told_26 : decode cX11_told 26 = .ok (.iload_n 2, 1) := by decide +kernel
theorem dX11_told_27 : decode cX11_told 27 = .ok (.aload_n 0, 1) := by decide +kernel
theorem dX11_told_28 : decode cX11_told 28 = .ok (.getfield 19, 3) := by decide +kernel
theorem dX11_told_31 : decode cX11_told 31 = .ok (.getfield 173, 3) := by decide +kernel
theorem dX11_told_34 : decode cX11_told 34 = .ok (.iconst 4, 1) := by decide +kernel
theorem dX11_told_35 : decode cX11_told 35 = .ok (.iaload, 1) := by decide +kernel
theorem dX11_told_36 : decode cX11_told 36 = .ok (.if_icmp .ge 7, 3) := by decide +kernel
theorem dX11_told_39 : decode cX11_told 39 = .ok (.iconst 1, 1) := by decide +kernel
theorem dX11_told_40 : decode cX11_told 40 = .ok (.goto 4, 3) := by decide +kernel
theorem dX11_told_43 : decode cX11_told 43 = .ok (.iconst 0, 1) := by decide +kernel
theorem dX11_told_44 : decode cX11_told 44 = .ok (.istore 4, 2) := by decide +kernel
theorem dX11_told_46 : decode cX11_told 46 = .ok (.iload 4, 2) := by decide +kernel
theorem dX11_told_48 : decode cX11_told 48 = .ok (.ifCond .ne 10, 3) := by decide +kernel
theorem dX11_told_51 : decode cX11_told 51 = .ok (.aload_n 0, 1) := by decide +kernel
theorem dX11_told_52 : decode cX11_told 52 = .ok (.iconst 1, 1) := by decide +kernel
theorem dX11_told_53 : decode cX11_told 53 = .ok (.putfield 167, 3) := by decide +kernel
theorem dX11_told_56 : decode cX11_told 56 = .ok (.iconst 0, 1) := by decide +kernel
theorem dX11_told_57 : decode cX11_told 57 = .ok (.ireturn, 1) := by decide +kernel
theorem dX11_told_58 : decode cX11_told 58 = .ok (.aload_n 0, 1) := by decide +kernel
theorem dX11_told_59 : decode cX11_told 59 = .ok (.getfield 84, 3) := by decide +kernel
theorem dX11_told_62 : decode cX11_told 62 = .ok (.iload_n 1, 1) := by decide +kernel
theorem dX11_told_63 : decode cX11_told 63 = .ok (.iload_n 2, 1) := by decide +kernel
theorem dX11_told_64 : decode cX11_told 64 = .ok (.invokevirtual 314, 3) := by decide +kernel
theorem dX11_told_67 : decode cX11_told 67 = .ok (.ifCond .eq 10, 3) := by decide +kernel
theorem dX11_told_70 : decode cX11_told 70 = .ok (.aload_n 0, 1) := by decide +kernel
theorem dX11_told_71 : decode cX11_told 71 = .ok (.iconst 5, 1) := by decide +kernel
theorem dX11_told_72 : decode cX11_told 72 = .ok (.putfield 167, 3) := by decide +kernel
theorem dX11_told_75 : decode cX11_told 75 = .ok (.iconst 0, 1) := by decide +kernel
theorem dX11_told_76 : decode cX11_told 76 = .ok (.ireturn, 1) := by decide +kernel
theorem dX11_told_77 : decode cX11_told 77 = .ok (.aload_n 0, 1) := by decide +kernel
theorem dX11_told_78 : decode cX11_told 78 = .ok (.iconst 0, 1) := by decide +kernel
theorem dX11_told_79 : decode cX11_told 79 = .ok (.putfield 167, 3) := by decide +kernel
theorem dX11_told_82 : decode cX11_told 82 = .ok (.aload_n 0, 1) := by decide +kernel
theorem dX11_told_83 : decode cX11_told 83 = .ok (.getfield 84, 3) := by decide +kernel
theorem dX11_told_86 : decode cX11_told 86 = .ok (.iload_n 1, 1) := by decide +kernel
theorem dX11_told_87 : decode cX11_told 87 = .ok (.iload_n 2, 1) := by decide +kernel
theorem dX11_told_88 : decode cX11_told 88 = .ok (.iload_n 3, 1) := by decide +kernel
theorem dX11_told_89 : decode cX11_told 89 = .ok (.invokevirtual 317, 3) := by decide +kernel
theorem dX11_told_92 : decode cX11_told 92 = .ok (.iconst 1, 1) := by decide +kernel
theorem dX11_told_93 : decode cX11_told 93 = .ok (.ireturn, 1) := by decide +kernel
def s_X11_told_44  (l0 : Nat) (l1 : Int32) (l2 : Int32) (l3 : Int32) (s0 : Int32) (h : aH) : aO :=
  if s0 = 0 then ((pF h (.ref l0) 11 3 (.int 1)).bind fun h53 => rtZ 0 h53) else ((gO h (.ref l0) 11 16).bind fun x59 => kO h x59 9 (cI (s_X9_hasSight x59 l1 l2 h) fun x64 h64 => if x64 = 0 then ((pF h64 (.ref l0) 11 3 (.int 0)).bind fun h79 => (gO h79 (.ref l0) 11 16).bind fun x83 => kO h79 x83 9 (cN (s_X9_hear x83 l1 l2 l3 h79) fun h89 => rtZ 1 h89)) else ((pF h64 (.ref l0) 11 3 (.int 5)).bind fun h72 => rtZ 0 h72)))
def s_X11_told_43  (l0 : Nat) (l1 : Int32) (l2 : Int32) (l3 : Int32) (h : aH) : aO :=
  s_X11_told_44 l0 l1 l2 l3 0 h
def s_X11_told (o : Nat) (a1 : Int32) (a2 : Int32) (a3 : Int32) (h : aH) : aO :=
  (gI h (.ref o) 11 2).bind fun x1 => if x1 = 0 then (s_X11_told_43 o a1 a2 a3 h) else (if a1 < 0 then (s_X11_told_43 o a1 a2 a3 h) else ((gO h (.ref o) 11 16).bind fun x13 => (gI h (.ref x13) 9 4).bind fun x16 => if x16 < a1 then (s_X11_told_43 o a1 a2 a3 h) else (if a2 < 0 then (s_X11_told_43 o a1 a2 a3 h) else ((gO h (.ref o) 11 7).bind fun x28 => (gO h (.ref x28) 2 0).bind fun x31 => (ldI .int h (.ref x31) 4).bind fun x35 => if x35 ≤ a2 then (s_X11_told_43 o a1 a2 a3 h) else (s_X11_told_44 o a1 a2 a3 1 h)))))
section
variable {p : Program} {l : Launch} {e : Env} {s : State} {m : MethodId} {args : Array Value} {below : List Frame} {meth : Method} {c : Code} {D : va_G} {B0 : Nat} {X : Nat → Nat} {ws0 : va_W} {r : aR} {h' : aH} {mc ms : Nat}
theorem t_X11_told_44 (C : Cx p l s m args meth c B0 X RX11 "told" cX11_told 5 (some .boolean) [])   {l0 : Nat} {l1 : Int32} {l2 : Int32} {l3 : Int32} {s0 : Int32} {h : aH} (hs : s_X11_told_44  l0 l1 l2 l3 s0 h = some (r, h')) : Ev p l e { frames := 2, cells := mc, slots := ms, locals := 47 } s m args below meth c D B0 X ws0 r h' mc ms 5 mc ms 44 [some (.ref l0), some (.int l1), some (.int l2), some (.int l3), none] [.int s0] h := by
  unfold s_X11_told_44 at hs
  refine ev_istore C (by decide) dX11_told_44 ?_
  refine ev_iload C rfl dX11_told_46 ?_
  refine ev_if_ne C (tgt := 58) (by decide) dX11_told_48 (fun q48 => ?_) (fun q48 => ?_)
  · replace hs := (if_neg q48).symm.trans hs
    refine ev_aload_n C (x := .ref l0) rfl trivial dX11_told_58 ?_
    obtain ⟨x59, e59, hs⟩ := aB hs
    refine ev_get C (ci := 11) (k := 16) rfl wu_11 (by decide) wf_X11_84 (gO_F e59) dX11_told_59 ?_
    refine ev_iload_n C rfl dX11_told_62 ?_
    refine ev_iload_n C rfl dX11_told_63 ?_
    obtain ⟨eo64, hs⟩ := kO_at hs
    obtain ⟨x64, h64, e64, hs⟩ := cI_at hs
    refine ev_callVN C (T_X9_hasSight _ _ _ _ _ _ e64) (ci := 9) rfl eo64 wc_X9_hasSight wn_X11_314 wi_X9_hasSight ws_X9_hasSight wz_X9 hy_X9_hasSight ⟨(Nat.le_of_ble_eq_true rfl), (Nat.le_of_ble_eq_true rfl)⟩ ⟨(Nat.le_refl _), (Nat.le_refl _)⟩ (Nat.le_of_ble_eq_true rfl) rfl dX11_told_64 ?_
    refine ev_if_eq C (tgt := 77) (by decide) dX11_told_67 (fun q67 => ?_) (fun q67 => ?_)
    · replace hs := (if_pos q67).symm.trans hs
      refine ev_aload_n C (x := .ref l0) rfl trivial dX11_told_77 ?_
      refine ev_iconst C (v := 0) dX11_told_78 (by decide) ?_
      obtain ⟨h79, e79, hs⟩ := aB hs
      refine ev_put C (ci := 11) (k := 3) rfl wu_11 (by decide) tyX11 tyX11_ok nmX11 wf_X11_167 rfl trivial e79 dX11_told_79 ?_
      refine ev_aload_n C (x := .ref l0) rfl trivial dX11_told_82 ?_
      obtain ⟨x83, e83, hs⟩ := aB hs
      refine ev_get C (ci := 11) (k := 16) rfl wu_11 (by decide) wf_X11_84 (gO_F e83) dX11_told_83 ?_
      refine ev_iload_n C rfl dX11_told_86 ?_
      refine ev_iload_n C rfl dX11_told_87 ?_
      refine ev_iload_n C rfl dX11_told_88 ?_
      obtain ⟨eo89, hs⟩ := kO_at hs
      obtain ⟨h89, e89, hs⟩ := cN_at hs
      refine ev_callVN C (T_X9_hear _ _ _ _ _ _ _ e89) (ci := 9) rfl eo89 wc_X9_hear wn_X11_317 wi_X9_hear ws_X9_hear wz_X9 hy_X9_hear ⟨(Nat.le_of_ble_eq_true rfl), (Nat.le_of_ble_eq_true rfl)⟩ ⟨(Nat.le_refl _), (Nat.le_refl _)⟩ (Nat.le_of_ble_eq_true rfl) rfl dX11_told_89 ?_
      refine ev_iconst C (v := 1) dX11_told_92 (by decide) ?_
      obtain ⟨hz, rfl, rfl⟩ := rtZ_at hs
      exact ev_zret C rfl hz rfl (Nat.le_refl _) (Nat.le_refl _) rfl dX11_told_93
    · replace hs := (if_neg q67).symm.trans hs
      refine ev_aload_n C (x := .ref l0) rfl trivial dX11_told_70 ?_
      refine ev_iconst C (v := 5) dX11_told_71 (by decide) ?_
      obtain ⟨h72, e72, hs⟩ := aB hs
      refine ev_put C (ci := 11) (k := 3) rfl wu_11 (by decide) tyX11 tyX11_ok nmX11 wf_X11_167 rfl trivial e72 dX11_told_72 ?_
      refine ev_iconst C (v := 0) dX11_told_75 (by decide) ?_
      obtain ⟨hz, rfl, rfl⟩ := rtZ_at hs
      exact ev_zret C rfl hz rfl (Nat.le_refl _) (Nat.le_refl _) rfl dX11_told_76
  · replace hs := (if_pos q48).symm.trans hs
    refine ev_aload_n C (x := .ref l0) rfl trivial dX11_told_51 ?_
    refine ev_iconst C (v := 1) dX11_told_52 (by decide) ?_
    obtain ⟨h53, e53, hs⟩ := aB hs
    refine ev_put C (ci := 11) (k := 3) rfl wu_11 (by decide) tyX11 tyX11_ok nmX11 wf_X11_167 rfl trivial e53 dX11_told_53 ?_
    refine ev_iconst C (v := 0) dX11_told_56 (by decide) ?_
    obtain ⟨hz, rfl, rfl⟩ := rtZ_at hs
    exact ev_zret C rfl hz rfl (Nat.le_refl _) (Nat.le_refl _) rfl dX11_told_57
theorem t_X11_told_43 (C : Cx p l s m args meth c B0 X RX11 "told" cX11_told 5 (some .boolean) [])   {l0 : Nat} {l1 : Int32} {l2 : Int32} {l3 : Int32} {h : aH} (hs : s_X11_told_43  l0 l1 l2 l3 h = some (r, h')) : Ev p l e { frames := 2, cells := mc, slots := ms, locals := 47 } s m args below meth c D B0 X ws0 r h' mc ms 5 mc ms 43 [some (.ref l0), some (.int l1), some (.int l2), some (.int l3), none] [] h := by
  unfold s_X11_told_43 at hs
  refine ev_iconst C (v := 0) dX11_told_43 (by decide) ?_
  exact (t_X11_told_44 C  hs)
theorem hy_X11_told : yX11_told.cls ≠ "java/lang/invoke/MethodHandle" ∧ yX11_told.cls ≠ "java/lang/invoke/VarHandle" ∧ (parseMethodDescriptor yX11_told.desc).map (fun d => d.parameters.length) = some 3 := by decide +kernel
theorem T_X11_told (o : Nat) (a1 : Int32) (a2 : Int32) (a3 : Int32) (h : aH) (r : aR) (h' : aH) (hs : s_X11_told o a1 a2 a3 h = some (r, h')) : Mt yX11_told (Cond.code yX11_told cX11_told 5 (some .boolean) :: aTB) 2 47 0 0 [.ref o, .int a1, .int a2, .int a3] h r h' := by
  unfold s_X11_told at hs
  refine Mt_of (k := 1) (by decide) rfl (fun p l e s m args below meth c D B0 X ws0 C => ?_)
  show Ev p l e { frames := 2, cells := 0, slots := 0, locals := 47 } s m args below meth c D B0 X ws0 r h' 0 0 5 0 0 0 [some (.ref o), some (.int a1), some (.int a2), some (.int a3), none] [] h
  refine ev_aload_n C (x := .ref o) rfl trivial dX11_told_0 ?_
  obtain ⟨x1, e1, hs⟩ := aB hs
  refine ev_get C (ci := 11) (k := 2) rfl wu_11 (by decide) wf_X11_120 (gI_F e1) dX11_told_1 ?_
  refine ev_if_eq C (tgt := 43) (by decide) dX11_told_4 (fun q4 => ?_) (fun q4 => ?_)
  · replace hs := (if_pos q4).symm.trans hs
    exact (t_X11_told_43 C  hs)
  · replace hs := (if_neg q4).symm.trans hs
    refine ev_iload_n C rfl dX11_told_7 ?_
    refine ev_if_lt C (tgt := 43) (by decide) dX11_told_8 (fun q8 => ?_) (fun q8 => ?_)
    · replace hs := (if_pos q8).symm.trans hs
      exact (t_X11_told_43 C  hs)
    · replace hs := (if_neg q8).symm.trans hs
      refine ev_iload_n C rfl dX11_told_11 ?_
      refine ev_aload_n C (x := .ref o) rfl trivial dX11_told_12 ?_
      obtain ⟨x13, e13, hs⟩ := aB hs
      refine ev_get C (ci := 11) (k := 16) rfl wu_11 (by decide) wf_X11_84 (gO_F e13) dX11_told_13 ?_
      obtain ⟨x16, e16, hs⟩ := aB hs
      refine ev_getN C (ci := 9) (k := 4) rfl wu_9 (by decide) wg_X11_189 (gI_F e16) dX11_told_16 ?_
      refine ev_icmp_gt C (tgt := 43) (by decide) dX11_told_19 (fun q19 => ?_) (fun q19 => ?_)
      · replace hs := (if_pos q19).symm.trans hs
        exact (t_X11_told_43 C  hs)
      · replace hs := (if_neg q19).symm.trans hs
        refine ev_iload_n C rfl dX11_told_22 ?_
        refine ev_if_lt C (tgt := 43) (by decide) dX11_told_23 (fun q23 => ?_) (fun q23 => ?_)
        · replace hs := (if_pos q23).symm.trans hs
          exact (t_X11_told_43 C  hs)
        · replace hs := (if_neg q23).symm.trans hs
          refine ev_iload_n C rfl dX11_told_26 ?_
          refine ev_aload_n C (x := .ref o) rfl trivial dX11_told_27 ?_
          obtain ⟨x28, e28, hs⟩ := aB hs
          refine ev_get C (ci := 11) (k := 7) rfl wu_11 (by decide) wf_X11_19 (gO_F e28) dX11_told_28 ?_
          obtain ⟨x31, e31, hs⟩ := aB hs
          refine ev_getN C (ci := 2) (k := 0) rfl wu_2 (by decide) wg_X11_173 (gO_F e31) dX11_told_31 ?_
          refine ev_iconst C (v := 4) dX11_told_34 (by decide) ?_
          obtain ⟨x35, e35, hs⟩ := aB hs
          refine ev_iald C e35 dX11_told_35 ?_
          refine ev_icmp_ge C (tgt := 43) (by decide) dX11_told_36 (fun q36 => ?_) (fun q36 => ?_)
          · replace hs := (if_pos q36).symm.trans hs
            exact (t_X11_told_43 C  hs)
          · replace hs := (if_neg q36).symm.trans hs
            refine ev_iconst C (v := 1) dX11_told_39 (by decide) ?_
            refine ev_goto C (tgt := 44) (by decide) dX11_told_40 ?_
            exact (t_X11_told_44 C  hs)
end
-- X11_readyWatcher
theorem dX11_readyWatcher_0 : decode cX11_readyWatcher 0 = .ok (.aload_n 0, 1) := by decide +kernel
theorem dX11_readyWatcher_1 : decode cX11_readyWatcher 1 = .ok (.getfield 45, 3) := by decide +kernel
theorem dX11_readyWatcher_4 : decode cX11_readyWatcher 4 = .ok (.invokevirtual 372, 3) := by decide +kernel
theorem dX11_readyWatcher_7 : decode cX11_readyWatcher 7 = .ok (.aload_n 0, 1) := by decide +kernel
theorem dX11_readyWatcher_8 : decode cX11_readyWatcher 8 = .ok (.getfield 84, 3) := by decide +kernel
theorem dX11_readyWatcher_11 : decode cX11_readyWatcher 11 = .ok (.areturn, 1) := by decide +kernel
def s_X11_readyWatcher (o : Nat) (h : aH) : aP :=
  (gO h (.ref o) 11 11).bind fun x1 => kO h x1 3 (dN (s_X3_fill x1 h) fun h4 n4 y4 => ck (0 + n4) (0 + y4) (wC (0 + n4) (0 + y4) ((gO h4 (.ref o) 11 16).bind fun x8 => some (.inl (some (.ref x8)), h4))))
section
variable {p : Program} {l : Launch} {e : Env} {s : State} {m : MethodId} {args : Array Value} {below : List Frame} {meth : Method} {c : Code} {D : va_G} {B0 : Nat} {X : Nat → Nat} {ws0 : va_W} {r : aR} {h' : aH} {mc ms : Nat}
theorem hy_X11_readyWatcher : yX11_readyWatcher.cls ≠ "java/lang/invoke/MethodHandle" ∧ yX11_readyWatcher.cls ≠ "java/lang/invoke/VarHandle" ∧ (parseMethodDescriptor yX11_readyWatcher.desc).map (fun d => d.parameters.length) = some 0 := by decide +kernel
theorem T_X11_readyWatcher (o : Nat) (h : aH) (r : aR) (h' : aH) (mc ms : Nat) (hs : s_X11_readyWatcher o h = some (r, h', mc, ms)) : Mt yX11_readyWatcher (Cond.code yX11_readyWatcher cX11_readyWatcher 1 (some (.object "SteeringHouse$Watcher")) :: aTB) 6 150 mc ms [.ref o] h r h' := by
  unfold s_X11_readyWatcher at hs
  refine Mt_of (k := 0) (by decide) rfl (fun p l e s m args below meth c D B0 X ws0 C => ?_)
  show Ev p l e { frames := 6, cells := mc, slots := ms, locals := 150 } s m args below meth c D B0 X ws0 r h' mc ms 1 0 0 0 [some (.ref o)] [] h
  refine ev_aload_n C (x := .ref o) rfl trivial dX11_readyWatcher_0 ?_
  obtain ⟨x1, e1, hs⟩ := aB hs
  refine ev_get C (ci := 11) (k := 11) rfl wu_11 (by decide) wf_X11_45 (gO_F e1) dX11_readyWatcher_1 ?_
  obtain ⟨eo4, hs⟩ := kO_at hs
  obtain ⟨h4, n4, y4, e4, hs⟩ := dN_at hs
  obtain ⟨c4, z4, hs⟩ := ck_at hs
  refine ev_callVN C (T_X3_fill _ _ _ _ _ _ e4) (ci := 3) rfl eo4 wc_X3_fill wn_X11_372 wi_X3_fill ws_X3_fill wz_X3 hy_X3_fill ⟨(Nat.le_of_ble_eq_true rfl), (Nat.le_of_ble_eq_true rfl)⟩ ⟨c4, z4⟩ (Nat.le_of_ble_eq_true rfl) rfl dX11_readyWatcher_4 ?_
  obtain ⟨hw9, rfl, rfl⟩ := wC_at hs
  have hs := hw9
  refine ev_aload_n C (x := .ref o) rfl trivial dX11_readyWatcher_7 ?_
  obtain ⟨x8, e8, hs⟩ := aB hs
  refine ev_get C (ci := 11) (k := 16) rfl wu_11 (by decide) wf_X11_84 (gO_F e8) dX11_readyWatcher_8 ?_
  cases hs
  exact ev_aret C rfl (Or.inl ⟨_, rfl⟩) trivial rfl (Nat.le_refl _) (Nat.le_refl _) rfl dX11_readyWatcher_11
end
-- X11_can
theorem dX11_can_0 : decode cX11_can 0 = .ok (.aload_n 0, 1) := by decide +kernel
theorem dX11_can_1 : decode cX11_can 1 = .ok (.getfield 120, 3) := by decide +kernel
theorem dX11_can_4 : decode cX11_can 4 = .ok (.ifCond .eq 30, 3) := by decide +kernel
theorem dX11_can_7 : decode cX11_can 7 = .ok (.iload_n 1, 1) := by decide +kernel
theorem dX11_can_8 : decode cX11_can 8 = .ok (.ifCond .lt 26, 3) := by decide +kernel
theorem dX11_can_11 : decode cX11_can 11 = .ok (.iload_n 1, 1) := by decide +kernel
theorem dX11_can_12 : decode cX11_can 12 = .ok (.aload_n 0, 1) := by decide +kernel
theorem dX11_can_13 : decode cX11_can 13 = .ok (.getfield 19, 3) := by decide +kernel
theorem dX11_can_16 : decode cX11_can 16 = .ok (.getfield 173, 3) := by decide +kernel
theorem dX11_can_19 : decode cX11_can 19 = .ok (.iconst 1, 1) := by decide +kernel
theorem dX11_can_20 : decode cX11_can 20 = .ok (.iaload, 1) := by decide +kernel
theorem dX11_can_21 : decode cX11_can 21 = .ok (.aload_n 0, 1) := by decide +kernel
theorem dX11_can_22 : decode cX11_can 22 = .ok (.getfield 19, 3) := by decide +kernel
theorem dX11_can_25 : decode cX11_can 25 = .ok (.getfield 173, 3) := by decide +kernel
theorem dX11_can_28 : decode cX11_can 28 = .ok (.iconst 4, 1) := by decide +kernel
theorem dX11_can_29 : decode cX11_can 29 = .ok (.iaload, 1) := by decide +kernel
theorem dX11_can_30 : decode cX11_can 30 = .ok (.iadd, 1) := by decide +kernel
theorem dX11_can_31 : decode cX11_can 31 = .ok (.if_icmp .le 9, 3) := by decide +kernel
theorem dX11_can_34 : decode cX11_can 34 = .ok (.aload_n 0, 1) := by decide +kernel
theorem dX11_can_35 : decode cX11_can 35 = .ok (.iconst 1, 1) := by decide +kernel
theorem dX11_can_36 : decode cX11_can 36 = .ok (.invokevirtual 105, 3) := by decide +kernel
theorem dX11_can_39 : decode cX11_can 39 = .ok (.ireturn, 1) := by decide +kernel
theorem dX11_can_40 : decode cX11_can 40 = .ok (.aload_n 0, 1) := by decide +kernel
theorem dX11_can_41 : decode cX11_can 41 = .ok (.iconst 0, 1) := by decide +kernel
theorem dX11_can_42 : decode cX11_can 42 = .ok (.putfield 167, 3) := by decide +kernel
theorem dX11_can_45 : decode cX11_can 45 = .ok (.aload_n 0, 1) := by decide +kernel
theorem dX11_can_46 : decode cX11_can 46 = .ok (.invokevirtual 320, 3) := by decide +kernel
theorem dX11_can_49 : decode cX11_can 49 = .ok (.iload_n 1, 1) := by decide +kernel
theorem dX11_can_50 : decode cX11_can 50 = .ok (.invokevirtual 324, 3) := by decide +kernel
theorem dX11_can_53 : decode cX11_can 53 = .ok (.ireturn, 1) := by decide +kernel
def s_X11_can_34  (l0 : Nat) (h : aH) (c9 z9 : Nat) : aP :=
  wC c9 z9 (kO h l0 11 (cI (s_X11_refused l0 1 h) fun x36 h36 => some (.inl (some (.int x36)), h36)))
def s_X11_can (o : Nat) (a1 : Int32) (h : aH) : aP :=
  (gI h (.ref o) 11 2).bind fun x1 => if x1 = 0 then (s_X11_can_34 o h 0 0) else (if a1 < 0 then (s_X11_can_34 o h 0 0) else ((gO h (.ref o) 11 7).bind fun x13 => (gO h (.ref x13) 2 0).bind fun x16 => (ldI .int h (.ref x16) 1).bind fun x20 => (gO h (.ref o) 11 7).bind fun x22 => (gO h (.ref x22) 2 0).bind fun x25 => (ldI .int h (.ref x25) 4).bind fun x29 => if a1 ≤ (x20 + x29) then ((pF h (.ref o) 11 3 (.int 0)).bind fun h42 => kO h42 o 11 (dR (s_X11_readyWatcher o h42) fun x46 h46 n46 y46 => ck (0 + n46) (0 + y46) (kO h46 x46 9 (dI (s_X9_cellsBy x46 a1 h46) fun x50 h50 n50 y50 => ck (0 + n46 + n50) (0 + y46 + y50) (wC (0 + n46 + n50) (0 + y46 + y50) (some (.inl (some (.int x50)), h50))))))) else (s_X11_can_34 o h 0 0)))
section
variable {p : Program} {l : Launch} {e : Env} {s : State} {m : MethodId} {args : Array Value} {below : List Frame} {meth : Method} {c : Code} {D : va_G} {B0 : Nat} {X : Nat → Nat} {ws0 : va_W} {r : aR} {h' : aH} {mc ms : Nat}
theorem t_X11_can_34 (C : Cx p l s m args meth c B0 X RX11 "can" cX11_can 2 (some .int) [])   {l0 : Nat} {h : aH} {c9 z9 : Nat} (hs : s_X11_can_34  l0 h c9 z9 = some (r, h', mc, ms)) : Ev p l e { frames := 7, cells := mc, slots := ms, locals := 170 } s m args below meth c D B0 X ws0 r h' mc ms 2 c9 z9 34 [some (.ref l0), none] [] h := by
  unfold s_X11_can_34 at hs
  obtain ⟨hw9, rfl, rfl⟩ := wC_at hs
  have hs := hw9
  refine ev_aload_n C (x := .ref l0) rfl trivial dX11_can_34 ?_
  refine ev_iconst C (v := 1) dX11_can_35 (by decide) ?_
  obtain ⟨eo36, hs⟩ := kO_at hs
  obtain ⟨x36, h36, e36, hs⟩ := cI_at hs
  refine ev_callV C (T_X11_refused _ _ _ _ _ e36) (ci := 11) rfl eo36 wc_X11_refused wm_X11_105 wi_X11_refused ws_X11_refused wz_X11 hy_X11_refused ⟨(Nat.le_of_ble_eq_true rfl), (Nat.le_of_ble_eq_true rfl)⟩ ⟨(Nat.le_refl _), (Nat.le_refl _)⟩ (Nat.le_of_ble_eq_true rfl) rfl dX11_can_36 ?_
  cases hs
  exact ev_iret C rfl rfl (Nat.le_refl _) (Nat.le_refl _) rfl dX11_can_39
theorem hy_X11_can : yX11_can.cls ≠ "java/lang/invoke/MethodHandle" ∧ yX11_can.cls ≠ "java/lang/invoke/VarHandle" ∧ (parseMethodDescriptor yX11_can.desc).map (fun d => d.parameters.length) = some 1 := by decide +kernel
theorem T_X11_can (o : Nat) (a1 : Int32) (h : aH) (r : aR) (h' : aH) (mc ms : Nat) (hs : s_X11_can o a1 h = some (r, h', mc, ms)) : Mt yX11_can (Cond.code yX11_can cX11_can 2 (some .int) :: aTB) 7 170 mc ms [.ref o, .int a1] h r h' := by
  unfold s_X11_can at hs
  refine Mt_of (k := 0) (by decide) rfl (fun p l e s m args below meth c D B0 X ws0 C => ?_)
  show Ev p l e { frames := 7, cells := mc, slots := ms, locals := 170 } s m args below meth c D B0 X ws0 r h' mc ms 2 0 0 0 [some (.ref o), some (.int a1)] [] h
  refine ev_aload_n C (x := .ref o) rfl trivial dX11_can_0 ?_
  obtain ⟨x1, e1, hs⟩ := aB hs
  refine ev_get C (ci := 11) (k := 2) rfl wu_11 (by decide) wf_X11_120 (gI_F e1) dX11_can_1 ?_
  refine ev_if_eq C (tgt := 34) (by decide) dX11_can_4 (fun q4 => ?_) (fun q4 => ?_)
  · replace hs := (if_pos q4).symm.trans hs
    exact Ev.keep [true, false] (t_X11_can_34 C  hs)
  · replace hs := (if_neg q4).symm.trans hs
    refine ev_iload_n C rfl dX11_can_7 ?_
    refine ev_if_lt C (tgt := 34) (by decide) dX11_can_8 (fun q8 => ?_) (fun q8 => ?_)
    · replace hs := (if_pos q8).symm.trans hs
      exact Ev.keep [true, false] (t_X11_can_34 C  hs)
    · replace hs := (if_neg q8).symm.trans hs
      refine ev_iload_n C rfl dX11_can_11 ?_
      refine ev_aload_n C (x := .ref o) rfl trivial dX11_can_12 ?_
      obtain ⟨x13, e13, hs⟩ := aB hs
      refine ev_get C (ci := 11) (k := 7) rfl wu_11 (by decide) wf_X11_19 (gO_F e13) dX11_can_13 ?_
      obtain ⟨x16, e16, hs⟩ := aB hs
      refine ev_getN C (ci := 2) (k := 0) rfl wu_2 (by decide) wg_X11_173 (gO_F e16) dX11_can_16 ?_
      refine ev_iconst C (v := 1) dX11_can_19 (by decide) ?_
      obtain ⟨x20, e20, hs⟩ := aB hs
      refine ev_iald C e20 dX11_can_20 ?_
      refine ev_aload_n C (x := .ref o) rfl trivial dX11_can_21 ?_
      obtain ⟨x22, e22, hs⟩ := aB hs
      refine ev_get C (ci := 11) (k := 7) rfl wu_11 (by decide) wf_X11_19 (gO_F e22) dX11_can_22 ?_
      obtain ⟨x25, e25, hs⟩ := aB hs
      refine ev_getN C (ci := 2) (k := 0) rfl wu_2 (by decide) wg_X11_173 (gO_F e25) dX11_can_25 ?_
      refine ev_iconst C (v := 4) dX11_can_28 (by decide) ?_
      obtain ⟨x29, e29, hs⟩ := aB hs
      refine ev_iald C e29 dX11_can_29 ?_
      refine ev_iadd C dX11_can_30 ?_
      refine ev_icmp_le C (tgt := 40) (by decide) dX11_can_31 (fun q31 => ?_) (fun q31 => ?_)
      · replace hs := (if_pos q31).symm.trans hs
        refine ev_aload_n C (x := .ref o) rfl trivial dX11_can_40 ?_
        refine ev_iconst C (v := 0) dX11_can_41 (by decide) ?_
        obtain ⟨h42, e42, hs⟩ := aB hs
        refine ev_put C (ci := 11) (k := 3) rfl wu_11 (by decide) tyX11 tyX11_ok nmX11 wf_X11_167 rfl trivial e42 dX11_can_42 ?_
        refine ev_aload_n C (x := .ref o) rfl trivial dX11_can_45 ?_
        obtain ⟨eo46, hs⟩ := kO_at hs
        obtain ⟨x46, h46, n46, y46, e46, hs⟩ := dR_at hs
        obtain ⟨c46, z46, hs⟩ := ck_at hs
        refine ev_callV C (T_X11_readyWatcher _ _ _ _ _ _ e46) (ci := 11) rfl eo46 wc_X11_readyWatcher wm_X11_320 wi_X11_readyWatcher ws_X11_readyWatcher wz_X11 hy_X11_readyWatcher ⟨(Nat.le_of_ble_eq_true rfl), (Nat.le_of_ble_eq_true rfl)⟩ ⟨c46, z46⟩ (Nat.le_of_ble_eq_true rfl) rfl dX11_can_46 ?_
        refine ev_iload_n C rfl dX11_can_49 ?_
        obtain ⟨eo50, hs⟩ := kO_at hs
        obtain ⟨x50, h50, n50, y50, e50, hs⟩ := dI_at hs
        obtain ⟨c50, z50, hs⟩ := ck_at hs
        refine ev_callVN C (T_X9_cellsBy _ _ _ _ _ _ _ e50) (ci := 9) rfl eo50 wc_X9_cellsBy wn_X11_324 wi_X9_cellsBy ws_X9_cellsBy wz_X9 hy_X9_cellsBy ⟨(Nat.le_of_ble_eq_true rfl), (Nat.le_of_ble_eq_true rfl)⟩ ⟨c50, z50⟩ (Nat.le_of_ble_eq_true rfl) rfl dX11_can_50 ?_
        obtain ⟨hw9, rfl, rfl⟩ := wC_at hs
        have hs := hw9
        cases hs
        exact ev_iret C rfl rfl (Nat.le_refl _) (Nat.le_refl _) rfl dX11_can_53
      · replace hs := (if_neg q31).symm.trans hs
        exact Ev.keep [true, false] (t_X11_can_34 C  hs)
end
-- X11_canBe
theorem dX11_canBe_0 : decode cX11_canBe 0 = .ok (.aload_n 0, 1) := by decide +kernel
theorem dX11_canBe_1 : decode cX11_canBe 1 = .ok (.iload_n 1, 1) := by decide +kernel
theorem dX11_canBe_2 : decode cX11_canBe 2 = .ok (.invokevirtual 199, 3) := by decide +kernel
theorem dX11_canBe_5 : decode cX11_canBe 5 = .ok (.ifCond .ne 5, 3) := by decide +kernel
theorem dX11_canBe_8 : decode cX11_canBe 8 = .ok (.iconst (-1), 1) := by decide +kernel
theorem dX11_canBe_9 : decode cX11_canBe 9 = .ok (.ireturn, 1) := by decide +kernel
theorem dX11_canBe_10 : decode cX11_canBe 10 = .ok (.aload_n 0, 1) := by decide +kernel
theorem dX11_canBe_11 : decode cX11_canBe 11 = .ok (.invokevirtual 320, 3) := by decide +kernel
theorem dX11_canBe_14 : decode cX11_canBe 14 = .ok (.iload_n 1, 1) := by decide +kernel
theorem dX11_canBe_15 : decode cX11_canBe 15 = .ok (.invokevirtual 327, 3) := by decide +kernel
theorem dX11_canBe_18 : decode cX11_canBe 18 = .ok (.ifCond .eq 7, 3) := by decide +kernel
theorem dX11_canBe_21 : decode cX11_canBe 21 = .ok (.iconst 1, 1) := by decide +kernel
theorem dX11_canBe_22 : decode cX11_canBe 22 = .ok (.goto 4, 3) := by decide +kernel
theorem dX11_canBe_25 : decode cX11_canBe 25 = .ok (.iconst 0, 1) := by decide +kernel
theorem dX11_canBe_26 : decode cX11_canBe 26 = .ok (.ireturn, 1) := by decide +kernel
def s_X11_canBe (o : Nat) (a1 : Int32) (h : aH) : aP :=
  kO h o 11 (cI (s_X11_hasCell o a1 h) fun x2 h2 => ck 0 0 (if x2 = 0 then (wC 0 0 (some (.inl (some (.int (-1))), h2))) else (kO h2 o 11 (dR (s_X11_readyWatcher o h2) fun x11 h11 n11 y11 => ck (0 + n11) (0 + y11) (kO h11 x11 9 (dI (s_X9_mayBe x11 a1 h11) fun x15 h15 n15 y15 => ck (0 + n11 + n15) (0 + y11 + y15) (wC (0 + n11 + n15) (0 + y11 + y15) (if x15 = 0 then (some (.inl (some (.int 0)), h15)) else (some (.inl (some (.int 1)), h15))))))))))
section
variable {p : Program} {l : Launch} {e : Env} {s : State} {m : MethodId} {args : Array Value} {below : List Frame} {meth : Method} {c : Code} {D : va_G} {B0 : Nat} {X : Nat → Nat} {ws0 : va_W} {r : aR} {h' : aH} {mc ms : Nat}
theorem hy_X11_canBe : yX11_canBe.cls ≠ "java/lang/invoke/MethodHandle" ∧ yX11_canBe.cls ≠ "java/lang/invoke/VarHandle" ∧ (parseMethodDescriptor yX11_canBe.desc).map (fun d => d.parameters.length) = some 1 := by decide +kernel
theorem T_X11_canBe (o : Nat) (a1 : Int32) (h : aH) (r : aR) (h' : aH) (mc ms : Nat) (hs : s_X11_canBe o a1 h = some (r, h', mc, ms)) : Mt yX11_canBe (Cond.code yX11_canBe cX11_canBe 2 (some .int) :: aTB) 7 170 mc ms [.ref o, .int a1] h r h' := by
  unfold s_X11_canBe at hs
  refine Mt_of (k := 0) (by decide) rfl (fun p l e s m args below meth c D B0 X ws0 C => ?_)
  show Ev p l e { frames := 7, cells := mc, slots := ms, locals := 170 } s m args below meth c D B0 X ws0 r h' mc ms 2 0 0 0 [some (.ref o), some (.int a1)] [] h
  refine ev_aload_n C (x := .ref o) rfl trivial dX11_canBe_0 ?_
  refine ev_iload_n C rfl dX11_canBe_1 ?_
  obtain ⟨eo2, hs⟩ := kO_at hs
  obtain ⟨x2, h2, e2, hs⟩ := cI_at hs
  obtain ⟨c2, z2, hs⟩ := ck_at hs
  refine ev_callV C (T_X11_hasCell _ _ _ _ _ e2) (ci := 11) rfl eo2 wc_X11_hasCell wm_X11_199 wi_X11_hasCell ws_X11_hasCell wz_X11 hy_X11_hasCell ⟨(Nat.le_of_ble_eq_true rfl), (Nat.le_of_ble_eq_true rfl)⟩ ⟨c2, z2⟩ (Nat.le_of_ble_eq_true rfl) rfl dX11_canBe_2 ?_
  refine ev_if_ne C (tgt := 10) (by decide) dX11_canBe_5 (fun q5 => ?_) (fun q5 => ?_)
  · replace hs := (if_neg q5).symm.trans hs
    refine ev_aload_n C (x := .ref o) rfl trivial dX11_canBe_10 ?_
    obtain ⟨eo11, hs⟩ := kO_at hs
    obtain ⟨x11, h11, n11, y11, e11, hs⟩ := dR_at hs
    obtain ⟨c11, z11, hs⟩ := ck_at hs
    refine ev_callV C (T_X11_readyWatcher _ _ _ _ _ _ e11) (ci := 11) rfl eo11 wc_X11_readyWatcher wm_X11_320 wi_X11_readyWatcher ws_X11_readyWatcher wz_X11 hy_X11_readyWatcher ⟨(Nat.le_of_ble_eq_true rfl), (Nat.le_of_ble_eq_true rfl)⟩ ⟨c11, z11⟩ (Nat.le_of_ble_eq_true rfl) rfl dX11_canBe_11 ?_
    refine ev_iload_n C rfl dX11_canBe_14 ?_
    obtain ⟨eo15, hs⟩ := kO_at hs
    obtain ⟨x15, h15, n15, y15, e15, hs⟩ := dI_at hs
    obtain ⟨c15, z15, hs⟩ := ck_at hs
    refine ev_callVN C (T_X9_mayBe _ _ _ _ _ _ _ e15) (ci := 9) rfl eo15 wc_X9_mayBe wn_X11_327 wi_X9_mayBe ws_X9_mayBe wz_X9 hy_X9_mayBe ⟨(Nat.le_of_ble_eq_true rfl), (Nat.le_of_ble_eq_true rfl)⟩ ⟨c15, z15⟩ (Nat.le_of_ble_eq_true rfl) rfl dX11_canBe_15 ?_
    obtain ⟨hw9, rfl, rfl⟩ := wC_at hs
    have hs := hw9
    refine ev_if_eq C (tgt := 25) (by decide) dX11_canBe_18 (fun q18 => ?_) (fun q18 => ?_)
    · replace hs := (if_pos q18).symm.trans hs
      refine ev_iconst C (v := 0) dX11_canBe_25 (by decide) ?_
      cases hs
      exact ev_iret C rfl rfl (Nat.le_refl _) (Nat.le_refl _) rfl dX11_canBe_26
    · replace hs := (if_neg q18).symm.trans hs
      refine ev_iconst C (v := 1) dX11_canBe_21 (by decide) ?_
      refine ev_goto C (tgt := 26) (by decide) dX11_canBe_22 ?_
      cases hs
      exact ev_iret C rfl rfl (Nat.le_refl _) (Nat.le_refl _) rfl dX11_canBe_26
  · replace hs := (if_pos q5).symm.trans hs
    obtain ⟨hw9, rfl, rfl⟩ := wC_at hs
    have hs := hw9
    refine ev_iconst C (v := (-1)) dX11_canBe_8 (by decide) ?_
    cases hs
    exact ev_iret C rfl rfl (Nat.le_refl _) (Nat.le_refl _) rfl dX11_canBe_9
end
-- X11_guess
theorem dX11_guess_0 : decode cX11_guess 0 = .ok (.aload_n 0, 1) := by decide +kernel
theorem dX11_guess_1 : decode cX11_guess 1 = .ok (.getfield 120, 3) := by decide +kernel
theorem dX11_guess_4 : decode cX11_guess 4 = .ok (.ifCond .eq 20, 3) := by decide +kernel
theorem dX11_guess_7 : decode cX11_guess 7 = .ok (.iload_n 1, 1) := by decide +kernel
theorem dX11_guess_8 : decode cX11_guess 8 = .ok (.ifCond .lt 16, 3) := by decide +kernel
theorem dX11_guess_11 : decode cX11_guess 11 = .ok (.iload_n 1, 1) := by decide +kernel
theorem dX11_guess_12 : decode cX11_guess 12 = .ok (.aload_n 0, 1) := by decide +kernel
theorem dX11_guess_13 : decode cX11_guess 13 = .ok (.getfield 19, 3) := by decide +kernel
theorem dX11_guess_16 : decode cX11_guess 16 = .ok (.getfield 173, 3) := by decide +kernel
theorem dX11_guess_19 : decode cX11_guess 19 = .ok (.iconst 0, 1) := by decide +kernel
theorem dX11_guess_20 : decode cX11_guess 20 = .ok (.iaload, 1) := by decide +kernel
theorem dX11_guess_21 : decode cX11_guess 21 = .ok (.if_icmp .lt 6, 3) := by decide +kernel
theorem dX11_guess_24 : decode cX11_guess 24 = .ok (.ldc 202, 2) := by decide +kernel
theorem dX11_guess_26 : decode cX11_guess 26 = .ok (.ireturn, 1) := by decide +kernel
theorem dX11_guess_27 : decode cX11_guess 27 = .ok (.aload_n 0, 1) := by decide +kernel
theorem dX11_guess_28 : decode cX11_guess 28 = .ok (.invokevirtual 320, 3) := by decide +kernel
theorem dX11_guess_31 : decode cX11_guess 31 = .ok (.iload_n 1, 1) := by decide +kernel
theorem dX11_guess_32 : decode cX11_guess 32 = .ok (.iload_n 2, 1) := by decide +kernel
theorem dX11_guess_33 : decode cX11_guess 33 = .ok (.invokevirtual 330, 3) := by decide +kernel
theorem dX11_guess_36 : decode cX11_guess 36 = .ok (.ireturn, 1) := by decide +kernel
def s_X11_guess_24   (h : aH) (c9 z9 : Nat) : aP :=
  wC c9 z9 (some (.inl (some (.int (-2147483648))), h))
def s_X11_guess (o : Nat) (a1 : Int32) (a2 : Int32) (h : aH) : aP :=
  (gI h (.ref o) 11 2).bind fun x1 => if x1 = 0 then (s_X11_guess_24 h 0 0) else (if a1 < 0 then (s_X11_guess_24 h 0 0) else ((gO h (.ref o) 11 7).bind fun x13 => (gO h (.ref x13) 2 0).bind fun x16 => (ldI .int h (.ref x16) 0).bind fun x20 => if a1 < x20 then (kO h o 11 (dR (s_X11_readyWatcher o h) fun x28 h28 n28 y28 => ck (0 + n28) (0 + y28) (kO h28 x28 9 (dI (s_X9_bound x28 a1 a2 h28) fun x33 h33 n33 y33 => ck (0 + n28 + n33) (0 + y28 + y33) (wC (0 + n28 + n33) (0 + y28 + y33) (some (.inl (some (.int x33)), h33))))))) else (s_X11_guess_24 h 0 0)))
section
variable {p : Program} {l : Launch} {e : Env} {s : State} {m : MethodId} {args : Array Value} {below : List Frame} {meth : Method} {c : Code} {D : va_G} {B0 : Nat} {X : Nat → Nat} {ws0 : va_W} {r : aR} {h' : aH} {mc ms : Nat}
theorem t_X11_guess_24 (C : Cx p l s m args meth c B0 X RX11 "guess" cX11_guess 3 (some .int) [])    {h : aH} {c9 z9 : Nat} (hs : s_X11_guess_24   h c9 z9 = some (r, h', mc, ms)) : Ev p l e { frames := 7, cells := mc, slots := ms, locals := 170 } s m args below meth c D B0 X ws0 r h' mc ms 3 c9 z9 24 [none, none, none] [] h := by
  unfold s_X11_guess_24 at hs
  obtain ⟨hw9, rfl, rfl⟩ := wC_at hs
  have hs := hw9
  refine ev_ldc C wv_X11_202 dX11_guess_24 ?_
  cases hs
  exact ev_iret C rfl rfl (Nat.le_refl _) (Nat.le_refl _) rfl dX11_guess_26
theorem hy_X11_guess : yX11_guess.cls ≠ "java/lang/invoke/MethodHandle" ∧ yX11_guess.cls ≠ "java/lang/invoke/VarHandle" ∧ (parseMethodDescriptor yX11_guess.desc).map (fun d => d.parameters.length) = some 2 := by decide +kernel
theorem T_X11_guess (o : Nat) (a1 : Int32) (a2 : Int32) (h : aH) (r : aR) (h' : aH) (mc ms : Nat) (hs : s_X11_guess o a1 a2 h = some (r, h', mc, ms)) : Mt yX11_guess (Cond.code yX11_guess cX11_guess 3 (some .int) :: aTB) 7 170 mc ms [.ref o, .int a1, .int a2] h r h' := by
  unfold s_X11_guess at hs
  refine Mt_of (k := 0) (by decide) rfl (fun p l e s m args below meth c D B0 X ws0 C => ?_)
  show Ev p l e { frames := 7, cells := mc, slots := ms, locals := 170 } s m args below meth c D B0 X ws0 r h' mc ms 3 0 0 0 [some (.ref o), some (.int a1), some (.int a2)] [] h
  refine ev_aload_n C (x := .ref o) rfl trivial dX11_guess_0 ?_
  obtain ⟨x1, e1, hs⟩ := aB hs
  refine ev_get C (ci := 11) (k := 2) rfl wu_11 (by decide) wf_X11_120 (gI_F e1) dX11_guess_1 ?_
  refine ev_if_eq C (tgt := 24) (by decide) dX11_guess_4 (fun q4 => ?_) (fun q4 => ?_)
  · replace hs := (if_pos q4).symm.trans hs
    exact Ev.keep [false, false, false] (t_X11_guess_24 C  hs)
  · replace hs := (if_neg q4).symm.trans hs
    refine ev_iload_n C rfl dX11_guess_7 ?_
    refine ev_if_lt C (tgt := 24) (by decide) dX11_guess_8 (fun q8 => ?_) (fun q8 => ?_)
    · replace hs := (if_pos q8).symm.trans hs
      exact Ev.keep [false, false, false] (t_X11_guess_24 C  hs)
    · replace hs := (if_neg q8).symm.trans hs
      refine ev_iload_n C rfl dX11_guess_11 ?_
      refine ev_aload_n C (x := .ref o) rfl trivial dX11_guess_12 ?_
      obtain ⟨x13, e13, hs⟩ := aB hs
      refine ev_get C (ci := 11) (k := 7) rfl wu_11 (by decide) wf_X11_19 (gO_F e13) dX11_guess_13 ?_
      obtain ⟨x16, e16, hs⟩ := aB hs
      refine ev_getN C (ci := 2) (k := 0) rfl wu_2 (by decide) wg_X11_173 (gO_F e16) dX11_guess_16 ?_
      refine ev_iconst C (v := 0) dX11_guess_19 (by decide) ?_
      obtain ⟨x20, e20, hs⟩ := aB hs
      refine ev_iald C e20 dX11_guess_20 ?_
      refine ev_icmp_lt C (tgt := 27) (by decide) dX11_guess_21 (fun q21 => ?_) (fun q21 => ?_)
      · replace hs := (if_pos q21).symm.trans hs
        refine ev_aload_n C (x := .ref o) rfl trivial dX11_guess_27 ?_
        obtain ⟨eo28, hs⟩ := kO_at hs
        obtain ⟨x28, h28, n28, y28, e28, hs⟩ := dR_at hs
        obtain ⟨c28, z28, hs⟩ := ck_at hs
        refine ev_callV C (T_X11_readyWatcher _ _ _ _ _ _ e28) (ci := 11) rfl eo28 wc_X11_readyWatcher wm_X11_320 wi_X11_readyWatcher ws_X11_readyWatcher wz_X11 hy_X11_readyWatcher ⟨(Nat.le_of_ble_eq_true rfl), (Nat.le_of_ble_eq_true rfl)⟩ ⟨c28, z28⟩ (Nat.le_of_ble_eq_true rfl) rfl dX11_guess_28 ?_
        refine ev_iload_n C rfl dX11_guess_31 ?_
        refine ev_iload_n C rfl dX11_guess_32 ?_
        obtain ⟨eo33, hs⟩ := kO_at hs
        obtain ⟨x33, h33, n33, y33, e33, hs⟩ := dI_at hs
        obtain ⟨c33, z33, hs⟩ := ck_at hs
        refine ev_callVN C (T_X9_bound _ _ _ _ _ _ _ _ e33) (ci := 9) rfl eo33 wc_X9_bound wn_X11_330 wi_X9_bound ws_X9_bound wz_X9 hy_X9_bound ⟨(Nat.le_of_ble_eq_true rfl), (Nat.le_of_ble_eq_true rfl)⟩ ⟨c33, z33⟩ (Nat.le_of_ble_eq_true rfl) rfl dX11_guess_33 ?_
        obtain ⟨hw9, rfl, rfl⟩ := wC_at hs
        have hs := hw9
        cases hs
        exact ev_iret C rfl rfl (Nat.le_refl _) (Nat.le_refl _) rfl dX11_guess_36
      · replace hs := (if_neg q21).symm.trans hs
        exact Ev.keep [false, false, false] (t_X11_guess_24 C  hs)
end
-- X11_named
theorem dX11_named_0 : decode cX11_named 0 = .ok (.aload_n 0, 1) := by decide +kernel
theorem dX11_named_1 : decode cX11_named 1 = .ok (.getfield 120, 3) := by decide +kernel
theorem dX11_named_4 : decode cX11_named 4 = .ok (.ifCond .ne 9, 3) := by decide +kernel
theorem dX11_named_7 : decode cX11_named 7 = .ok (.aload_n 0, 1) := by decide +kernel
theorem dX11_named_8 : decode cX11_named 8 = .ok (.iconst 1, 1) := by decide +kernel
theorem dX11_named_9 : decode cX11_named 9 = .ok (.invokevirtual 105, 3) := by decide +kernel
theorem dX11_named_12 : decode cX11_named 12 = .ok (.ireturn, 1) := by decide +kernel
theorem dX11_named_13 : decode cX11_named 13 = .ok (.aload_n 0, 1) := by decide +kernel
theorem dX11_named_14 : decode cX11_named 14 = .ok (.iconst 0, 1) := by decide +kernel
theorem dX11_named_15 : decode cX11_named 15 = .ok (.putfield 167, 3) := by decide +kernel
theorem dX11_named_18 : decode cX11_named 18 = .ok (.aload_n 0, 1) := by decide +kernel
theorem dX11_named_19 : decode cX11_named 19 = .ok (.invokevirtual 320, 3) := by decide +kernel
theorem dX11_named_22 : decode cX11_named 22 = .ok (.invokevirtual 334, 3) := by decide +kernel
theorem dX11_named_25 : decode cX11_named 25 = .ok (.ireturn, 1) := by decide +kernel
def s_X11_named (o : Nat) (h : aH) : aP :=
  (gI h (.ref o) 11 2).bind fun x1 => if x1 = 0 then (wC 0 0 (kO h o 11 (cI (s_X11_refused o 1 h) fun x9 h9 => some (.inl (some (.int x9)), h9)))) else ((pF h (.ref o) 11 3 (.int 0)).bind fun h15 => kO h15 o 11 (dR (s_X11_readyWatcher o h15) fun x19 h19 n19 y19 => ck (0 + n19) (0 + y19) (kO h19 x19 9 (dI (s_X9_onlyFault x19 h19) fun x22 h22 n22 y22 => ck (0 + n19 + n22) (0 + y19 + y22) (wC (0 + n19 + n22) (0 + y19 + y22) (some (.inl (some (.int x22)), h22)))))))
section
variable {p : Program} {l : Launch} {e : Env} {s : State} {m : MethodId} {args : Array Value} {below : List Frame} {meth : Method} {c : Code} {D : va_G} {B0 : Nat} {X : Nat → Nat} {ws0 : va_W} {r : aR} {h' : aH} {mc ms : Nat}
theorem hy_X11_named : yX11_named.cls ≠ "java/lang/invoke/MethodHandle" ∧ yX11_named.cls ≠ "java/lang/invoke/VarHandle" ∧ (parseMethodDescriptor yX11_named.desc).map (fun d => d.parameters.length) = some 0 := by decide +kernel
theorem T_X11_named (o : Nat) (h : aH) (r : aR) (h' : aH) (mc ms : Nat) (hs : s_X11_named o h = some (r, h', mc, ms)) : Mt yX11_named (Cond.code yX11_named cX11_named 1 (some .int) :: aTB) 7 176 mc ms [.ref o] h r h' := by
  unfold s_X11_named at hs
  refine Mt_of (k := 0) (by decide) rfl (fun p l e s m args below meth c D B0 X ws0 C => ?_)
  show Ev p l e { frames := 7, cells := mc, slots := ms, locals := 176 } s m args below meth c D B0 X ws0 r h' mc ms 1 0 0 0 [some (.ref o)] [] h
  refine ev_aload_n C (x := .ref o) rfl trivial dX11_named_0 ?_
  obtain ⟨x1, e1, hs⟩ := aB hs
  refine ev_get C (ci := 11) (k := 2) rfl wu_11 (by decide) wf_X11_120 (gI_F e1) dX11_named_1 ?_
  refine ev_if_ne C (tgt := 13) (by decide) dX11_named_4 (fun q4 => ?_) (fun q4 => ?_)
  · replace hs := (if_neg q4).symm.trans hs
    refine ev_aload_n C (x := .ref o) rfl trivial dX11_named_13 ?_
    refine ev_iconst C (v := 0) dX11_named_14 (by decide) ?_
    obtain ⟨h15, e15, hs⟩ := aB hs
    refine ev_put C (ci := 11) (k := 3) rfl wu_11 (by decide) tyX11 tyX11_ok nmX11 wf_X11_167 rfl trivial e15 dX11_named_15 ?_
    refine ev_aload_n C (x := .ref o) rfl trivial dX11_named_18 ?_
    obtain ⟨eo19, hs⟩ := kO_at hs
    obtain ⟨x19, h19, n19, y19, e19, hs⟩ := dR_at hs
    obtain ⟨c19, z19, hs⟩ := ck_at hs
    refine ev_callV C (T_X11_readyWatcher _ _ _ _ _ _ e19) (ci := 11) rfl eo19 wc_X11_readyWatcher wm_X11_320 wi_X11_readyWatcher ws_X11_readyWatcher wz_X11 hy_X11_readyWatcher ⟨(Nat.le_of_ble_eq_true rfl), (Nat.le_of_ble_eq_true rfl)⟩ ⟨c19, z19⟩ (Nat.le_of_ble_eq_true rfl) rfl dX11_named_19 ?_
    obtain ⟨eo22, hs⟩ := kO_at hs
    obtain ⟨x22, h22, n22, y22, e22, hs⟩ := dI_at hs
    obtain ⟨c22, z22, hs⟩ := ck_at hs
    refine ev_callVN C (T_X9_onlyFault _ _ _ _ _ _ e22) (ci := 9) rfl eo22 wc_X9_onlyFault wn_X11_334 wi_X9_onlyFault ws_X9_onlyFault wz_X9 hy_X9_onlyFault ⟨(Nat.le_of_ble_eq_true rfl), (Nat.le_of_ble_eq_true rfl)⟩ ⟨c22, z22⟩ (Nat.le_of_ble_eq_true rfl) rfl dX11_named_22 ?_
    obtain ⟨hw9, rfl, rfl⟩ := wC_at hs
    have hs := hw9
    cases hs
    exact ev_iret C rfl rfl (Nat.le_refl _) (Nat.le_refl _) rfl dX11_named_25
  · replace hs := (if_pos q4).symm.trans hs
    obtain ⟨hw9, rfl, rfl⟩ := wC_at hs
    have hs := hw9
    refine ev_aload_n C (x := .ref o) rfl trivial dX11_named_7 ?_
    refine ev_iconst C (v := 1) dX11_named_8 (by decide) ?_
    obtain ⟨eo9, hs⟩ := kO_at hs
    obtain ⟨x9, h9, e9, hs⟩ := cI_at hs
    refine ev_callV C (T_X11_refused _ _ _ _ _ e9) (ci := 11) rfl eo9 wc_X11_refused wm_X11_105 wi_X11_refused ws_X11_refused wz_X11 hy_X11_refused ⟨(Nat.le_of_ble_eq_true rfl), (Nat.le_of_ble_eq_true rfl)⟩ ⟨(Nat.le_refl _), (Nat.le_refl _)⟩ (Nat.le_of_ble_eq_true rfl) rfl dX11_named_9 ?_
    cases hs
    exact ev_iret C rfl rfl (Nat.le_refl _) (Nat.le_refl _) rfl dX11_named_12
end
-- X11_known
theorem dX11_known_0 : decode cX11_known 0 = .ok (.aload_n 0, 1) := by decide +kernel
theorem dX11_known_1 : decode cX11_known 1 = .ok (.getfield 120, 3) := by decide +kernel
theorem dX11_known_4 : decode cX11_known 4 = .ok (.ifCond .eq 18, 3) := by decide +kernel
theorem dX11_known_7 : decode cX11_known 7 = .ok (.iload_n 1, 1) := by decide +kernel
theorem dX11_known_8 : decode cX11_known 8 = .ok (.ifCond .lt 14, 3) := by decide +kernel
theorem dX11_known_11 : decode cX11_known 11 = .ok (.iload_n 1, 1) := by decide +kernel
theorem dX11_known_12 : decode cX11_known 12 = .ok (.aload_n 0, 1) := by decide +kernel
theorem dX11_known_13 : decode cX11_known 13 = .ok (.getfield 84, 3) := by decide +kernel
theorem dX11_known_16 : decode cX11_known 16 = .ok (.getfield 189, 3) := by decide +kernel
theorem dX11_known_19 : decode cX11_known 19 = .ok (.if_icmp .le 5, 3) := by decide +kernel
theorem dX11_known_22 : decode cX11_known 22 = .ok (.iconst (-1), 1) := by decide +kernel
theorem dX11_known_23 : decode cX11_known 23 = .ok (.ireturn, 1) := by decide +kernel
theorem dX11_known_24 : decode cX11_known 24 = .ok (.aload_n 0, 1) := by decide +kernel
theorem dX11_known_25 : decode cX11_known 25 = .ok (.invokevirtual 320, 3) := by decide +kernel
theorem dX11_known_28 : decode cX11_known 28 = .ok (.iload_n 1, 1) := by decide +kernel
theorem dX11_known_29 : decode cX11_known 29 = .ok (.invokevirtual 338, 3) := by decide +kernel
theorem dX11_known_32 : decode cX11_known 32 = .ok (.ireturn, 1) := by decide +kernel
def s_X11_known (o : Nat) (a1 : Int32) (h : aH) : aP :=
  (gI h (.ref o) 11 2).bind fun x1 => if x1 = 0 then (wC 0 0 (some (.inl (some (.int (-1))), h))) else (if a1 < 0 then (wC 0 0 (some (.inl (some (.int (-1))), h))) else ((gO h (.ref o) 11 16).bind fun x13 => (gI h (.ref x13) 9 4).bind fun x16 => if a1 ≤ x16 then (kO h o 11 (dR (s_X11_readyWatcher o h) fun x25 h25 n25 y25 => ck (0 + n25) (0 + y25) (kO h25 x25 9 (dI (s_X9_cellsAsKnown x25 a1 h25) fun x29 h29 n29 y29 => ck (0 + n25 + n29) (0 + y25 + y29) (wC (0 + n25 + n29) (0 + y25 + y29) (some (.inl (some (.int x29)), h29))))))) else (wC 0 0 (some (.inl (some (.int (-1))), h)))))
section
variable {p : Program} {l : Launch} {e : Env} {s : State} {m : MethodId} {args : Array Value} {below : List Frame} {meth : Method} {c : Code} {D : va_G} {B0 : Nat} {X : Nat → Nat} {ws0 : va_W} {r : aR} {h' : aH} {mc ms : Nat}
theorem hy_X11_known : yX11_known.cls ≠ "java/lang/invoke/MethodHandle" ∧ yX11_known.cls ≠ "java/lang/invoke/VarHandle" ∧ (parseMethodDescriptor yX11_known.desc).map (fun d => d.parameters.length) = some 1 := by decide +kernel
theorem T_X11_known (o : Nat) (a1 : Int32) (h : aH) (r : aR) (h' : aH) (mc ms : Nat) (hs : s_X11_known o a1 h = some (r, h', mc, ms)) : Mt yX11_known (Cond.code yX11_known cX11_known 2 (some .int) :: aTB) 7 170 mc ms [.ref o, .int a1] h r h' := by
  unfold s_X11_known at hs
  refine Mt_of (k := 0) (by decide) rfl (fun p l e s m args below meth c D B0 X ws0 C => ?_)
  show Ev p l e { frames := 7, cells := mc, slots := ms, locals := 170 } s m args below meth c D B0 X ws0 r h' mc ms 2 0 0 0 [some (.ref o), some (.int a1)] [] h
  refine ev_aload_n C (x := .ref o) rfl trivial dX11_known_0 ?_
  obtain ⟨x1, e1, hs⟩ := aB hs
  refine ev_get C (ci := 11) (k := 2) rfl wu_11 (by decide) wf_X11_120 (gI_F e1) dX11_known_1 ?_
  refine ev_if_eq C (tgt := 22) (by decide) dX11_known_4 (fun q4 => ?_) (fun q4 => ?_)
  · replace hs := (if_pos q4).symm.trans hs
    obtain ⟨hw9, rfl, rfl⟩ := wC_at hs
    have hs := hw9
    refine ev_iconst C (v := (-1)) dX11_known_22 (by decide) ?_
    cases hs
    exact ev_iret C rfl rfl (Nat.le_refl _) (Nat.le_refl _) rfl dX11_known_23
  · replace hs := (if_neg q4).symm.trans hs
    refine ev_iload_n C rfl dX11_known_7 ?_
    refine ev_if_lt C (tgt := 22) (by decide) dX11_known_8 (fun q8 => ?_) (fun q8 => ?_)
    · replace hs := (if_pos q8).symm.trans hs
      obtain ⟨hw9, rfl, rfl⟩ := wC_at hs
      have hs := hw9
      refine ev_iconst C (v := (-1)) dX11_known_22 (by decide) ?_
      cases hs
      exact ev_iret C rfl rfl (Nat.le_refl _) (Nat.le_refl _) rfl dX11_known_23
    · replace hs := (if_neg q8).symm.trans hs
      refine ev_iload_n C rfl dX11_known_11 ?_
      refine ev_aload_n C (x := .ref o) rfl trivial dX11_known_12 ?_
      obtain ⟨x13, e13, hs⟩ := aB hs
      refine ev_get C (ci := 11) (k := 16) rfl wu_11 (by decide) wf_X11_84 (gO_F e13) dX11_known_13 ?_
      obtain ⟨x16, e16, hs⟩ := aB hs
      refine ev_getN C (ci := 9) (k := 4) rfl wu_9 (by decide) wg_X11_189 (gI_F e16) dX11_known_16 ?_
      refine ev_icmp_le C (tgt := 24) (by decide) dX11_known_19 (fun q19 => ?_) (fun q19 => ?_)
      · replace hs := (if_pos q19).symm.trans hs
        refine ev_aload_n C (x := .ref o) rfl trivial dX11_known_24 ?_
        obtain ⟨eo25, hs⟩ := kO_at hs
        obtain ⟨x25, h25, n25, y25, e25, hs⟩ := dR_at hs
        obtain ⟨c25, z25, hs⟩ := ck_at hs
        refine ev_callV C (T_X11_readyWatcher _ _ _ _ _ _ e25) (ci := 11) rfl eo25 wc_X11_readyWatcher wm_X11_320 wi_X11_readyWatcher ws_X11_readyWatcher wz_X11 hy_X11_readyWatcher ⟨(Nat.le_of_ble_eq_true rfl), (Nat.le_of_ble_eq_true rfl)⟩ ⟨c25, z25⟩ (Nat.le_of_ble_eq_true rfl) rfl dX11_known_25 ?_
        refine ev_iload_n C rfl dX11_known_28 ?_
        obtain ⟨eo29, hs⟩ := kO_at hs
        obtain ⟨x29, h29, n29, y29, e29, hs⟩ := dI_at hs
        obtain ⟨c29, z29, hs⟩ := ck_at hs
        refine ev_callVN C (T_X9_cellsAsKnown _ _ _ _ _ _ _ e29) (ci := 9) rfl eo29 wc_X9_cellsAsKnown wn_X11_338 wi_X9_cellsAsKnown ws_X9_cellsAsKnown wz_X9 hy_X9_cellsAsKnown ⟨(Nat.le_of_ble_eq_true rfl), (Nat.le_of_ble_eq_true rfl)⟩ ⟨c29, z29⟩ (Nat.le_of_ble_eq_true rfl) rfl dX11_known_29 ?_
        obtain ⟨hw9, rfl, rfl⟩ := wC_at hs
        have hs := hw9
        cases hs
        exact ev_iret C rfl rfl (Nat.le_refl _) (Nat.le_refl _) rfl dX11_known_32
      · replace hs := (if_neg q19).symm.trans hs
        obtain ⟨hw9, rfl, rfl⟩ := wC_at hs
        have hs := hw9
        refine ev_iconst C (v := (-1)) dX11_known_22 (by decide) ?_
        cases hs
        exact ev_iret C rfl rfl (Nat.le_refl _) (Nat.le_refl _) rfl dX11_known_23
end
-- J6_bitCount_0f7a4
theorem dJ6_bitCount_0f7a4_0 : decode cJ6_bitCount_0f7a4 0 = .ok (.iload_n 0, 1) := by decide +kernel
theorem dJ6_bitCount_0f7a4_1 : decode cJ6_bitCount_0f7a4 1 = .ok (.iload_n 0, 1) := by decide +kernel
theorem dJ6_bitCount_0f7a4_2 : decode cJ6_bitCount_0f7a4 2 = .ok (.iconst 1, 1) := by decide +kernel
theorem dJ6_bitCount_0f7a4_3 : decode cJ6_bitCount_0f7a4 3 = .ok (.iushr, 1) := by decide +kernel
theorem dJ6_bitCount_0f7a4_4 : decode cJ6_bitCount_0f7a4 4 = .ok (.ldc_w 265, 3) := by decide +kernel
theorem dJ6_bitCount_0f7a4_7 : decode cJ6_bitCount_0f7a4 7 = .ok (.iand, 1) := by decide +kernel
theorem dJ6_bitCount_0f7a4_8 : decode cJ6_bitCount_0f7a4 8 = .ok (.isub, 1) := by decide +kernel
theorem dJ6_bitCount_0f7a4_9 : decode cJ6_bitCount_0f7a4 9 = .ok (.istore_n 0, 1) := by decide +kernel
theorem dJ6_bitCount_0f7a4_10 : decode cJ6_bitCount_0f7a4 10 = .ok (.iload_n 0, 1) := by decide +kernel
theorem dJ6_bitCount_0f7a4_11 : decode cJ6_bitCount_0f7a4 11 = .ok (.ldc_w 266, 3) := by decide +kernel
theorem dJ6_bitCount_0f7a4_14 : decode cJ6_bitCount_0f7a4 14 = .ok (.iand, 1) := by decide +kernel
theorem dJ6_bitCount_0f7a4_15 : decode cJ6_bitCount_0f7a4 15 = .ok (.iload_n 0, 1) := by decide +kernel
theorem dJ6_bitCount_0f7a4_16 : decode cJ6_bitCount_0f7a4 16 = .ok (.iconst 2, 1) := by decide +kernel
theorem dJ6_bitCount_0f7a4_17 : decode cJ6_bitCount_0f7a4 17 = .ok (.iushr, 1) := by decide +kernel
theorem dJ6_bitCount_0f7a4_18 : decode cJ6_bitCount_0f7a4 18 = .ok (.ldc_w 266, 3) := by decide +kernel
theorem dJ6_bitCount_0f7a4_21 : decode cJ6_bitCount_0f7a4 21 = .ok (.iand, 1) := by decide +kernel
theorem dJ6_bitCount_0f7a4_22 : decode cJ6_bitCount_0f7a4 22 = .ok (.iadd, 1) := by decide +kernel
theorem dJ6_bitCount_0f7a4_23 : decode cJ6_bitCount_0f7a4 23 = .ok (.istore_n 0, 1) := by decide +kernel
theorem dJ6_bitCount_0f7a4_24 : decode cJ6_bitCount_0f7a4 24 = .ok (.iload_n 0, 1) := by decide +kernel
theorem dJ6_bitCount_0f7a4_25 : decode cJ6_bitCount_0f7a4 25 = .ok (.iload_n 0, 1) := by decide +kernel
theorem dJ6_bitCount_0f7a4_26 : decode cJ6_bitCount_0f7a4 26 = .ok (.iconst 4, 1) := by decide +kernel
theorem dJ6_bitCount_0f7a4_27 : decode cJ6_bitCount_0f7a4 27 = .ok (.iushr, 1) := by decide +kernel
theorem dJ6_bitCount_0f7a4_28 : decode cJ6_bitCount_0f7a4 28 = .ok (.iadd, 1) := by decide +kernel
theorem dJ6_bitCount_0f7a4_29 : decode cJ6_bitCount_0f7a4 29 = .ok (.ldc_w 267, 3) := by decide +kernel
theorem dJ6_bitCount_0f7a4_32 : decode cJ6_bitCount_0f7a4 32 = .ok (.iand, 1) := by decide +kernel
theorem dJ6_bitCount_0f7a4_33 : decode cJ6_bitCount_0f7a4 33 = .ok (.istore_n 0, 1) := by decide +kernel
theorem dJ6_bitCount_0f7a4_34 : decode cJ6_bitCount_0f7a4 34 = .ok (.iload_n 0, 1) := by decide +kernel
theorem dJ6_bitCount_0f7a4_35 : decode cJ6_bitCount_0f7a4 35 = .ok (.iload_n 0, 1) := by decide +kernel
theorem dJ6_bitCount_0f7a4_36 : decode cJ6_bitCount_0f7a4 36 = .ok (.bipush 8, 2) := by decide +kernel
theorem dJ6_bitCount_0f7a4_38 : decode cJ6_bitCount_0f7a4 38 = .ok (.iushr, 1) := by decide +kernel
theorem dJ6_bitCount_0f7a4_39 : decode cJ6_bitCount_0f7a4 39 = .ok (.iadd, 1) := by decide +kernel
theorem dJ6_bitCount_0f7a4_40 : decode cJ6_bitCount_0f7a4 40 = .ok (.istore_n 0, 1) := by decide +kernel
theorem dJ6_bitCount_0f7a4_41 : decode cJ6_bitCount_0f7a4 41 = .ok (.iload_n 0, 1) := by decide +kernel
theorem dJ6_bitCount_0f7a4_42 : decode cJ6_bitCount_0f7a4 42 = .ok (.iload_n 0, 1) := by decide +kernel
theorem dJ6_bitCount_0f7a4_43 : decode cJ6_bitCount_0f7a4 43 = .ok (.bipush 16, 2) := by decide +kernel
theorem dJ6_bitCount_0f7a4_45 : decode cJ6_bitCount_0f7a4 45 = .ok (.iushr, 1) := by decide +kernel
theorem dJ6_bitCount_0f7a4_46 : decode cJ6_bitCount_0f7a4 46 = .ok (.iadd, 1) := by decide +kernel
theorem dJ6_bitCount_0f7a4_47 : decode cJ6_bitCount_0f7a4 47 = .ok (.istore_n 0, 1) := by decide +kernel
theorem dJ6_bitCount_0f7a4_48 : decode cJ6_bitCount_0f7a4 48 = .ok (.iload_n 0, 1) := by decide +kernel
theorem dJ6_bitCount_0f7a4_49 : decode cJ6_bitCount_0f7a4 49 = .ok (.bipush 63, 2) := by decide +kernel
theorem dJ6_bitCount_0f7a4_51 : decode cJ6_bitCount_0f7a4 51 = .ok (.iand, 1) := by decide +kernel
theorem dJ6_bitCount_0f7a4_52 : decode cJ6_bitCount_0f7a4 52 = .ok (.ireturn, 1) := by decide +kernel
def s_J6_bitCount_0f7a4 (a1 : Int32) (h : aH) : aO :=
  some (.inl (some (.int ((((((((a1 - (((Int32.toUInt32 a1 >>> (Int32.toUInt32 1 &&& Int32.toUInt32 31)).toInt32) &&& 1431655765)) &&& 858993459) + (((Int32.toUInt32 (a1 - (((Int32.toUInt32 a1 >>> (Int32.toUInt32 1 &&& Int32.toUInt32 31)).toInt32) &&& 1431655765)) >>> (Int32.toUInt32 2 &&& Int32.toUInt32 31)).toInt32) &&& 858993459)) + ((Int32.toUInt32 (((a1 - (((Int32.toUInt32 a1 >>> (Int32.toUInt32 1 &&& Int32.toUInt32 31)).toInt32) &&& 1431655765)) &&& 858993459) + (((Int32.toUInt32 (a1 - (((Int32.toUInt32 a1 >>> (Int32.toUInt32 1 &&& Int32.toUInt32 31)).toInt32) &&& 1431655765)) >>> (Int32.toUInt32 2 &&& Int32.toUInt32 31)).toInt32) &&& 858993459)) >>> (Int32.toUInt32 4 &&& Int32.toUInt32 31)).toInt32)) &&& 252645135) + ((Int32.toUInt32 (((((a1 - (((Int32.toUInt32 a1 >>> (Int32.toUInt32 1 &&& Int32.toUInt32 31)).toInt32) &&& 1431655765)) &&& 858993459) + (((Int32.toUInt32 (a1 - (((Int32.toUInt32 a1 >>> (Int32.toUInt32 1 &&& Int32.toUInt32 31)).toInt32) &&& 1431655765)) >>> (Int32.toUInt32 2 &&& Int32.toUInt32 31)).toInt32) &&& 858993459)) + ((Int32.toUInt32 (((a1 - (((Int32.toUInt32 a1 >>> (Int32.toUInt32 1 &&& Int32.toUInt32 31)).toInt32) &&& 1431655765)) &&& 858993459) + (((Int32.toUInt32 (a1 - (((Int32.toUInt32 a1 >>> (Int32.toUInt32 1 &&& Int32.toUInt32 31)).toInt32) &&& 1431655765)) >>> (Int32.toUInt32 2 &&& Int32.toUInt32 31)).toInt32) &&& 858993459)) >>> (Int32.toUInt32 4 &&& Int32.toUInt32 31)).toInt32)) &&& 252645135) >>> (Int32.toUInt32 8 &&& Int32.toUInt32 31)).toInt32)) + ((Int32.toUInt32 ((((((a1 - (((Int32.toUInt32 a1 >>> (Int32.toUInt32 1 &&& Int32.toUInt32 31)).toInt32) &&& 1431655765)) &&& 858993459) + (((Int32.toUInt32 (a1 - (((Int32.toUInt32 a1 >>> (Int32.toUInt32 1 &&& Int32.toUInt32 31)).toInt32) &&& 1431655765)) >>> (Int32.toUInt32 2 &&& Int32.toUInt32 31)).toInt32) &&& 858993459)) + ((Int32.toUInt32 (((a1 - (((Int32.toUInt32 a1 >>> (Int32.toUInt32 1 &&& Int32.toUInt32 31)).toInt32) &&& 1431655765)) &&& 858993459) + (((Int32.toUInt32 (a1 - (((Int32.toUInt32 a1 >>> (Int32.toUInt32 1 &&& Int32.toUInt32 31)).toInt32) &&& 1431655765)) >>> (Int32.toUInt32 2 &&& Int32.toUInt32 31)).toInt32) &&& 858993459)) >>> (Int32.toUInt32 4 &&& Int32.toUInt32 31)).toInt32)) &&& 252645135) + ((Int32.toUInt32 (((((a1 - (((Int32.toUInt32 a1 >>> (Int32.toUInt32 1 &&& Int32.toUInt32 31)).toInt32) &&& 1431655765)) &&& 858993459) + (((Int32.toUInt32 (a1 - (((Int32.toUInt32 a1 >>> (Int32.toUInt32 1 &&& Int32.toUInt32 31)).toInt32) &&& 1431655765)) >>> (Int32.toUInt32 2 &&& Int32.toUInt32 31)).toInt32) &&& 858993459)) + ((Int32.toUInt32 (((a1 - (((Int32.toUInt32 a1 >>> (Int32.toUInt32 1 &&& Int32.toUInt32 31)).toInt32) &&& 1431655765)) &&& 858993459) + (((Int32.toUInt32 (a1 - (((Int32.toUInt32 a1 >>> (Int32.toUInt32 1 &&& Int32.toUInt32 31)).toInt32) &&& 1431655765)) >>> (Int32.toUInt32 2 &&& Int32.toUInt32 31)).toInt32) &&& 858993459)) >>> (Int32.toUInt32 4 &&& Int32.toUInt32 31)).toInt32)) &&& 252645135) >>> (Int32.toUInt32 8 &&& Int32.toUInt32 31)).toInt32)) >>> (Int32.toUInt32 16 &&& Int32.toUInt32 31)).toInt32)) &&& 63))), h)
section
variable {p : Program} {l : Launch} {e : Env} {s : State} {m : MethodId} {args : Array Value} {below : List Frame} {meth : Method} {c : Code} {D : va_G} {B0 : Nat} {X : Nat → Nat} {ws0 : va_W} {r : aR} {h' : aH} {mc ms : Nat}
theorem hy_J6_bitCount_0f7a4 : yJ6_bitCount_0f7a4.cls ≠ "java/lang/invoke/MethodHandle" ∧ yJ6_bitCount_0f7a4.cls ≠ "java/lang/invoke/VarHandle" ∧ (parseMethodDescriptor yJ6_bitCount_0f7a4.desc).map (fun d => d.parameters.length) = some 1 := by decide +kernel
theorem T_J6_bitCount_0f7a4 (a1 : Int32) (h : aH) (r : aR) (h' : aH) (hs : s_J6_bitCount_0f7a4 a1 h = some (r, h')) : Mt yJ6_bitCount_0f7a4 (Cond.code yJ6_bitCount_0f7a4 cJ6_bitCount_0f7a4 1 (some .int) :: aTB) 0 0 0 0 [.int a1] h r h' := by
  unfold s_J6_bitCount_0f7a4 at hs
  refine Mt_of (k := 0) (by decide) rfl (fun p l e s m args below meth c D B0 X ws0 C => ?_)
  show Ev p l e { frames := 0, cells := 0, slots := 0, locals := 0 } s m args below meth c D B0 X ws0 r h' 0 0 1 0 0 0 [some (.int a1)] [] h
  refine ev_iload_n C rfl dJ6_bitCount_0f7a4_0 ?_
  refine ev_iload_n C rfl dJ6_bitCount_0f7a4_1 ?_
  refine ev_iconst C (v := 1) dJ6_bitCount_0f7a4_2 (by decide) ?_
  refine ev_iushr C dJ6_bitCount_0f7a4_3 ?_
  refine ev_ldcw C wv_J6_265 dJ6_bitCount_0f7a4_4 ?_
  refine ev_iand C dJ6_bitCount_0f7a4_7 ?_
  refine ev_isub C dJ6_bitCount_0f7a4_8 ?_
  refine ev_istore_n C (by decide) dJ6_bitCount_0f7a4_9 ?_
  refine ev_iload_n C rfl dJ6_bitCount_0f7a4_10 ?_
  refine ev_ldcw C wv_J6_266 dJ6_bitCount_0f7a4_11 ?_
  refine ev_iand C dJ6_bitCount_0f7a4_14 ?_
  refine ev_iload_n C rfl dJ6_bitCount_0f7a4_15 ?_
  refine ev_iconst C (v := 2) dJ6_bitCount_0f7a4_16 (by decide) ?_
  refine ev_iushr C dJ6_bitCount_0f7a4_17 ?_
  refine ev_ldcw C wv_J6_266 dJ6_bitCount_0f7a4_18 ?_
  refine ev_iand C dJ6_bitCount_0f7a4_21 ?_
  refine ev_iadd C dJ6_bitCount_0f7a4_22 ?_
  refine ev_istore_n C (by decide) dJ6_bitCount_0f7a4_23 ?_
  refine ev_iload_n C rfl dJ6_bitCount_0f7a4_24 ?_
  refine ev_iload_n C rfl dJ6_bitCount_0f7a4_25 ?_
  refine ev_iconst C (v := 4) dJ6_bitCount_0f7a4_26 (by decide) ?_
  refine ev_iushr C dJ6_bitCount_0f7a4_27 ?_
  refine ev_iadd C dJ6_bitCount_0f7a4_28 ?_
  refine ev_ldcw C wv_J6_267 dJ6_bitCount_0f7a4_29 ?_
  refine ev_iand C dJ6_bitCount_0f7a4_32 ?_
  refine ev_istore_n C (by decide) dJ6_bitCount_0f7a4_33 ?_
  refine ev_iload_n C rfl dJ6_bitCount_0f7a4_34 ?_
  refine ev_iload_n C rfl dJ6_bitCount_0f7a4_35 ?_
  refine ev_bipush C (v := 8) dJ6_bitCount_0f7a4_36 (by decide) ?_
  refine ev_iushr C dJ6_bitCount_0f7a4_38 ?_
  refine ev_iadd C dJ6_bitCount_0f7a4_39 ?_
  refine ev_istore_n C (by decide) dJ6_bitCount_0f7a4_40 ?_
  refine ev_iload_n C rfl dJ6_bitCount_0f7a4_41 ?_
  refine ev_iload_n C rfl dJ6_bitCount_0f7a4_42 ?_
  refine ev_bipush C (v := 16) dJ6_bitCount_0f7a4_43 (by decide) ?_
  refine ev_iushr C dJ6_bitCount_0f7a4_45 ?_
  refine ev_iadd C dJ6_bitCount_0f7a4_46 ?_
  refine ev_istore_n C (by decide) dJ6_bitCount_0f7a4_47 ?_
  refine ev_iload_n C rfl dJ6_bitCount_0f7a4_48 ?_
  refine ev_bipush C (v := 63) dJ6_bitCount_0f7a4_49 (by decide) ?_
  refine ev_iand C dJ6_bitCount_0f7a4_51 ?_
  cases hs
  exact ev_iret C rfl rfl (Nat.le_refl _) (Nat.le_refl _) rfl dJ6_bitCount_0f7a4_52
end
-- X11_fit
theorem dX11_fit_0 : decode cX11_fit 0 = .ok (.aload_n 0, 1) := by decide +kernel
theorem dX11_fit_1 : decode cX11_fit 1 = .ok (.getfield 120, 3) := by decide +kernel
theorem dX11_fit_4 : decode cX11_fit 4 = .ok (.ifCond .ne 9, 3) := by decide +kernel
theorem dX11_fit_7 : decode cX11_fit 7 = .ok (.aload_n 0, 1) := by decide +kernel
theorem dX11_fit_8 : decode cX11_fit 8 = .ok (.iconst 1, 1) := by decide +kernel
theorem dX11_fit_9 : decode cX11_fit 9 = .ok (.invokevirtual 105, 3) := by decide +kernel
theorem dX11_fit_12 : decode cX11_fit 12 = .ok (.ireturn, 1) := by decide +kernel
theorem dX11_fit_13 : decode cX11_fit 13 = .ok (.aload_n 0, 1) := by decide +kernel
theorem dX11_fit_14 : decode cX11_fit 14 = .ok (.iconst 0, 1) := by decide +kernel
theorem dX11_fit_15 : decode cX11_fit 15 = .ok (.putfield 167, 3) := by decide +kernel
theorem dX11_fit_18 : decode cX11_fit 18 = .ok (.aload_n 0, 1) := by decide +kernel
theorem dX11_fit_19 : decode cX11_fit 19 = .ok (.invokevirtual 320, 3) := by decide +kernel
theorem dX11_fit_22 : decode cX11_fit 22 = .ok (.invokevirtual 341, 3) := by decide +kernel
theorem dX11_fit_25 : decode cX11_fit 25 = .ok (.invokestatic 344, 3) := by decide +kernel
theorem dX11_fit_28 : decode cX11_fit 28 = .ok (.ireturn, 1) := by decide +kernel
def s_X11_fit (o : Nat) (h : aH) : aP :=
  (gI h (.ref o) 11 2).bind fun x1 => if x1 = 0 then (wC 0 0 (kO h o 11 (cI (s_X11_refused o 1 h) fun x9 h9 => some (.inl (some (.int x9)), h9)))) else ((pF h (.ref o) 11 3 (.int 0)).bind fun h15 => kO h15 o 11 (dR (s_X11_readyWatcher o h15) fun x19 h19 n19 y19 => ck (0 + n19) (0 + y19) (kO h19 x19 9 (dI (s_X9_fitting x19 h19) fun x22 h22 n22 y22 => ck (0 + n19 + n22) (0 + y19 + y22) (wC (0 + n19 + n22) (0 + y19 + y22) (cI (s_J6_bitCount_0f7a4 x22 h22) fun x25 h25 => some (.inl (some (.int x25)), h25)))))))
section
variable {p : Program} {l : Launch} {e : Env} {s : State} {m : MethodId} {args : Array Value} {below : List Frame} {meth : Method} {c : Code} {D : va_G} {B0 : Nat} {X : Nat → Nat} {ws0 : va_W} {r : aR} {h' : aH} {mc ms : Nat}
theorem hy_X11_fit : yX11_fit.cls ≠ "java/lang/invoke/MethodHandle" ∧ yX11_fit.cls ≠ "java/lang/invoke/VarHandle" ∧ (parseMethodDescriptor yX11_fit.desc).map (fun d => d.parameters.length) = some 0 := by decide +kernel
theorem T_X11_fit (o : Nat) (h : aH) (r : aR) (h' : aH) (mc ms : Nat) (hs : s_X11_fit o h = some (r, h', mc, ms)) : Mt yX11_fit (Cond.code yX11_fit cX11_fit 1 (some .int) :: aTB) 7 170 mc ms [.ref o] h r h' := by
  unfold s_X11_fit at hs
  refine Mt_of (k := 0) (by decide) rfl (fun p l e s m args below meth c D B0 X ws0 C => ?_)
  show Ev p l e { frames := 7, cells := mc, slots := ms, locals := 170 } s m args below meth c D B0 X ws0 r h' mc ms 1 0 0 0 [some (.ref o)] [] h
  refine ev_aload_n C (x := .ref o) rfl trivial dX11_fit_0 ?_
  obtain ⟨x1, e1, hs⟩ := aB hs
  refine ev_get C (ci := 11) (k := 2) rfl wu_11 (by decide) wf_X11_120 (gI_F e1) dX11_fit_1 ?_
  refine ev_if_ne C (tgt := 13) (by decide) dX11_fit_4 (fun q4 => ?_) (fun q4 => ?_)
  · replace hs := (if_neg q4).symm.trans hs
    refine ev_aload_n C (x := .ref o) rfl trivial dX11_fit_13 ?_
    refine ev_iconst C (v := 0) dX11_fit_14 (by decide) ?_
    obtain ⟨h15, e15, hs⟩ := aB hs
    refine ev_put C (ci := 11) (k := 3) rfl wu_11 (by decide) tyX11 tyX11_ok nmX11 wf_X11_167 rfl trivial e15 dX11_fit_15 ?_
    refine ev_aload_n C (x := .ref o) rfl trivial dX11_fit_18 ?_
    obtain ⟨eo19, hs⟩ := kO_at hs
    obtain ⟨x19, h19, n19, y19, e19, hs⟩ := dR_at hs
    obtain ⟨c19, z19, hs⟩ := ck_at hs
    refine ev_callV C (T_X11_readyWatcher _ _ _ _ _ _ e19) (ci := 11) rfl eo19 wc_X11_readyWatcher wm_X11_320 wi_X11_readyWatcher ws_X11_readyWatcher wz_X11 hy_X11_readyWatcher ⟨(Nat.le_of_ble_eq_true rfl), (Nat.le_of_ble_eq_true rfl)⟩ ⟨c19, z19⟩ (Nat.le_of_ble_eq_true rfl) rfl dX11_fit_19 ?_
    obtain ⟨eo22, hs⟩ := kO_at hs
    obtain ⟨x22, h22, n22, y22, e22, hs⟩ := dI_at hs
    obtain ⟨c22, z22, hs⟩ := ck_at hs
    refine ev_callVN C (T_X9_fitting _ _ _ _ _ _ e22) (ci := 9) rfl eo22 wc_X9_fitting wn_X11_341 wi_X9_fitting ws_X9_fitting wz_X9 hy_X9_fitting ⟨(Nat.le_of_ble_eq_true rfl), (Nat.le_of_ble_eq_true rfl)⟩ ⟨c22, z22⟩ (Nat.le_of_ble_eq_true rfl) rfl dX11_fit_22 ?_
    obtain ⟨hw9, rfl, rfl⟩ := wC_at hs
    have hs := hw9
    obtain ⟨x25, h25, e25, hs⟩ := cI_at hs
    refine ev_callS C (T_J6_bitCount_0f7a4 _ _ _ _ e25) wc_J6_bitCount_0f7a4 wm_X11_344 wt_J6_bitCount_0f7a4 wz_J6 hy_J6_bitCount_0f7a4 ⟨(Nat.le_of_ble_eq_true rfl), (Nat.le_of_ble_eq_true rfl)⟩ ⟨(Nat.le_refl _), (Nat.le_refl _)⟩ (Nat.le_of_ble_eq_true rfl) rfl dX11_fit_25 ?_
    cases hs
    exact ev_iret C rfl rfl (Nat.le_refl _) (Nat.le_refl _) rfl dX11_fit_28
  · replace hs := (if_pos q4).symm.trans hs
    obtain ⟨hw9, rfl, rfl⟩ := wC_at hs
    have hs := hw9
    refine ev_aload_n C (x := .ref o) rfl trivial dX11_fit_7 ?_
    refine ev_iconst C (v := 1) dX11_fit_8 (by decide) ?_
    obtain ⟨eo9, hs⟩ := kO_at hs
    obtain ⟨x9, h9, e9, hs⟩ := cI_at hs
    refine ev_callV C (T_X11_refused _ _ _ _ _ e9) (ci := 11) rfl eo9 wc_X11_refused wm_X11_105 wi_X11_refused ws_X11_refused wz_X11 hy_X11_refused ⟨(Nat.le_of_ble_eq_true rfl), (Nat.le_of_ble_eq_true rfl)⟩ ⟨(Nat.le_refl _), (Nat.le_refl _)⟩ (Nat.le_of_ble_eq_true rfl) rfl dX11_fit_9 ?_
    cases hs
    exact ev_iret C rfl rfl (Nat.le_refl _) (Nat.le_refl _) rfl dX11_fit_12
end
-- X11_probe
theorem dX11_probe_0 : decode cX11_probe 0 = .ok (.aload_n 0, 1) := by decide +kernel
theorem dX11_probe_1 : decode cX11_probe 1 = .ok (.iload_n 1, 1) := by decide +kernel
theorem dX11_probe_2 : decode cX11_probe 2 = .ok (.invokevirtual 199, 3) := by decide +kernel
theorem dX11_probe_5 : decode cX11_probe 5 = .ok (.ifCond .ne 9, 3) := by decide +kernel
theorem dX11_probe_8 : decode cX11_probe 8 = .ok (.aload_n 0, 1) := by decide +kernel
theorem dX11_probe_9 : decode cX11_probe 9 = .ok (.iconst 1, 1) := by decide +kernel
theorem dX11_probe_10 : decode cX11_probe 10 = .ok (.invokevirtual 105, 3) := by decide +kernel
theorem dX11_probe_13 : decode cX11_probe 13 = .ok (.ireturn, 1) := by decide +kernel
theorem dX11_probe_14 : decode cX11_probe 14 = .ok (.aload_n 0, 1) := by decide +kernel
theorem dX11_probe_15 : decode cX11_probe 15 = .ok (.invokevirtual 227, 3) := by decide +kernel
theorem dX11_probe_18 : decode cX11_probe 18 = .ok (.getfield 240, 3) := by decide +kernel
theorem dX11_probe_21 : decode cX11_probe 21 = .ok (.iload_n 1, 1) := by decide +kernel
theorem dX11_probe_22 : decode cX11_probe 22 = .ok (.iaload, 1) := by decide +kernel
theorem dX11_probe_23 : decode cX11_probe 23 = .ok (.istore_n 2, 1) := by decide +kernel
theorem dX11_probe_24 : decode cX11_probe 24 = .ok (.iload_n 2, 1) := by decide +kernel
theorem dX11_probe_25 : decode cX11_probe 25 = .ok (.ifCond .ne 9, 3) := by decide +kernel
theorem dX11_probe_28 : decode cX11_probe 28 = .ok (.aload_n 0, 1) := by decide +kernel
theorem dX11_probe_29 : decode cX11_probe 29 = .ok (.iconst 5, 1) := by decide +kernel
theorem dX11_probe_30 : decode cX11_probe 30 = .ok (.invokevirtual 105, 3) := by decide +kernel
theorem dX11_probe_33 : decode cX11_probe 33 = .ok (.ireturn, 1) := by decide +kernel
theorem dX11_probe_34 : decode cX11_probe 34 = .ok (.aload_n 0, 1) := by decide +kernel
theorem dX11_probe_35 : decode cX11_probe 35 = .ok (.iconst 0, 1) := by decide +kernel
theorem dX11_probe_36 : decode cX11_probe 36 = .ok (.putfield 167, 3) := by decide +kernel
theorem dX11_probe_39 : decode cX11_probe 39 = .ok (.aload_n 0, 1) := by decide +kernel
theorem dX11_probe_40 : decode cX11_probe 40 = .ok (.invokevirtual 320, 3) := by decide +kernel
theorem dX11_probe_43 : decode cX11_probe 43 = .ok (.iload_n 1, 1) := by decide +kernel
theorem dX11_probe_44 : decode cX11_probe 44 = .ok (.iload_n 2, 1) := by decide +kernel
theorem dX11_probe_45 : decode cX11_probe 45 = .ok (.invokevirtual 349, 3) := by decide +kernel
theorem dX11_probe_48 : decode cX11_probe 48 = .ok (.ireturn, 1) := by decide +kernel
def s_X11_probe (o : Nat) (a1 : Int32) (h : aH) : aP :=
  kO h o 11 (cI (s_X11_hasCell o a1 h) fun x2 h2 => ck 0 0 (if x2 = 0 then (wC 0 0 (kO h2 o 11 (cI (s_X11_refused o 1 h2) fun x10 h10 => some (.inl (some (.int x10)), h10)))) else (kO h2 o 11 (dR (s_X11_readySafety o h2) fun x15 h15 n15 y15 => ck (0 + n15) (0 + y15) ((gO h15 (.ref x15) 7 8).bind fun x18 => (ldI .int h15 (.ref x18) a1).bind fun x22 => if x22 = 0 then (wC (0 + n15) (0 + y15) (kO h15 o 11 (cI (s_X11_refused o 5 h15) fun x30 h30 => some (.inl (some (.int x30)), h30)))) else ((pF h15 (.ref o) 11 3 (.int 0)).bind fun h36 => kO h36 o 11 (dR (s_X11_readyWatcher o h36) fun x40 h40 n40 y40 => ck (0 + n15 + n40) (0 + y15 + y40) (kO h40 x40 9 (dI (s_X9_telling x40 a1 x22 h40) fun x45 h45 n45 y45 => ck (0 + n15 + n40 + n45) (0 + y15 + y40 + y45) (wC (0 + n15 + n40 + n45) (0 + y15 + y40 + y45) (some (.inl (some (.int x45)), h45))))))))))))
section
variable {p : Program} {l : Launch} {e : Env} {s : State} {m : MethodId} {args : Array Value} {below : List Frame} {meth : Method} {c : Code} {D : va_G} {B0 : Nat} {X : Nat → Nat} {ws0 : va_W} {r : aR} {h' : aH} {mc ms : Nat}
theorem hy_X11_probe : yX11_probe.cls ≠ "java/lang/invoke/MethodHandle" ∧ yX11_probe.cls ≠ "java/lang/invoke/VarHandle" ∧ (parseMethodDescriptor yX11_probe.desc).map (fun d => d.parameters.length) = some 1 := by decide +kernel
theorem T_X11_probe (o : Nat) (a1 : Int32) (h : aH) (r : aR) (h' : aH) (mc ms : Nat) (hs : s_X11_probe o a1 h = some (r, h', mc, ms)) : Mt yX11_probe (Cond.code yX11_probe cX11_probe 3 (some .int) :: aTB) 7 182 mc ms [.ref o, .int a1] h r h' := by
  unfold s_X11_probe at hs
  refine Mt_of (k := 1) (by decide) rfl (fun p l e s m args below meth c D B0 X ws0 C => ?_)
  show Ev p l e { frames := 7, cells := mc, slots := ms, locals := 182 } s m args below meth c D B0 X ws0 r h' mc ms 3 0 0 0 [some (.ref o), some (.int a1), none] [] h
  refine ev_aload_n C (x := .ref o) rfl trivial dX11_probe_0 ?_
  refine ev_iload_n C rfl dX11_probe_1 ?_
  obtain ⟨eo2, hs⟩ := kO_at hs
  obtain ⟨x2, h2, e2, hs⟩ := cI_at hs
  obtain ⟨c2, z2, hs⟩ := ck_at hs
  refine ev_callV C (T_X11_hasCell _ _ _ _ _ e2) (ci := 11) rfl eo2 wc_X11_hasCell wm_X11_199 wi_X11_hasCell ws_X11_hasCell wz_X11 hy_X11_hasCell ⟨(Nat.le_of_ble_eq_true rfl), (Nat.le_of_ble_eq_true rfl)⟩ ⟨c2, z2⟩ (Nat.le_of_ble_eq_true rfl) rfl dX11_probe_2 ?_
  refine ev_if_ne C (tgt := 14) (by decide) dX11_probe_5 (fun q5 => ?_) (fun q5 => ?_)
  · replace hs := (if_neg q5).symm.trans hs
    refine ev_aload_n C (x := .ref o) rfl trivial dX11_probe_14 ?_
    obtain ⟨eo15, hs⟩ := kO_at hs
    obtain ⟨x15, h15, n15, y15, e15, hs⟩ := dR_at hs
    obtain ⟨c15, z15, hs⟩ := ck_at hs
    refine ev_callV C (T_X11_readySafety _ _ _ _ _ _ e15) (ci := 11) rfl eo15 wc_X11_readySafety wm_X11_227 wi_X11_readySafety ws_X11_readySafety wz_X11 hy_X11_readySafety ⟨(Nat.le_of_ble_eq_true rfl), (Nat.le_of_ble_eq_true rfl)⟩ ⟨c15, z15⟩ (Nat.le_of_ble_eq_true rfl) rfl dX11_probe_15 ?_
    obtain ⟨x18, e18, hs⟩ := aB hs
    refine ev_getN C (ci := 7) (k := 8) rfl wu_7 (by decide) wg_X11_240 (gO_F e18) dX11_probe_18 ?_
    refine ev_iload_n C rfl dX11_probe_21 ?_
    obtain ⟨x22, e22, hs⟩ := aB hs
    refine ev_iald C e22 dX11_probe_22 ?_
    refine ev_istore_n C (by decide) dX11_probe_23 ?_
    refine ev_iload_n C rfl dX11_probe_24 ?_
    refine ev_if_ne C (tgt := 34) (by decide) dX11_probe_25 (fun q25 => ?_) (fun q25 => ?_)
    · replace hs := (if_neg q25).symm.trans hs
      refine ev_aload_n C (x := .ref o) rfl trivial dX11_probe_34 ?_
      refine ev_iconst C (v := 0) dX11_probe_35 (by decide) ?_
      obtain ⟨h36, e36, hs⟩ := aB hs
      refine ev_put C (ci := 11) (k := 3) rfl wu_11 (by decide) tyX11 tyX11_ok nmX11 wf_X11_167 rfl trivial e36 dX11_probe_36 ?_
      refine ev_aload_n C (x := .ref o) rfl trivial dX11_probe_39 ?_
      obtain ⟨eo40, hs⟩ := kO_at hs
      obtain ⟨x40, h40, n40, y40, e40, hs⟩ := dR_at hs
      obtain ⟨c40, z40, hs⟩ := ck_at hs
      refine ev_callV C (T_X11_readyWatcher _ _ _ _ _ _ e40) (ci := 11) rfl eo40 wc_X11_readyWatcher wm_X11_320 wi_X11_readyWatcher ws_X11_readyWatcher wz_X11 hy_X11_readyWatcher ⟨(Nat.le_of_ble_eq_true rfl), (Nat.le_of_ble_eq_true rfl)⟩ ⟨c40, z40⟩ (Nat.le_of_ble_eq_true rfl) rfl dX11_probe_40 ?_
      refine ev_iload_n C rfl dX11_probe_43 ?_
      refine ev_iload_n C rfl dX11_probe_44 ?_
      obtain ⟨eo45, hs⟩ := kO_at hs
      obtain ⟨x45, h45, n45, y45, e45, hs⟩ := dI_at hs
      obtain ⟨c45, z45, hs⟩ := ck_at hs
      refine ev_callVN C (T_X9_telling _ _ _ _ _ _ _ _ e45) (ci := 9) rfl eo45 wc_X9_telling wn_X11_349 wi_X9_telling ws_X9_telling wz_X9 hy_X9_telling ⟨(Nat.le_of_ble_eq_true rfl), (Nat.le_of_ble_eq_true rfl)⟩ ⟨c45, z45⟩ (Nat.le_of_ble_eq_true rfl) rfl dX11_probe_45 ?_
      obtain ⟨hw9, rfl, rfl⟩ := wC_at hs
      have hs := hw9
      cases hs
      exact ev_iret C rfl rfl (Nat.le_refl _) (Nat.le_refl _) rfl dX11_probe_48
    · replace hs := (if_pos q25).symm.trans hs
      obtain ⟨hw9, rfl, rfl⟩ := wC_at hs
      have hs := hw9
      refine ev_aload_n C (x := .ref o) rfl trivial dX11_probe_28 ?_
      refine ev_iconst C (v := 5) dX11_probe_29 (by decide) ?_
      obtain ⟨eo30, hs⟩ := kO_at hs
      obtain ⟨x30, h30, e30, hs⟩ := cI_at hs
      refine ev_callV C (T_X11_refused _ _ _ _ _ e30) (ci := 11) rfl eo30 wc_X11_refused wm_X11_105 wi_X11_refused ws_X11_refused wz_X11 hy_X11_refused ⟨(Nat.le_of_ble_eq_true rfl), (Nat.le_of_ble_eq_true rfl)⟩ ⟨(Nat.le_refl _), (Nat.le_refl _)⟩ (Nat.le_of_ble_eq_true rfl) rfl dX11_probe_30 ?_
      cases hs
      exact ev_iret C rfl rfl (Nat.le_refl _) (Nat.le_refl _) rfl dX11_probe_33
  · replace hs := (if_pos q5).symm.trans hs
    obtain ⟨hw9, rfl, rfl⟩ := wC_at hs
    have hs := hw9
    refine ev_aload_n C (x := .ref o) rfl trivial dX11_probe_8 ?_
    refine ev_iconst C (v := 1) dX11_probe_9 (by decide) ?_
    obtain ⟨eo10, hs⟩ := kO_at hs
    obtain ⟨x10, h10, e10, hs⟩ := cI_at hs
    refine ev_callV C (T_X11_refused _ _ _ _ _ e10) (ci := 11) rfl eo10 wc_X11_refused wm_X11_105 wi_X11_refused ws_X11_refused wz_X11 hy_X11_refused ⟨(Nat.le_of_ble_eq_true rfl), (Nat.le_of_ble_eq_true rfl)⟩ ⟨(Nat.le_refl _), (Nat.le_refl _)⟩ (Nat.le_of_ble_eq_true rfl) rfl dX11_probe_10 ?_
    cases hs
    exact ev_iret C rfl rfl (Nat.le_refl _) (Nat.le_refl _) rfl dX11_probe_13
end
-- X11_anew
theorem dX11_anew_0 : decode cX11_anew 0 = .ok (.aload_n 0, 1) := by decide +kernel
theorem dX11_anew_1 : decode cX11_anew 1 = .ok (.getfield 120, 3) := by decide +kernel
theorem dX11_anew_4 : decode cX11_anew 4 = .ok (.ifCond .ne 9, 3) := by decide +kernel
theorem dX11_anew_7 : decode cX11_anew 7 = .ok (.aload_n 0, 1) := by decide +kernel
theorem dX11_anew_8 : decode cX11_anew 8 = .ok (.iconst 1, 1) := by decide +kernel
theorem dX11_anew_9 : decode cX11_anew 9 = .ok (.invokevirtual 105, 3) := by decide +kernel
theorem dX11_anew_12 : decode cX11_anew 12 = .ok (.ireturn, 1) := by decide +kernel
theorem dX11_anew_13 : decode cX11_anew 13 = .ok (.aload_n 0, 1) := by decide +kernel
theorem dX11_anew_14 : decode cX11_anew 14 = .ok (.iconst 0, 1) := by decide +kernel
theorem dX11_anew_15 : decode cX11_anew 15 = .ok (.putfield 167, 3) := by decide +kernel
theorem dX11_anew_18 : decode cX11_anew 18 = .ok (.aload_n 0, 1) := by decide +kernel
theorem dX11_anew_19 : decode cX11_anew 19 = .ok (.getfield 84, 3) := by decide +kernel
theorem dX11_anew_22 : decode cX11_anew 22 = .ok (.getfield 189, 3) := by decide +kernel
theorem dX11_anew_25 : decode cX11_anew 25 = .ok (.istore_n 1, 1) := by decide +kernel
theorem dX11_anew_26 : decode cX11_anew 26 = .ok (.aload_n 0, 1) := by decide +kernel
theorem dX11_anew_27 : decode cX11_anew 27 = .ok (.getfield 84, 3) := by decide +kernel
theorem dX11_anew_30 : decode cX11_anew 30 = .ok (.invokevirtual 132, 3) := by decide +kernel
theorem dX11_anew_33 : decode cX11_anew 33 = .ok (.iload_n 1, 1) := by decide +kernel
theorem dX11_anew_34 : decode cX11_anew 34 = .ok (.ireturn, 1) := by decide +kernel
def s_X11_anew (o : Nat) (h : aH) : aO :=
  (gI h (.ref o) 11 2).bind fun x1 => if x1 = 0 then (kO h o 11 (cI (s_X11_refused o 1 h) fun x9 h9 => some (.inl (some (.int x9)), h9))) else ((pF h (.ref o) 11 3 (.int 0)).bind fun h15 => (gO h15 (.ref o) 11 16).bind fun x19 => (gI h15 (.ref x19) 9 4).bind fun x22 => (gO h15 (.ref o) 11 16).bind fun x27 => kO h15 x27 9 (cN (s_X9_renew x27 h15) fun h30 => some (.inl (some (.int x22)), h30)))
section
variable {p : Program} {l : Launch} {e : Env} {s : State} {m : MethodId} {args : Array Value} {below : List Frame} {meth : Method} {c : Code} {D : va_G} {B0 : Nat} {X : Nat → Nat} {ws0 : va_W} {r : aR} {h' : aH} {mc ms : Nat}
theorem hy_X11_anew : yX11_anew.cls ≠ "java/lang/invoke/MethodHandle" ∧ yX11_anew.cls ≠ "java/lang/invoke/VarHandle" ∧ (parseMethodDescriptor yX11_anew.desc).map (fun d => d.parameters.length) = some 0 := by decide +kernel
theorem T_X11_anew (o : Nat) (h : aH) (r : aR) (h' : aH) (hs : s_X11_anew o h = some (r, h')) : Mt yX11_anew (Cond.code yX11_anew cX11_anew 2 (some .int) :: aTB) 3 63 0 0 [.ref o] h r h' := by
  unfold s_X11_anew at hs
  refine Mt_of (k := 1) (by decide) rfl (fun p l e s m args below meth c D B0 X ws0 C => ?_)
  show Ev p l e { frames := 3, cells := 0, slots := 0, locals := 63 } s m args below meth c D B0 X ws0 r h' 0 0 2 0 0 0 [some (.ref o), none] [] h
  refine ev_aload_n C (x := .ref o) rfl trivial dX11_anew_0 ?_
  obtain ⟨x1, e1, hs⟩ := aB hs
  refine ev_get C (ci := 11) (k := 2) rfl wu_11 (by decide) wf_X11_120 (gI_F e1) dX11_anew_1 ?_
  refine ev_if_ne C (tgt := 13) (by decide) dX11_anew_4 (fun q4 => ?_) (fun q4 => ?_)
  · replace hs := (if_neg q4).symm.trans hs
    refine ev_aload_n C (x := .ref o) rfl trivial dX11_anew_13 ?_
    refine ev_iconst C (v := 0) dX11_anew_14 (by decide) ?_
    obtain ⟨h15, e15, hs⟩ := aB hs
    refine ev_put C (ci := 11) (k := 3) rfl wu_11 (by decide) tyX11 tyX11_ok nmX11 wf_X11_167 rfl trivial e15 dX11_anew_15 ?_
    refine ev_aload_n C (x := .ref o) rfl trivial dX11_anew_18 ?_
    obtain ⟨x19, e19, hs⟩ := aB hs
    refine ev_get C (ci := 11) (k := 16) rfl wu_11 (by decide) wf_X11_84 (gO_F e19) dX11_anew_19 ?_
    obtain ⟨x22, e22, hs⟩ := aB hs
    refine ev_getN C (ci := 9) (k := 4) rfl wu_9 (by decide) wg_X11_189 (gI_F e22) dX11_anew_22 ?_
    refine ev_istore_n C (by decide) dX11_anew_25 ?_
    refine ev_aload_n C (x := .ref o) rfl trivial dX11_anew_26 ?_
    obtain ⟨x27, e27, hs⟩ := aB hs
    refine ev_get C (ci := 11) (k := 16) rfl wu_11 (by decide) wf_X11_84 (gO_F e27) dX11_anew_27 ?_
    obtain ⟨eo30, hs⟩ := kO_at hs
    obtain ⟨h30, e30, hs⟩ := cN_at hs
    refine ev_callVN C (T_X9_renew _ _ _ _ e30) (ci := 9) rfl eo30 wc_X9_renew wn_X11_132 wi_X9_renew ws_X9_renew wz_X9 hy_X9_renew ⟨(Nat.le_of_ble_eq_true rfl), (Nat.le_of_ble_eq_true rfl)⟩ ⟨(Nat.le_refl _), (Nat.le_refl _)⟩ (Nat.le_of_ble_eq_true rfl) rfl dX11_anew_30 ?_
    refine ev_iload_n C rfl dX11_anew_33 ?_
    cases hs
    exact ev_iret C rfl rfl (Nat.le_refl _) (Nat.le_refl _) rfl dX11_anew_34
  · replace hs := (if_pos q4).symm.trans hs
    refine ev_aload_n C (x := .ref o) rfl trivial dX11_anew_7 ?_
    refine ev_iconst C (v := 1) dX11_anew_8 (by decide) ?_
    obtain ⟨eo9, hs⟩ := kO_at hs
    obtain ⟨x9, h9, e9, hs⟩ := cI_at hs
    refine ev_callV C (T_X11_refused _ _ _ _ _ e9) (ci := 11) rfl eo9 wc_X11_refused wm_X11_105 wi_X11_refused ws_X11_refused wz_X11 hy_X11_refused ⟨(Nat.le_of_ble_eq_true rfl), (Nat.le_of_ble_eq_true rfl)⟩ ⟨(Nat.le_refl _), (Nat.le_refl _)⟩ (Nat.le_of_ble_eq_true rfl) rfl dX11_anew_9 ?_
    cases hs
    exact ev_iret C rfl rfl (Nat.le_refl _) (Nat.le_refl _) rfl dX11_anew_12
end
-- X11_isShort
theorem dX11_isShort_0 : decode cX11_isShort 0 = .ok (.iload_n 0, 1) := by decide +kernel
theorem dX11_isShort_1 : decode cX11_isShort 1 = .ok (.bipush (-128), 2) := by decide +kernel
theorem dX11_isShort_3 : decode cX11_isShort 3 = .ok (.if_icmp .lt 13, 3) := by decide +kernel
theorem dX11_isShort_6 : decode cX11_isShort 6 = .ok (.iload_n 0, 1) := by decide +kernel
theorem dX11_isShort_7 : decode cX11_isShort 7 = .ok (.bipush 127, 2) := by decide +kernel
theorem dX11_isShort_9 : decode cX11_isShort 9 = .ok (.if_icmp .gt 7, 3) := by decide +kernel
theorem dX11_isShort_12 : decode cX11_isShort 12 = .ok (.iconst 1, 1) := by decide +kernel
theorem dX11_isShort_13 : decode cX11_isShort 13 = .ok (.goto 4, 3) := by decide +kernel
theorem dX11_isShort_16 : decode cX11_isShort 16 = .ok (.iconst 0, 1) := by decide +kernel
theorem dX11_isShort_17 : decode cX11_isShort 17 = .ok (.ireturn, 1) := by decide +kernel
def s_X11_isShort (a1 : Int32) (h : aH) : aO :=
  if a1 < (-128) then (rtZ 0 h) else (if 127 < a1 then (rtZ 0 h) else (rtZ 1 h))
section
variable {p : Program} {l : Launch} {e : Env} {s : State} {m : MethodId} {args : Array Value} {below : List Frame} {meth : Method} {c : Code} {D : va_G} {B0 : Nat} {X : Nat → Nat} {ws0 : va_W} {r : aR} {h' : aH} {mc ms : Nat}
theorem hy_X11_isShort : yX11_isShort.cls ≠ "java/lang/invoke/MethodHandle" ∧ yX11_isShort.cls ≠ "java/lang/invoke/VarHandle" ∧ (parseMethodDescriptor yX11_isShort.desc).map (fun d => d.parameters.length) = some 1 := by decide +kernel
theorem T_X11_isShort (a1 : Int32) (h : aH) (r : aR) (h' : aH) (hs : s_X11_isShort a1 h = some (r, h')) : Mt yX11_isShort (Cond.code yX11_isShort cX11_isShort 1 (some .boolean) :: aTB) 0 0 0 0 [.int a1] h r h' := by
  unfold s_X11_isShort at hs
  refine Mt_of (k := 0) (by decide) rfl (fun p l e s m args below meth c D B0 X ws0 C => ?_)
  show Ev p l e { frames := 0, cells := 0, slots := 0, locals := 0 } s m args below meth c D B0 X ws0 r h' 0 0 1 0 0 0 [some (.int a1)] [] h
  refine ev_iload_n C rfl dX11_isShort_0 ?_
  refine ev_bipush C (v := (-128)) dX11_isShort_1 (by decide) ?_
  refine ev_icmp_lt C (tgt := 16) (by decide) dX11_isShort_3 (fun q3 => ?_) (fun q3 => ?_)
  · replace hs := (if_pos q3).symm.trans hs
    refine ev_iconst C (v := 0) dX11_isShort_16 (by decide) ?_
    obtain ⟨hz, rfl, rfl⟩ := rtZ_at hs
    exact ev_zret C rfl hz rfl (Nat.le_refl _) (Nat.le_refl _) rfl dX11_isShort_17
  · replace hs := (if_neg q3).symm.trans hs
    refine ev_iload_n C rfl dX11_isShort_6 ?_
    refine ev_bipush C (v := 127) dX11_isShort_7 (by decide) ?_
    refine ev_icmp_gt C (tgt := 16) (by decide) dX11_isShort_9 (fun q9 => ?_) (fun q9 => ?_)
    · replace hs := (if_pos q9).symm.trans hs
      refine ev_iconst C (v := 0) dX11_isShort_16 (by decide) ?_
      obtain ⟨hz, rfl, rfl⟩ := rtZ_at hs
      exact ev_zret C rfl hz rfl (Nat.le_refl _) (Nat.le_refl _) rfl dX11_isShort_17
    · replace hs := (if_neg q9).symm.trans hs
      refine ev_iconst C (v := 1) dX11_isShort_12 (by decide) ?_
      refine ev_goto C (tgt := 17) (by decide) dX11_isShort_13 ?_
      obtain ⟨hz, rfl, rfl⟩ := rtZ_at hs
      exact ev_zret C rfl hz rfl (Nat.le_refl _) (Nat.le_refl _) rfl dX11_isShort_17
end
-- X11_code
theorem dX11_code_0 : decode cX11_code 0 = .ok (.aload_n 0, 1) := by decide +kernel
theorem dX11_code_1 : decode cX11_code 1 = .ok (.getfield 120, 3) := by decide +kernel
theorem dX11_code_4 : decode cX11_code 4 = .ok (.ifCond .ne 10, 3) := by decide +kernel
theorem dX11_code_7 : decode cX11_code 7 = .ok (.aload_n 0, 1) := by decide +kernel
theorem dX11_code_8 : decode cX11_code 8 = .ok (.iconst 1, 1) := by decide +kernel
theorem dX11_code_9 : decode cX11_code 9 = .ok (.putfield 167, 3) := by decide +kernel
theorem dX11_code_12 : decode cX11_code 12 = .ok (.iconst 0, 1) := by decide +kernel
theorem dX11_code_13 : decode cX11_code 13 = .ok (.ireturn, 1) := by decide +kernel
theorem dX11_code_14 : decode cX11_code 14 = .ok (.aload_n 0, 1) := by decide +kernel
theorem dX11_code_15 : decode cX11_code 15 = .ok (.getfield 19, 3) := by decide +kernel
theorem dX11_code_18 : decode cX11_code 18 = .ok (.getfield 173, 3) := by decide +kernel
theorem dX11_code_21 : decode cX11_code 21 = .ok (.iconst 1, 1) := by decide +kernel
theorem dX11_code_22 : decode cX11_code 22 = .ok (.iaload, 1) := by decide +kernel
theorem dX11_code_23 : decode cX11_code 23 = .ok (.iconst 1, 1) := by decide +kernel
theorem dX11_code_24 : decode cX11_code 24 = .ok (.if_icmp .eq 10, 3) := by decide +kernel
theorem dX11_code_27 : decode cX11_code 27 = .ok (.aload_n 0, 1) := by decide +kernel
theorem dX11_code_28 : decode cX11_code 28 = .ok (.iconst 5, 1) := by decide +kernel
theorem dX11_code_29 : decode cX11_code 29 = .ok (.putfield 167, 3) := by decide +kernel
theorem dX11_code_32 : decode cX11_code 32 = .ok (.iconst 0, 1) := by decide +kernel
theorem dX11_code_33 : decode cX11_code 33 = .ok (.ireturn, 1) := by decide +kernel
theorem dX11_code_34 : decode cX11_code 34 = .ok (.iload_n 1, 1) := by decide +kernel
theorem dX11_code_35 : decode cX11_code 35 = .ok (.invokestatic 352, 3) := by decide +kernel
theorem dX11_code_38 : decode cX11_code 38 = .ok (.ifCond .eq 29, 3) := by decide +kernel
theorem dX11_code_41 : decode cX11_code 41 = .ok (.iload_n 2, 1) := by decide +kernel
theorem dX11_code_42 : decode cX11_code 42 = .ok (.invokestatic 352, 3) := by decide +kernel
theorem dX11_code_45 : decode cX11_code 45 = .ok (.ifCond .eq 22, 3) := by decide +kernel
theorem dX11_code_48 : decode cX11_code 48 = .ok (.iload_n 3, 1) := by decide +kernel
theorem dX11_code_49 : decode cX11_code 49 = .ok (.invokestatic 352, 3) := by decide +kernel
theorem dX11_code_52 : decode cX11_code 52 = .ok (.ifCond .eq 15, 3) := by decide +kernel
theorem dX11_code_55 : decode cX11_code 55 = .ok (.iload 4, 2) := by decide +kernel
theorem dX11_code_57 : decode cX11_code 57 = .ok (.invokestatic 352, 3) := by decide +kernel
theorem dX11_code_60 : decode cX11_code 60 = .ok (.ifCond .eq 7, 3) := by decide +kernel
theorem dX11_code_63 : decode cX11_code 63 = .ok (.iconst 1, 1) := by decide +kernel
theorem dX11_code_64 : decode cX11_code 64 = .ok (.goto 4, 3) := by decide +kernel
theorem dX11_code_67 : decode cX11_code 67 = .ok (.iconst 0, 1) := by decide +kernel
theorem dX11_code_68 : decode cX11_code 68 = .ok (.istore 6, 2) := by decide +kernel
theorem dX11_code_70 : decode cX11_code 70 = .ok (.iload 6, 2) := by decide +kernel
theorem dX11_code_72 : decode cX11_code 72 = .ok (.ifCond .eq 15, 3) := by decide +kernel
theorem dX11_code_75 : decode cX11_code 75 = .ok (.iload 5, 2) := by decide +kernel
theorem dX11_code_77 : decode cX11_code 77 = .ok (.ifCond .lt 10, 3) := by decide +kernel
theorem dX11_code_80 : decode cX11_code 80 = .ok (.iload 5, 2) := by decide +kernel
theorem dX11_code_82 : decode cX11_code 82 = .ok (.bipush 7, 2) := by decide +kernel
theorem dX11_code_84 : decode cX11_code 84 = .ok (.if_icmp .le 10, 3) := by decide +kernel
theorem dX11_code_87 : decode cX11_code 87 = .ok (.aload_n 0, 1) := by decide +kernel
theorem dX11_code_88 : decode cX11_code 88 = .ok (.iconst 2, 1) := by decide +kernel
theorem dX11_code_89 : decode cX11_code 89 = .ok (.putfield 167, 3) := by decide +kernel
theorem dX11_code_92 : decode cX11_code 92 = .ok (.iconst 0, 1) := by decide +kernel
theorem dX11_code_93 : decode cX11_code 93 = .ok (.ireturn, 1) := by decide +kernel
theorem dX11_code_94 : decode cX11_code 94 = .ok (.aload_n 0, 1) := by decide +kernel
theorem dX11_code_95 : decode cX11_code 95 = .ok (.iconst 0, 1) := by decide +kernel
theorem dX11_code_96 : decode cX11_code 96 = .ok (.putfield 167, 3) := by decide +kernel
theorem dX11_code_99 : decode cX11_code 99 = .ok (.aload_n 0, 1) := by decide +kernel
theorem dX11_code_100 : decode cX11_code 100 = .ok (.getfield 93, 3) := by decide +kernel
theorem dX11_code_103 : decode cX11_code 103 = .ok (.iload_n 1, 1) := by decide +kernel
theorem dX11_code_104 : decode cX11_code 104 = .ok (.iload_n 2, 1) := by decide +kernel
theorem dX11_code_105 : decode cX11_code 105 = .ok (.iload_n 3, 1) := by decide +kernel
theorem dX11_code_106 : decode cX11_code 106 = .ok (.iload 4, 2) := by decide +kernel
theorem dX11_code_108 : decode cX11_code 108 = .ok (.iload 5, 2) := by decide +kernel
theorem dX11_code_110 : decode cX11_code 110 = .ok (.invokevirtual 355, 3) := by decide +kernel
theorem dX11_code_113 : decode cX11_code 113 = .ok (.iconst 1, 1) := by decide +kernel
theorem dX11_code_114 : decode cX11_code 114 = .ok (.ireturn, 1) := by decide +kernel
def s_X11_code_87  (l0 : Nat) (h : aH) : aO :=
  (pF h (.ref l0) 11 3 (.int 2)).bind fun h89 => rtZ 0 h89
def s_X11_code_68  (l0 : Nat) (l1 : Int32) (l2 : Int32) (l3 : Int32) (l4 : Int32) (l5 : Int32) (s0 : Int32) (h : aH) : aO :=
  if s0 = 0 then (s_X11_code_87 l0 h) else (if l5 < 0 then (s_X11_code_87 l0 h) else (if l5 ≤ 7 then ((pF h (.ref l0) 11 3 (.int 0)).bind fun h96 => (gO h96 (.ref l0) 11 17).bind fun x100 => kO h96 x100 5 (cN (s_X5_setCode x100 l1 l2 l3 l4 l5 h96) fun h110 => rtZ 1 h110)) else (s_X11_code_87 l0 h)))
def s_X11_code_67  (l0 : Nat) (l1 : Int32) (l2 : Int32) (l3 : Int32) (l4 : Int32) (l5 : Int32) (h : aH) : aO :=
  s_X11_code_68 l0 l1 l2 l3 l4 l5 0 h
def s_X11_code (o : Nat) (a1 : Int32) (a2 : Int32) (a3 : Int32) (a4 : Int32) (a5 : Int32) (h : aH) : aO :=
  (gI h (.ref o) 11 2).bind fun x1 => if x1 = 0 then ((pF h (.ref o) 11 3 (.int 1)).bind fun h9 => rtZ 0 h9) else ((gO h (.ref o) 11 7).bind fun x15 => (gO h (.ref x15) 2 0).bind fun x18 => (ldI .int h (.ref x18) 1).bind fun x22 => if x22 = 1 then (cI (s_X11_isShort a1 h) fun x35 h35 => if x35 = 0 then (s_X11_code_67 o a1 a2 a3 a4 a5 h35) else (cI (s_X11_isShort a2 h35) fun x42 h42 => if x42 = 0 then (s_X11_code_67 o a1 a2 a3 a4 a5 h42) else (cI (s_X11_isShort a3 h42) fun x49 h49 => if x49 = 0 then (s_X11_code_67 o a1 a2 a3 a4 a5 h49) else (cI (s_X11_isShort a4 h49) fun x57 h57 => if x57 = 0 then (s_X11_code_67 o a1 a2 a3 a4 a5 h57) else (s_X11_code_68 o a1 a2 a3 a4 a5 1 h57))))) else ((pF h (.ref o) 11 3 (.int 5)).bind fun h29 => rtZ 0 h29))
section
variable {p : Program} {l : Launch} {e : Env} {s : State} {m : MethodId} {args : Array Value} {below : List Frame} {meth : Method} {c : Code} {D : va_G} {B0 : Nat} {X : Nat → Nat} {ws0 : va_W} {r : aR} {h' : aH} {mc ms : Nat}
theorem t_X11_code_87 (C : Cx p l s m args meth c B0 X RX11 "code" cX11_code 7 (some .boolean) [])   {l0 : Nat} {h : aH} (hs : s_X11_code_87  l0 h = some (r, h')) : Ev p l e { frames := 1, cells := mc, slots := ms, locals := 25 } s m args below meth c D B0 X ws0 r h' mc ms 7 mc ms 87 [some (.ref l0), none, none, none, none, none, none] [] h := by
  unfold s_X11_code_87 at hs
  refine ev_aload_n C (x := .ref l0) rfl trivial dX11_code_87 ?_
  refine ev_iconst C (v := 2) dX11_code_88 (by decide) ?_
  obtain ⟨h89, e89, hs⟩ := aB hs
  refine ev_put C (ci := 11) (k := 3) rfl wu_11 (by decide) tyX11 tyX11_ok nmX11 wf_X11_167 rfl trivial e89 dX11_code_89 ?_
  refine ev_iconst C (v := 0) dX11_code_92 (by decide) ?_
  obtain ⟨hz, rfl, rfl⟩ := rtZ_at hs
  exact ev_zret C rfl hz rfl (Nat.le_refl _) (Nat.le_refl _) rfl dX11_code_93
theorem t_X11_code_68 (C : Cx p l s m args meth c B0 X RX11 "code" cX11_code 7 (some .boolean) [])   {l0 : Nat} {l1 : Int32} {l2 : Int32} {l3 : Int32} {l4 : Int32} {l5 : Int32} {s0 : Int32} {h : aH} (hs : s_X11_code_68  l0 l1 l2 l3 l4 l5 s0 h = some (r, h')) : Ev p l e { frames := 1, cells := mc, slots := ms, locals := 25 } s m args below meth c D B0 X ws0 r h' mc ms 7 mc ms 68 [some (.ref l0), some (.int l1), some (.int l2), some (.int l3), some (.int l4), some (.int l5), none] [.int s0] h := by
  unfold s_X11_code_68 at hs
  refine ev_istore C (by decide) dX11_code_68 ?_
  refine ev_iload C rfl dX11_code_70 ?_
  refine ev_if_eq C (tgt := 87) (by decide) dX11_code_72 (fun q72 => ?_) (fun q72 => ?_)
  · replace hs := (if_pos q72).symm.trans hs
    exact Ev.keep [true, false, false, false, false, false, false] (t_X11_code_87 C  hs)
  · replace hs := (if_neg q72).symm.trans hs
    refine ev_iload C rfl dX11_code_75 ?_
    refine ev_if_lt C (tgt := 87) (by decide) dX11_code_77 (fun q77 => ?_) (fun q77 => ?_)
    · replace hs := (if_pos q77).symm.trans hs
      exact Ev.keep [true, false, false, false, false, false, false] (t_X11_code_87 C  hs)
    · replace hs := (if_neg q77).symm.trans hs
      refine ev_iload C rfl dX11_code_80 ?_
      refine ev_bipush C (v := 7) dX11_code_82 (by decide) ?_
      refine ev_icmp_le C (tgt := 94) (by decide) dX11_code_84 (fun q84 => ?_) (fun q84 => ?_)
      · replace hs := (if_pos q84).symm.trans hs
        refine ev_aload_n C (x := .ref l0) rfl trivial dX11_code_94 ?_
        refine ev_iconst C (v := 0) dX11_code_95 (by decide) ?_
        obtain ⟨h96, e96, hs⟩ := aB hs
        refine ev_put C (ci := 11) (k := 3) rfl wu_11 (by decide) tyX11 tyX11_ok nmX11 wf_X11_167 rfl trivial e96 dX11_code_96 ?_
        refine ev_aload_n C (x := .ref l0) rfl trivial dX11_code_99 ?_
        obtain ⟨x100, e100, hs⟩ := aB hs
        refine ev_get C (ci := 11) (k := 17) rfl wu_11 (by decide) wf_X11_93 (gO_F e100) dX11_code_100 ?_
        refine ev_iload_n C rfl dX11_code_103 ?_
        refine ev_iload_n C rfl dX11_code_104 ?_
        refine ev_iload_n C rfl dX11_code_105 ?_
        refine ev_iload C rfl dX11_code_106 ?_
        refine ev_iload C rfl dX11_code_108 ?_
        obtain ⟨eo110, hs⟩ := kO_at hs
        obtain ⟨h110, e110, hs⟩ := cN_at hs
        refine ev_callVN C (T_X5_setCode _ _ _ _ _ _ _ _ _ e110) (ci := 5) rfl eo110 wc_X5_setCode wn_X11_355 wi_X5_setCode ws_X5_setCode wz_X5 hy_X5_setCode ⟨(Nat.le_of_ble_eq_true rfl), (Nat.le_of_ble_eq_true rfl)⟩ ⟨(Nat.le_refl _), (Nat.le_refl _)⟩ (Nat.le_of_ble_eq_true rfl) rfl dX11_code_110 ?_
        refine ev_iconst C (v := 1) dX11_code_113 (by decide) ?_
        obtain ⟨hz, rfl, rfl⟩ := rtZ_at hs
        exact ev_zret C rfl hz rfl (Nat.le_refl _) (Nat.le_refl _) rfl dX11_code_114
      · replace hs := (if_neg q84).symm.trans hs
        exact Ev.keep [true, false, false, false, false, false, false] (t_X11_code_87 C  hs)
theorem t_X11_code_67 (C : Cx p l s m args meth c B0 X RX11 "code" cX11_code 7 (some .boolean) [])   {l0 : Nat} {l1 : Int32} {l2 : Int32} {l3 : Int32} {l4 : Int32} {l5 : Int32} {h : aH} (hs : s_X11_code_67  l0 l1 l2 l3 l4 l5 h = some (r, h')) : Ev p l e { frames := 1, cells := mc, slots := ms, locals := 25 } s m args below meth c D B0 X ws0 r h' mc ms 7 mc ms 67 [some (.ref l0), some (.int l1), some (.int l2), some (.int l3), some (.int l4), some (.int l5), none] [] h := by
  unfold s_X11_code_67 at hs
  refine ev_iconst C (v := 0) dX11_code_67 (by decide) ?_
  exact (t_X11_code_68 C  hs)
theorem hy_X11_code : yX11_code.cls ≠ "java/lang/invoke/MethodHandle" ∧ yX11_code.cls ≠ "java/lang/invoke/VarHandle" ∧ (parseMethodDescriptor yX11_code.desc).map (fun d => d.parameters.length) = some 5 := by decide +kernel
theorem T_X11_code (o : Nat) (a1 : Int32) (a2 : Int32) (a3 : Int32) (a4 : Int32) (a5 : Int32) (h : aH) (r : aR) (h' : aH) (hs : s_X11_code o a1 a2 a3 a4 a5 h = some (r, h')) : Mt yX11_code (Cond.code yX11_code cX11_code 7 (some .boolean) :: aTB) 1 25 0 0 [.ref o, .int a1, .int a2, .int a3, .int a4, .int a5] h r h' := by
  unfold s_X11_code at hs
  refine Mt_of (k := 1) (by decide) rfl (fun p l e s m args below meth c D B0 X ws0 C => ?_)
  show Ev p l e { frames := 1, cells := 0, slots := 0, locals := 25 } s m args below meth c D B0 X ws0 r h' 0 0 7 0 0 0 [some (.ref o), some (.int a1), some (.int a2), some (.int a3), some (.int a4), some (.int a5), none] [] h
  refine ev_aload_n C (x := .ref o) rfl trivial dX11_code_0 ?_
  obtain ⟨x1, e1, hs⟩ := aB hs
  refine ev_get C (ci := 11) (k := 2) rfl wu_11 (by decide) wf_X11_120 (gI_F e1) dX11_code_1 ?_
  refine ev_if_ne C (tgt := 14) (by decide) dX11_code_4 (fun q4 => ?_) (fun q4 => ?_)
  · replace hs := (if_neg q4).symm.trans hs
    refine ev_aload_n C (x := .ref o) rfl trivial dX11_code_14 ?_
    obtain ⟨x15, e15, hs⟩ := aB hs
    refine ev_get C (ci := 11) (k := 7) rfl wu_11 (by decide) wf_X11_19 (gO_F e15) dX11_code_15 ?_
    obtain ⟨x18, e18, hs⟩ := aB hs
    refine ev_getN C (ci := 2) (k := 0) rfl wu_2 (by decide) wg_X11_173 (gO_F e18) dX11_code_18 ?_
    refine ev_iconst C (v := 1) dX11_code_21 (by decide) ?_
    obtain ⟨x22, e22, hs⟩ := aB hs
    refine ev_iald C e22 dX11_code_22 ?_
    refine ev_iconst C (v := 1) dX11_code_23 (by decide) ?_
    refine ev_icmp_eq C (tgt := 34) (by decide) dX11_code_24 (fun q24 => ?_) (fun q24 => ?_)
    · replace hs := (if_pos q24).symm.trans hs
      refine ev_iload_n C rfl dX11_code_34 ?_
      obtain ⟨x35, h35, e35, hs⟩ := cI_at hs
      refine ev_callS C (T_X11_isShort _ _ _ _ e35) wc_X11_isShort wm_X11_352 wt_X11_isShort wz_X11 hy_X11_isShort ⟨(Nat.le_of_ble_eq_true rfl), (Nat.le_of_ble_eq_true rfl)⟩ ⟨(Nat.le_refl _), (Nat.le_refl _)⟩ (Nat.le_of_ble_eq_true rfl) rfl dX11_code_35 ?_
      refine ev_if_eq C (tgt := 67) (by decide) dX11_code_38 (fun q38 => ?_) (fun q38 => ?_)
      · replace hs := (if_pos q38).symm.trans hs
        exact (t_X11_code_67 C  hs)
      · replace hs := (if_neg q38).symm.trans hs
        refine ev_iload_n C rfl dX11_code_41 ?_
        obtain ⟨x42, h42, e42, hs⟩ := cI_at hs
        refine ev_callS C (T_X11_isShort _ _ _ _ e42) wc_X11_isShort wm_X11_352 wt_X11_isShort wz_X11 hy_X11_isShort ⟨(Nat.le_of_ble_eq_true rfl), (Nat.le_of_ble_eq_true rfl)⟩ ⟨(Nat.le_refl _), (Nat.le_refl _)⟩ (Nat.le_of_ble_eq_true rfl) rfl dX11_code_42 ?_
        refine ev_if_eq C (tgt := 67) (by decide) dX11_code_45 (fun q45 => ?_) (fun q45 => ?_)
        · replace hs := (if_pos q45).symm.trans hs
          exact (t_X11_code_67 C  hs)
        · replace hs := (if_neg q45).symm.trans hs
          refine ev_iload_n C rfl dX11_code_48 ?_
          obtain ⟨x49, h49, e49, hs⟩ := cI_at hs
          refine ev_callS C (T_X11_isShort _ _ _ _ e49) wc_X11_isShort wm_X11_352 wt_X11_isShort wz_X11 hy_X11_isShort ⟨(Nat.le_of_ble_eq_true rfl), (Nat.le_of_ble_eq_true rfl)⟩ ⟨(Nat.le_refl _), (Nat.le_refl _)⟩ (Nat.le_of_ble_eq_true rfl) rfl dX11_code_49 ?_
          refine ev_if_eq C (tgt := 67) (by decide) dX11_code_52 (fun q52 => ?_) (fun q52 => ?_)
          · replace hs := (if_pos q52).symm.trans hs
            exact (t_X11_code_67 C  hs)
          · replace hs := (if_neg q52).symm.trans hs
            refine ev_iload C rfl dX11_code_55 ?_
            obtain ⟨x57, h57, e57, hs⟩ := cI_at hs
            refine ev_callS C (T_X11_isShort _ _ _ _ e57) wc_X11_isShort wm_X11_352 wt_X11_isShort wz_X11 hy_X11_isShort ⟨(Nat.le_of_ble_eq_true rfl), (Nat.le_of_ble_eq_true rfl)⟩ ⟨(Nat.le_refl _), (Nat.le_refl _)⟩ (Nat.le_of_ble_eq_true rfl) rfl dX11_code_57 ?_
            refine ev_if_eq C (tgt := 67) (by decide) dX11_code_60 (fun q60 => ?_) (fun q60 => ?_)
            · replace hs := (if_pos q60).symm.trans hs
              exact (t_X11_code_67 C  hs)
            · replace hs := (if_neg q60).symm.trans hs
              refine ev_iconst C (v := 1) dX11_code_63 (by decide) ?_
              refine ev_goto C (tgt := 68) (by decide) dX11_code_64 ?_
              exact (t_X11_code_68 C  hs)
    · replace hs := (if_neg q24).symm.trans hs
      refine ev_aload_n C (x := .ref o) rfl trivial dX11_code_27 ?_
      refine ev_iconst C (v := 5) dX11_code_28 (by decide) ?_
      obtain ⟨h29, e29, hs⟩ := aB hs
      refine ev_put C (ci := 11) (k := 3) rfl wu_11 (by decide) tyX11 tyX11_ok nmX11 wf_X11_167 rfl trivial e29 dX11_code_29 ?_
      refine ev_iconst C (v := 0) dX11_code_32 (by decide) ?_
      obtain ⟨hz, rfl, rfl⟩ := rtZ_at hs
      exact ev_zret C rfl hz rfl (Nat.le_refl _) (Nat.le_refl _) rfl dX11_code_33
  · replace hs := (if_pos q4).symm.trans hs
    refine ev_aload_n C (x := .ref o) rfl trivial dX11_code_7 ?_
    refine ev_iconst C (v := 1) dX11_code_8 (by decide) ?_
    obtain ⟨h9, e9, hs⟩ := aB hs
    refine ev_put C (ci := 11) (k := 3) rfl wu_11 (by decide) tyX11 tyX11_ok nmX11 wf_X11_167 rfl trivial e9 dX11_code_9 ?_
    refine ev_iconst C (v := 0) dX11_code_12 (by decide) ?_
    obtain ⟨hz, rfl, rfl⟩ := rtZ_at hs
    exact ev_zret C rfl hz rfl (Nat.le_refl _) (Nat.le_refl _) rfl dX11_code_13
end
