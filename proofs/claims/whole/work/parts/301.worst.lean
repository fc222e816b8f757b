-- X11_worst
theorem dX11_worst_0 : decode cX11_worst 0 = .ok (.aload_n 0, 1) := by decide +kernel
theorem dX11_worst_1 : decode cX11_worst 1 = .ok (.iload_n 1, 1) := by decide +kernel
theorem dX11_worst_2 : decode cX11_worst 2 = .ok (.invokevirtual 199, 3) := by decide +kernel
theorem dX11_worst_5 : decode cX11_worst 5 = .ok (.ifCond .eq 23, 3) := by decide +kernel
theorem dX11_worst_8 : decode cX11_worst 8 = .ok (.iload_n 2, 1) := by decide +kernel
theorem dX11_worst_9 : decode cX11_worst 9 = .ok (.iconst 1, 1) := by decide +kernel
theorem dX11_worst_10 : decode cX11_worst 10 = .ok (.if_icmp .lt 18, 3) := by decide +kernel
theorem dX11_worst_13 : decode cX11_worst 13 = .ok (.iload_n 2, 1) := by decide +kernel
theorem dX11_worst_14 : decode cX11_worst 14 = .ok (.bipush 20, 2) := by decide +kernel
theorem dX11_worst_16 : decode cX11_worst 16 = .ok (.if_icmp .gt 12, 3) := by decide +kernel
theorem dX11_worst_19 : decode cX11_worst 19 = .ok (.iload_n 3, 1) := by decide +kernel
theorem dX11_worst_20 : decode cX11_worst 20 = .ok (.ifCond .lt 8, 3) := by decide +kernel
theorem dX11_worst_23 : decode cX11_worst 23 = .ok (.iload_n 3, 1) := by decide +kernel
theorem dX11_worst_24 : decode cX11_worst 24 = .ok (.iload_n 2, 1) := by decide +kernel
theorem dX11_worst_25 : decode cX11_worst 25 = .ok (.if_icmp .lt 14, 3) := by decide +kernel
theorem dX11_worst_28 : decode cX11_worst 28 = .ok (.new 264, 3) := by decide +kernel
theorem dX11_worst_31 : decode cX11_worst 31 = .ok (.dup, 1) := by decide +kernel
theorem dX11_worst_32 : decode cX11_worst 32 = .ok (.ldc_w 266, 3) := by decide +kernel
theorem dX11_worst_35 : decode cX11_worst 35 = .ok (.invokespecial 268, 3) := by decide +kernel
theorem dX11_worst_38 : decode cX11_worst 38 = .ok (.athrow, 1) := by decide +kernel
theorem dX11_worst_39 : decode cX11_worst 39 = .ok (.aload_n 0, 1) := by decide +kernel
theorem dX11_worst_40 : decode cX11_worst 40 = .ok (.iload_n 2, 1) := by decide +kernel
theorem dX11_worst_41 : decode cX11_worst 41 = .ok (.invokevirtual 253, 3) := by decide +kernel
theorem dX11_worst_44 : decode cX11_worst 44 = .ok (.iload_n 1, 1) := by decide +kernel
theorem dX11_worst_45 : decode cX11_worst 45 = .ok (.iload_n 2, 1) := by decide +kernel
theorem dX11_worst_46 : decode cX11_worst 46 = .ok (.iload_n 3, 1) := by decide +kernel
theorem dX11_worst_47 : decode cX11_worst 47 = .ok (.invokevirtual 271, 3) := by decide +kernel
theorem dX11_worst_50 : decode cX11_worst 50 = .ok (.ireturn, 1) := by decide +kernel
def s_X11_worst_28   (h : aH) (c9 z9 : Nat) : aP :=
  some (.inr (nC, aE), h, c9 + 1, z9 + 6)
def s_X11_worst (o : Nat) (a1 : Int32) (a2 : Int32) (a3 : Int32) (h : aH) : aP :=
  kO h o 11 (cI (s_X11_hasCell o a1 h) fun x2 h2 => ck 0 0 (if x2 = 0 then (s_X11_worst_28 h2 0 0) else (if a2 < 1 then (s_X11_worst_28 h2 0 0) else (if 20 < a2 then (s_X11_worst_28 h2 0 0) else (if a3 < 0 then (s_X11_worst_28 h2 0 0) else (if a3 < a2 then (kO h2 o 11 (dR (s_X11_readyPayments o a2 h2) fun x41 h41 n41 y41 => ck (0 + n41) (0 + y41) (wC (0 + n41) (0 + y41) (kO h41 x41 4 (cI (s_X4_hardest x41 a1 a2 a3 h41) fun x47 h47 => some (.inl (some (.int x47)), h47)))))) else (s_X11_worst_28 h2 0 0)))))))
section
variable {p : Program} {l : Launch} {e : Env} {s : State} {m : MethodId} {args : Array Value} {below : List Frame} {meth : Method} {c : Code} {D : va_G} {B0 : Nat} {X : Nat → Nat} {ws0 : va_W} {r : aR} {h' : aH} {mc ms : Nat}
theorem t_X11_worst_28 (C : Cx p l s m args meth c B0 X RX11 "worst" cX11_worst 4 (some .int) [])    {h : aH} {c9 z9 : Nat} (hs : s_X11_worst_28   h c9 z9 = some (r, h', mc, ms)) : Ev p l e { frames := 7, cells := mc, slots := ms, locals := 171 } s m args below meth c D B0 X ws0 r h' mc ms 4 c9 z9 28 [none, none, none, none] [] h := by
  unfold s_X11_worst_28 at hs
  obtain ⟨rfl, rfl, rfl, rfl⟩ := nInj hs
  exact ev_throwNSE C (ik := 264) wk_X11_264 wz_java_util_NoSuchElementException dX11_worst_28 dX11_worst_31 dX11_worst_32 dX11_worst_35 dX11_worst_38 (by decide) (Nat.le_of_ble_eq_true rfl) (Nat.le_of_ble_eq_true rfl) (Nat.le_refl _) (Nat.le_refl _) (Nat.le_refl _) (Nat.le_refl _) rfl rfl
theorem hy_X11_worst : yX11_worst.cls ≠ "java/lang/invoke/MethodHandle" ∧ yX11_worst.cls ≠ "java/lang/invoke/VarHandle" ∧ (parseMethodDescriptor yX11_worst.desc).map (fun d => d.parameters.length) = some 3 := by decide +kernel
theorem T_X11_worst (o : Nat) (a1 : Int32) (a2 : Int32) (a3 : Int32) (h : aH) (r : aR) (h' : aH) (mc ms : Nat) (hs : s_X11_worst o a1 a2 a3 h = some (r, h', mc, ms)) : Mt yX11_worst (Cond.code yX11_worst cX11_worst 4 (some .int) :: aTB) 7 171 mc ms [.ref o, .int a1, .int a2, .int a3] h r h' := by
  unfold s_X11_worst at hs
  refine Mt_of (k := 0) (by decide) rfl (fun p l e s m args below meth c D B0 X ws0 C => ?_)
  show Ev p l e { frames := 7, cells := mc, slots := ms, locals := 171 } s m args below meth c D B0 X ws0 r h' mc ms 4 0 0 0 [some (.ref o), some (.int a1), some (.int a2), some (.int a3)] [] h
  refine ev_aload_n C (x := .ref o) rfl trivial dX11_worst_0 ?_
  refine ev_iload_n C rfl dX11_worst_1 ?_
  obtain ⟨eo2, hs⟩ := kO_at hs
  obtain ⟨x2, h2, e2, hs⟩ := cI_at hs
  obtain ⟨c2, z2, hs⟩ := ck_at hs
  refine ev_callV C (T_X11_hasCell _ _ _ _ _ e2) (ci := 11) rfl eo2 wc_X11_hasCell wm_X11_199 wi_X11_hasCell ws_X11_hasCell wz_X11 hy_X11_hasCell ⟨(Nat.le_of_ble_eq_true rfl), (Nat.le_of_ble_eq_true rfl)⟩ ⟨c2, z2⟩ (Nat.le_of_ble_eq_true rfl) rfl dX11_worst_2 ?_
  refine ev_if_eq C (tgt := 28) (by decide) dX11_worst_5 (fun q5 => ?_) (fun q5 => ?_)
  · replace hs := (if_pos q5).symm.trans hs
    exact Ev.keep [false, false, false, false] (t_X11_worst_28 C  hs)
  · replace hs := (if_neg q5).symm.trans hs
    refine ev_iload_n C rfl dX11_worst_8 ?_
    refine ev_iconst C (v := 1) dX11_worst_9 (by decide) ?_
    refine ev_icmp_lt C (tgt := 28) (by decide) dX11_worst_10 (fun q10 => ?_) (fun q10 => ?_)
    · replace hs := (if_pos q10).symm.trans hs
      exact Ev.keep [false, false, false, false] (t_X11_worst_28 C  hs)
    · replace hs := (if_neg q10).symm.trans hs
      refine ev_iload_n C rfl dX11_worst_13 ?_
      refine ev_bipush C (v := 20) dX11_worst_14 (by decide) ?_
      refine ev_icmp_gt C (tgt := 28) (by decide) dX11_worst_16 (fun q16 => ?_) (fun q16 => ?_)
      · replace hs := (if_pos q16).symm.trans hs
        exact Ev.keep [false, false, false, false] (t_X11_worst_28 C  hs)
      · replace hs := (if_neg q16).symm.trans hs
        refine ev_iload_n C rfl dX11_worst_19 ?_
        refine ev_if_lt C (tgt := 28) (by decide) dX11_worst_20 (fun q20 => ?_) (fun q20 => ?_)
        · replace hs := (if_pos q20).symm.trans hs
          exact Ev.keep [false, false, false, false] (t_X11_worst_28 C  hs)
        · replace hs := (if_neg q20).symm.trans hs
          refine ev_iload_n C rfl dX11_worst_23 ?_
          refine ev_iload_n C rfl dX11_worst_24 ?_
          refine ev_icmp_lt C (tgt := 39) (by decide) dX11_worst_25 (fun q25 => ?_) (fun q25 => ?_)
          · replace hs := (if_pos q25).symm.trans hs
            refine ev_aload_n C (x := .ref o) rfl trivial dX11_worst_39 ?_
            refine ev_iload_n C rfl dX11_worst_40 ?_
            obtain ⟨eo41, hs⟩ := kO_at hs
            obtain ⟨x41, h41, n41, y41, e41, hs⟩ := dR_at hs
            obtain ⟨c41, z41, hs⟩ := ck_at hs
            refine ev_callV C (T_X11_readyPayments _ _ _ _ _ _ _ e41) (ci := 11) rfl eo41 wc_X11_readyPayments wm_X11_253 wi_X11_readyPayments ws_X11_readyPayments wz_X11 hy_X11_readyPayments ⟨(Nat.le_of_ble_eq_true rfl), (Nat.le_of_ble_eq_true rfl)⟩ ⟨c41, z41⟩ (Nat.le_of_ble_eq_true rfl) rfl dX11_worst_41 ?_
            obtain ⟨hw9, rfl, rfl⟩ := wC_at hs
            have hs := hw9
            refine ev_iload_n C rfl dX11_worst_44 ?_
            refine ev_iload_n C rfl dX11_worst_45 ?_
            refine ev_iload_n C rfl dX11_worst_46 ?_
            obtain ⟨eo47, hs⟩ := kO_at hs
            obtain ⟨x47, h47, e47, hs⟩ := cI_at hs
            refine ev_callVN C (T_X4_hardest _ _ _ _ _ _ _ e47) (ci := 4) rfl eo47 wc_X4_hardest wn_X11_271 wi_X4_hardest ws_X4_hardest wz_X4 hy_X4_hardest ⟨(Nat.le_of_ble_eq_true rfl), (Nat.le_of_ble_eq_true rfl)⟩ ⟨(Nat.le_refl _), (Nat.le_refl _)⟩ (Nat.le_of_ble_eq_true rfl) rfl dX11_worst_47 ?_
            cases hs
            exact ev_iret C rfl rfl (Nat.le_refl _) (Nat.le_refl _) rfl dX11_worst_50
          · replace hs := (if_neg q25).symm.trans hs
            exact Ev.keep [false, false, false, false] (t_X11_worst_28 C  hs)
end
theorem dL_worst_0 : decode cL_worst 0 = .ok (.aload 4, 2) := by decide +kernel
theorem dL_worst_2 : decode cL_worst 2 = .ok (.iconst 0, 1) := by decide +kernel
theorem dL_worst_3 : decode cL_worst 3 = .ok (.aload_n 0, 1) := by decide +kernel
theorem dL_worst_4 : decode cL_worst 4 = .ok (.iload_n 1, 1) := by decide +kernel
theorem dL_worst_5 : decode cL_worst 5 = .ok (.iload_n 2, 1) := by decide +kernel
theorem dL_worst_6 : decode cL_worst 6 = .ok (.iload_n 3, 1) := by decide +kernel
theorem dL_worst_7 : decode cL_worst 7 = .ok (.invokevirtual 7, 3) := by decide +kernel
theorem dL_worst_10 : decode cL_worst 10 = .ok (.i2l, 1) := by decide +kernel
theorem dL_worst_11 : decode cL_worst 11 = .ok (.lastore, 1) := by decide +kernel
theorem dL_worst_12 : decode cL_worst 12 = .ok (.goto 7, 3) := by decide +kernel
theorem dL_worst_15 : decode cL_worst 15 = .ok (.astore 5, 2) := by decide +kernel
theorem dL_worst_17 : decode cL_worst 17 = .ok (.iconst 1, 1) := by decide +kernel
theorem dL_worst_18 : decode cL_worst 18 = .ok (.ireturn, 1) := by decide +kernel
theorem dL_worst_19 : decode cL_worst 19 = .ok (.iconst 0, 1) := by decide +kernel
theorem dL_worst_20 : decode cL_worst 20 = .ok (.ireturn, 1) := by decide +kernel
/-- the law's own worst: what is thrown is caught -/
def s_L_worst (a1 : Nat) (a2 a3 a4 : Int32) (a5 : Nat) (h : aH) : aP := kO h a1 11 (match s_X11_worst a1 a2 a3 a4 h with
  | some (.inl (some (.int x)), h1, n, y) => (stJ h1 (.ref a5) 0 x.toInt64).bind fun h2 => some (.inl (some (.int 0)), h2, n, y)
  | some (.inr (E, _), h1, n, y) => if E = nC then some (.inl (some (.int 1)), h1, n, y) else none
  | _ => none)
theorem hy_L_worst : yL_worst.cls ≠ "java/lang/invoke/MethodHandle" ∧ yL_worst.cls ≠ "java/lang/invoke/VarHandle" ∧ (parseMethodDescriptor yL_worst.desc).map (fun d => d.parameters.length) = some 5 := by decide +kernel
theorem T_L_worst (a1 : Nat) (a2 a3 a4 : Int32) (a5 : Nat) (h : aH) (r : aR) (h' : aH) (mc ms : Nat) (hs : s_L_worst a1 a2 a3 a4 a5 h = some (r, h', mc, ms)) : Mt yL_worst (Cond.codeWith yL_worst cL_worst 6 (some .int) [(0, 12, 15, 13)] :: aTB) 9 217 mc ms [.ref a1, .int a2, .int a3, .int a4, .ref a5] h r h' := by
  unfold s_L_worst at hs
  obtain ⟨eo, hs⟩ := kO_at hs
  refine Mt_ofH (k := 1) (by decide) rfl (fun p l e s m args below meth c D B0 X ws0 C => ?_)
  show Ev p l e { frames := 9, cells := mc, slots := ms, locals := 217 } s m args below meth c D B0 X ws0 r h' mc ms 6 0 0 0 [some (.ref a1), some (.int a2), some (.int a3), some (.int a4), some (.ref a5), none] [] h
  refine ev_aload C (x := .ref a5) rfl trivial dL_worst_0 ?_
  refine ev_iconst C (v := 0) dL_worst_2 (by decide) ?_
  refine ev_aload_n C (x := .ref a1) rfl trivial dL_worst_3 ?_
  refine ev_iload_n C rfl dL_worst_4 ?_
  refine ev_iload_n C rfl dL_worst_5 ?_
  refine ev_iload_n C rfl dL_worst_6 ?_
  generalize hw : s_X11_worst a1 a2 a3 a4 h = w at hs
  match w, hs with
  | some (.inl (some (.int x)), h1, n, y), hs =>
    obtain ⟨h2, e2, hs⟩ := aB hs
    obtain ⟨rfl, rfl, rfl, rfl⟩ := nInj hs
    refine ev_callV C (T_X11_worst _ _ _ _ _ _ _ _ _ hw) (ci := 11) rfl eo wc_X11_worst wm_L_7 wi_X11_worst ws_X11_worst wz_X11 hy_X11_worst ⟨Nat.le_of_ble_eq_true rfl, Nat.le_of_ble_eq_true rfl⟩ ⟨Nat.le_of_eq (Nat.zero_add _), Nat.le_of_eq (Nat.zero_add _)⟩ (Nat.le_of_ble_eq_true rfl) rfl dL_worst_7 ?_
    refine ev_i2l C dL_worst_10 ?_
    refine ev_last C e2 dL_worst_11 ?_
    refine ev_goto C (tgt := 19) (by decide) dL_worst_12 ?_
    refine ev_iconst C (v := 0) dL_worst_19 (by decide) ?_
    exact ev_iret C rfl rfl (Nat.le_of_eq (Nat.zero_add _)) (Nat.le_of_eq (Nat.zero_add _)) rfl dL_worst_20
  | some (.inr (E, i), h1, n, y), hs =>
    dsimp only at hs
    split at hs
    · rename_i qE
      subst qE
      obtain ⟨rfl, rfl, rfl, rfl⟩ := nInj hs
      refine ev_callVX C (T_X11_worst _ _ _ _ _ _ _ _ _ hw) (ci := 11) rfl eo wc_X11_worst wm_L_7 wi_X11_worst ws_X11_worst wz_X11 hy_X11_worst ⟨Nat.le_of_ble_eq_true rfl, Nat.le_of_ble_eq_true rfl⟩ ⟨Nat.le_of_eq (Nat.zero_add _), Nat.le_of_eq (Nat.zero_add _)⟩ (Nat.le_of_ble_eq_true rfl) rfl dL_worst_7
        (ex_catch C ⟨0, 12, 15, 13⟩ rfl (by decide) (by decide) wk_L_13 wq_java_util_NoSuchElementException_java_util_NoSuchElementException ?_)
      refine ev_astore C (x := .ref i) trivial (by decide) dL_worst_15 ?_
      refine ev_iconst C (v := 1) dL_worst_17 (by decide) ?_
      exact ev_iret C rfl rfl (Nat.le_of_eq (Nat.zero_add _)) (Nat.le_of_eq (Nat.zero_add _)) rfl dL_worst_18
    · cases hs

