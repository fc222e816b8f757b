-- X2_fits
theorem dX2_fits_0 : decode cX2_fits 0 = .ok (.aload_n 0, 1) := by decide +kernel
theorem dX2_fits_1 : decode cX2_fits 1 = .ok (.invokevirtual 79, 3) := by decide +kernel
theorem dX2_fits_4 : decode cX2_fits 4 = .ok (.aload_n 0, 1) := by decide +kernel
theorem dX2_fits_5 : decode cX2_fits 5 = .ok (.getfield 9, 3) := by decide +kernel
theorem dX2_fits_8 : decode cX2_fits 8 = .ok (.iconst 0, 1) := by decide +kernel
theorem dX2_fits_9 : decode cX2_fits 9 = .ok (.iaload, 1) := by decide +kernel
theorem dX2_fits_10 : decode cX2_fits 10 = .ok (.ifCond .le 35, 3) := by decide +kernel
theorem dX2_fits_13 : decode cX2_fits 13 = .ok (.aload_n 0, 1) := by decide +kernel
theorem dX2_fits_14 : decode cX2_fits 14 = .ok (.getfield 86, 3) := by decide +kernel
theorem dX2_fits_17 : decode cX2_fits 17 = .ok (.sipush 400, 3) := by decide +kernel
theorem dX2_fits_20 : decode cX2_fits 20 = .ok (.if_icmp .gt 25, 3) := by decide +kernel
theorem dX2_fits_23 : decode cX2_fits 23 = .ok (.aload_n 0, 1) := by decide +kernel
theorem dX2_fits_24 : decode cX2_fits 24 = .ok (.getfield 89, 3) := by decide +kernel
theorem dX2_fits_27 : decode cX2_fits 27 = .ok (.bipush 9, 2) := by decide +kernel
theorem dX2_fits_29 : decode cX2_fits 29 = .ok (.if_icmp .gt 16, 3) := by decide +kernel
theorem dX2_fits_32 : decode cX2_fits 32 = .ok (.aload_n 0, 1) := by decide +kernel
theorem dX2_fits_33 : decode cX2_fits 33 = .ok (.getfield 92, 3) := by decide +kernel
theorem dX2_fits_36 : decode cX2_fits 36 = .ok (.bipush 27, 2) := by decide +kernel
theorem dX2_fits_38 : decode cX2_fits 38 = .ok (.if_icmp .gt 7, 3) := by decide +kernel
theorem dX2_fits_41 : decode cX2_fits 41 = .ok (.iconst 1, 1) := by decide +kernel
theorem dX2_fits_42 : decode cX2_fits 42 = .ok (.goto 4, 3) := by decide +kernel
theorem dX2_fits_45 : decode cX2_fits 45 = .ok (.iconst 0, 1) := by decide +kernel
theorem dX2_fits_46 : decode cX2_fits 46 = .ok (.ireturn, 1) := by decide +kernel
def s_X2_fits (o : Nat) (h : aH) : aO :=
  kO h o 2 (cN (s_X2_measure o h) fun h1 => (gO h1 (.ref o) 2 0).bind fun x5 => (ldI .int h1 (.ref x5) 0).bind fun x9 => if x9 ≤ 0 then (rtZ 0 h1) else ((gI h1 (.ref o) 2 12).bind fun x14 => if 400 < x14 then (rtZ 0 h1) else ((gI h1 (.ref o) 2 13).bind fun x24 => if 9 < x24 then (rtZ 0 h1) else ((gI h1 (.ref o) 2 14).bind fun x33 => if 27 < x33 then (rtZ 0 h1) else (rtZ 1 h1)))))
section
variable {p : Program} {l : Launch} {e : Env} {s : State} {m : MethodId} {args : Array Value} {below : List Frame} {meth : Method} {c : Code} {D : va_G} {B0 : Nat} {X : Nat → Nat} {ws0 : va_W} {r : aR} {h' : aH} {mc ms : Nat}
theorem hy_X2_fits : yX2_fits.cls ≠ "java/lang/invoke/MethodHandle" ∧ yX2_fits.cls ≠ "java/lang/invoke/VarHandle" ∧ (parseMethodDescriptor yX2_fits.desc).map (fun d => d.parameters.length) = some 0 := by decide +kernel
theorem T_X2_fits (o : Nat) (h : aH) (r : aR) (h' : aH) (hs : s_X2_fits o h = some (r, h')) : Mt yX2_fits (Cond.code yX2_fits cX2_fits 1 (some .boolean) :: aTB) 3 67 0 0 [.ref o] h r h' := by
  unfold s_X2_fits at hs
  refine Mt_of (k := 0) (by decide) rfl (fun p l e s m args below meth c D B0 X ws0 C => ?_)
  show Ev p l e { frames := 3, cells := 0, slots := 0, locals := 67 } s m args below meth c D B0 X ws0 r h' 0 0 1 0 0 0 [some (.ref o)] [] h
  refine ev_aload_n C (x := .ref o) rfl trivial dX2_fits_0 ?_
  obtain ⟨eo1, hs⟩ := kO_at hs
  obtain ⟨h1, e1, hs⟩ := cN_at hs
  refine ev_callV C (T_X2_measure _ _ _ _ e1) (ci := 2) rfl eo1 wc_X2_measure wm_X2_79 wi_X2_measure ws_X2_measure wz_X2 hy_X2_measure ⟨(Nat.le_of_ble_eq_true rfl), (Nat.le_of_ble_eq_true rfl)⟩ ⟨(Nat.le_refl _), (Nat.le_refl _)⟩ (Nat.le_of_ble_eq_true rfl) rfl dX2_fits_1 ?_
  refine ev_aload_n C (x := .ref o) rfl trivial dX2_fits_4 ?_
  obtain ⟨x5, e5, hs⟩ := aB hs
  refine ev_get C (ci := 2) (k := 0) rfl wu_2 (by decide) wf_X2_9 (gO_F e5) dX2_fits_5 ?_
  refine ev_iconst C (v := 0) dX2_fits_8 (by decide) ?_
  obtain ⟨x9, e9, hs⟩ := aB hs
  refine ev_iald C e9 dX2_fits_9 ?_
  refine ev_if_le C (tgt := 45) (by decide) dX2_fits_10 (fun q10 => ?_) (fun q10 => ?_)
  · replace hs := (if_pos q10).symm.trans hs
    refine ev_iconst C (v := 0) dX2_fits_45 (by decide) ?_
    obtain ⟨hz, rfl, rfl⟩ := rtZ_at hs
    exact ev_zret C rfl hz rfl (Nat.le_refl _) (Nat.le_refl _) rfl dX2_fits_46
  · replace hs := (if_neg q10).symm.trans hs
    refine ev_aload_n C (x := .ref o) rfl trivial dX2_fits_13 ?_
    obtain ⟨x14, e14, hs⟩ := aB hs
    refine ev_get C (ci := 2) (k := 12) rfl wu_2 (by decide) wf_X2_86 (gI_F e14) dX2_fits_14 ?_
    refine ev_sipush C (v := 400) dX2_fits_17 (by decide) ?_
    refine ev_icmp_gt C (tgt := 45) (by decide) dX2_fits_20 (fun q20 => ?_) (fun q20 => ?_)
    · replace hs := (if_pos q20).symm.trans hs
      refine ev_iconst C (v := 0) dX2_fits_45 (by decide) ?_
      obtain ⟨hz, rfl, rfl⟩ := rtZ_at hs
      exact ev_zret C rfl hz rfl (Nat.le_refl _) (Nat.le_refl _) rfl dX2_fits_46
    · replace hs := (if_neg q20).symm.trans hs
      refine ev_aload_n C (x := .ref o) rfl trivial dX2_fits_23 ?_
      obtain ⟨x24, e24, hs⟩ := aB hs
      refine ev_get C (ci := 2) (k := 13) rfl wu_2 (by decide) wf_X2_89 (gI_F e24) dX2_fits_24 ?_
      refine ev_bipush C (v := 9) dX2_fits_27 (by decide) ?_
      refine ev_icmp_gt C (tgt := 45) (by decide) dX2_fits_29 (fun q29 => ?_) (fun q29 => ?_)
      · replace hs := (if_pos q29).symm.trans hs
        refine ev_iconst C (v := 0) dX2_fits_45 (by decide) ?_
        obtain ⟨hz, rfl, rfl⟩ := rtZ_at hs
        exact ev_zret C rfl hz rfl (Nat.le_refl _) (Nat.le_refl _) rfl dX2_fits_46
      · replace hs := (if_neg q29).symm.trans hs
        refine ev_aload_n C (x := .ref o) rfl trivial dX2_fits_32 ?_
        obtain ⟨x33, e33, hs⟩ := aB hs
        refine ev_get C (ci := 2) (k := 14) rfl wu_2 (by decide) wf_X2_92 (gI_F e33) dX2_fits_33 ?_
        refine ev_bipush C (v := 27) dX2_fits_36 (by decide) ?_
        refine ev_icmp_gt C (tgt := 45) (by decide) dX2_fits_38 (fun q38 => ?_) (fun q38 => ?_)
        · replace hs := (if_pos q38).symm.trans hs
          refine ev_iconst C (v := 0) dX2_fits_45 (by decide) ?_
          obtain ⟨hz, rfl, rfl⟩ := rtZ_at hs
          exact ev_zret C rfl hz rfl (Nat.le_refl _) (Nat.le_refl _) rfl dX2_fits_46
        · replace hs := (if_neg q38).symm.trans hs
          refine ev_iconst C (v := 1) dX2_fits_41 (by decide) ?_
          refine ev_goto C (tgt := 46) (by decide) dX2_fits_42 ?_
          obtain ⟨hz, rfl, rfl⟩ := rtZ_at hs
          exact ev_zret C rfl hz rfl (Nat.le_refl _) (Nat.le_refl _) rfl dX2_fits_46
end
-- X2_slotOf
theorem dX2_slotOf_0 : decode cX2_slotOf 0 = .ok (.iconst 0, 1) := by decide +kernel
theorem dX2_slotOf_1 : decode cX2_slotOf 1 = .ok (.istore_n 3, 1) := by decide +kernel
theorem dX2_slotOf_2 : decode cX2_slotOf 2 = .ok (.iload_n 3, 1) := by decide +kernel
theorem dX2_slotOf_3 : decode cX2_slotOf 3 = .ok (.aload_n 0, 1) := by decide +kernel
theorem dX2_slotOf_4 : decode cX2_slotOf 4 = .ok (.getfield 9, 3) := by decide +kernel
theorem dX2_slotOf_7 : decode cX2_slotOf 7 = .ok (.arraylength, 1) := by decide +kernel
theorem dX2_slotOf_8 : decode cX2_slotOf 8 = .ok (.if_icmp .ge 56, 3) := by decide +kernel
theorem dX2_slotOf_11 : decode cX2_slotOf 11 = .ok (.iconst 0, 1) := by decide +kernel
theorem dX2_slotOf_12 : decode cX2_slotOf 12 = .ok (.istore 4, 2) := by decide +kernel
theorem dX2_slotOf_14 : decode cX2_slotOf 14 = .ok (.iload 4, 2) := by decide +kernel
theorem dX2_slotOf_16 : decode cX2_slotOf 16 = .ok (.aload_n 0, 1) := by decide +kernel
theorem dX2_slotOf_17 : decode cX2_slotOf 17 = .ok (.getfield 9, 3) := by decide +kernel
theorem dX2_slotOf_20 : decode cX2_slotOf 20 = .ok (.iload_n 3, 1) := by decide +kernel
theorem dX2_slotOf_21 : decode cX2_slotOf 21 = .ok (.iaload, 1) := by decide +kernel
theorem dX2_slotOf_22 : decode cX2_slotOf 22 = .ok (.if_icmp .ge 36, 3) := by decide +kernel
theorem dX2_slotOf_25 : decode cX2_slotOf 25 = .ok (.aload_n 0, 1) := by decide +kernel
theorem dX2_slotOf_26 : decode cX2_slotOf 26 = .ok (.getfield 15, 3) := by decide +kernel
theorem dX2_slotOf_29 : decode cX2_slotOf 29 = .ok (.getstatic 95, 3) := by decide +kernel
theorem dX2_slotOf_32 : decode cX2_slotOf 32 = .ok (.iload_n 3, 1) := by decide +kernel
theorem dX2_slotOf_33 : decode cX2_slotOf 33 = .ok (.iaload, 1) := by decide +kernel
theorem dX2_slotOf_34 : decode cX2_slotOf 34 = .ok (.iload 4, 2) := by decide +kernel
theorem dX2_slotOf_36 : decode cX2_slotOf 36 = .ok (.iadd, 1) := by decide +kernel
theorem dX2_slotOf_37 : decode cX2_slotOf 37 = .ok (.laload, 1) := by decide +kernel
theorem dX2_slotOf_38 : decode cX2_slotOf 38 = .ok (.lload_n 1, 1) := by decide +kernel
theorem dX2_slotOf_39 : decode cX2_slotOf 39 = .ok (.lcmp, 1) := by decide +kernel
theorem dX2_slotOf_40 : decode cX2_slotOf 40 = .ok (.ifCond .ne 12, 3) := by decide +kernel
theorem dX2_slotOf_43 : decode cX2_slotOf 43 = .ok (.getstatic 95, 3) := by decide +kernel
theorem dX2_slotOf_46 : decode cX2_slotOf 46 = .ok (.iload_n 3, 1) := by decide +kernel
theorem dX2_slotOf_47 : decode cX2_slotOf 47 = .ok (.iaload, 1) := by decide +kernel
theorem dX2_slotOf_48 : decode cX2_slotOf 48 = .ok (.iload 4, 2) := by decide +kernel
theorem dX2_slotOf_50 : decode cX2_slotOf 50 = .ok (.iadd, 1) := by decide +kernel
theorem dX2_slotOf_51 : decode cX2_slotOf 51 = .ok (.ireturn, 1) := by decide +kernel
theorem dX2_slotOf_52 : decode cX2_slotOf 52 = .ok (.iinc 4 1, 3) := by decide +kernel
theorem dX2_slotOf_55 : decode cX2_slotOf 55 = .ok (.goto (-41), 3) := by decide +kernel
theorem dX2_slotOf_58 : decode cX2_slotOf 58 = .ok (.iinc 3 1, 3) := by decide +kernel
theorem dX2_slotOf_61 : decode cX2_slotOf 61 = .ok (.goto (-59), 3) := by decide +kernel
theorem dX2_slotOf_64 : decode cX2_slotOf 64 = .ok (.iconst (-1), 1) := by decide +kernel
theorem dX2_slotOf_65 : decode cX2_slotOf 65 = .ok (.ireturn, 1) := by decide +kernel
def s_X2_slotOf_14_b (k2 : Nat → Int64 → Int32 → aH → aO) (k14 : Nat → Int64 → Int32 → Int32 → aH → aO) (l0 : Nat) (l1 : Int64) (l3 : Int32) (l4 : Int32) (h : aH) : aO :=
  (gO h (.ref l0) 2 0).bind fun x17 => (ldI .int h (.ref x17) l3).bind fun x21 => if x21 ≤ l4 then (k2 l0 l1 (l3 + 1) h) else ((gO h (.ref l0) 2 1).bind fun x26 => (ldI .int h (.ref (aE + 1)) l3).bind fun x33 => (ldJ h (.ref x26) (x33 + l4)).bind fun x37 => if (lg_cmp x37 l1) = 0 then ((ldI .int h (.ref (aE + 1)) l3).bind fun x47 => some (.inl (some (.int (x47 + l4))), h)) else (k14 l0 l1 l3 (l4 + 1) h))
def s_X2_slotOf_14 (k2 : Nat → Int64 → Int32 → aH → aO) (n : Nat) : Nat → Int64 → Int32 → Int32 → aH → aO := lpF (fun _ _ _ _ _ => none) (s_X2_slotOf_14_b k2) n
def s_X2_slotOf_2_b  (k2 : Nat → Int64 → Int32 → aH → aO) (l0 : Nat) (l1 : Int64) (l3 : Int32) (h : aH) : aO :=
  (gO h (.ref l0) 2 0).bind fun x4 => (lnA h (.ref x4)).bind fun x7 => if x7 ≤ l3 then (some (.inl (some (.int (-1))), h)) else (s_X2_slotOf_14 k2 FU l0 l1 l3 0 h)
def s_X2_slotOf_2  (n : Nat) : Nat → Int64 → Int32 → aH → aO := lpF (fun _ _ _ _ => none) (s_X2_slotOf_2_b ) n
def s_X2_slotOf (o : Nat) (a1 : Int64) (h : aH) : aO :=
  s_X2_slotOf_2 FU o a1 0 h
section
variable {p : Program} {l : Launch} {e : Env} {s : State} {m : MethodId} {args : Array Value} {below : List Frame} {meth : Method} {c : Code} {D : va_G} {B0 : Nat} {X : Nat → Nat} {ws0 : va_W} {r : aR} {h' : aH} {mc ms : Nat}
theorem t_X2_slotOf_14_b (C : Cx p l s m args meth c B0 X RX2 "slotOf" cX2_slotOf 5 (some .int) []) {k2 : Nat → Int64 → Int32 → aH → aO} (K2 : ∀ (l0 : Nat) (l1 : Int64) (l3 : Int32) (h : aH), k2 l0 l1 l3 h = some (r, h') → Ev p l e { frames := 0, cells := mc, slots := ms, locals := 0 } s m args below meth c D B0 X ws0 r h' mc ms 5 mc ms 2 [some (.ref l0), some (.long l1), none, some (.int l3), none] [] h) {k14 : Nat → Int64 → Int32 → Int32 → aH → aO} (K14 : ∀ (l0 : Nat) (l1 : Int64) (l3 : Int32) (l4 : Int32) (h : aH), k14 l0 l1 l3 l4 h = some (r, h') → Ev p l e { frames := 0, cells := mc, slots := ms, locals := 0 } s m args below meth c D B0 X ws0 r h' mc ms 5 mc ms 14 [some (.ref l0), some (.long l1), none, some (.int l3), some (.int l4)] [] h) {l0 : Nat} {l1 : Int64} {l3 : Int32} {l4 : Int32} {h : aH} (hs : s_X2_slotOf_14_b k2 k14 l0 l1 l3 l4 h = some (r, h')) : Ev p l e { frames := 0, cells := mc, slots := ms, locals := 0 } s m args below meth c D B0 X ws0 r h' mc ms 5 mc ms 14 [some (.ref l0), some (.long l1), none, some (.int l3), some (.int l4)] [] h := by
  unfold s_X2_slotOf_14_b at hs
  refine ev_iload C rfl dX2_slotOf_14 ?_
  refine ev_aload_n C (x := .ref l0) rfl trivial dX2_slotOf_16 ?_
  obtain ⟨x17, e17, hs⟩ := aB hs
  refine ev_get C (ci := 2) (k := 0) rfl wu_2 (by decide) wf_X2_9 (gO_F e17) dX2_slotOf_17 ?_
  refine ev_iload_n C rfl dX2_slotOf_20 ?_
  obtain ⟨x21, e21, hs⟩ := aB hs
  refine ev_iald C e21 dX2_slotOf_21 ?_
  refine ev_icmp_ge C (tgt := 58) (by decide) dX2_slotOf_22 (fun q22 => ?_) (fun q22 => ?_)
  · replace hs := (if_pos q22).symm.trans hs
    refine ev_iinc C (i := 3) (n := 1) (x := l3) (v := l3 + 1) rfl (congrArg (fun z => l3 + z) (show Int32.ofInt 1 = 1 by decide)) (by decide) dX2_slotOf_58 ?_
    refine ev_goto C (tgt := 2) (by decide) dX2_slotOf_61 ?_
    exact Ev.keep [true, true, true, true, false] (K2 _ _ _ _ hs)
  · replace hs := (if_neg q22).symm.trans hs
    refine ev_aload_n C (x := .ref l0) rfl trivial dX2_slotOf_25 ?_
    obtain ⟨x26, e26, hs⟩ := aB hs
    refine ev_get C (ci := 2) (k := 1) rfl wu_2 (by decide) wf_X2_15 (gO_F e26) dX2_slotOf_26 ?_
    refine ev_getsBASEN C wg_X2_95 dX2_slotOf_29 ?_
    refine ev_iload_n C rfl dX2_slotOf_32 ?_
    obtain ⟨x33, e33, hs⟩ := aB hs
    refine ev_iald C e33 dX2_slotOf_33 ?_
    refine ev_iload C rfl dX2_slotOf_34 ?_
    refine ev_iadd C dX2_slotOf_36 ?_
    obtain ⟨x37, e37, hs⟩ := aB hs
    refine ev_lald C e37 dX2_slotOf_37 ?_
    refine ev_lload_n C rfl dX2_slotOf_38 ?_
    refine ev_lcmp C dX2_slotOf_39 ?_
    refine ev_if_ne C (tgt := 52) (by decide) dX2_slotOf_40 (fun q40 => ?_) (fun q40 => ?_)
    · replace hs := (if_neg q40).symm.trans hs
      refine ev_iinc C (i := 4) (n := 1) (x := l4) (v := l4 + 1) rfl (congrArg (fun z => l4 + z) (show Int32.ofInt 1 = 1 by decide)) (by decide) dX2_slotOf_52 ?_
      refine ev_goto C (tgt := 14) (by decide) dX2_slotOf_55 ?_
      exact (K14 _ _ _ _ _ hs)
    · replace hs := (if_pos q40).symm.trans hs
      refine ev_getsBASEN C wg_X2_95 dX2_slotOf_43 ?_
      refine ev_iload_n C rfl dX2_slotOf_46 ?_
      obtain ⟨x47, e47, hs⟩ := aB hs
      refine ev_iald C e47 dX2_slotOf_47 ?_
      refine ev_iload C rfl dX2_slotOf_48 ?_
      refine ev_iadd C dX2_slotOf_50 ?_
      cases hs
      exact ev_iret C rfl rfl (Nat.le_refl _) (Nat.le_refl _) rfl dX2_slotOf_51
theorem t_X2_slotOf_14 (C : Cx p l s m args meth c B0 X RX2 "slotOf" cX2_slotOf 5 (some .int) []) {k2 : Nat → Int64 → Int32 → aH → aO} (K2 : ∀ (l0 : Nat) (l1 : Int64) (l3 : Int32) (h : aH), k2 l0 l1 l3 h = some (r, h') → Ev p l e { frames := 0, cells := mc, slots := ms, locals := 0 } s m args below meth c D B0 X ws0 r h' mc ms 5 mc ms 2 [some (.ref l0), some (.long l1), none, some (.int l3), none] [] h) : ∀ (n : Nat) {l0 : Nat} {l1 : Int64} {l3 : Int32} {l4 : Int32} {h : aH} (hs : s_X2_slotOf_14 k2 n l0 l1 l3 l4 h = some (r, h')), Ev p l e { frames := 0, cells := mc, slots := ms, locals := 0 } s m args below meth c D B0 X ws0 r h' mc ms 5 mc ms 14 [some (.ref l0), some (.long l1), none, some (.int l3), some (.int l4)] [] h
  | 0, _, _, _, _, _, hs => nomatch hs
  | n + 1, _, _, _, _, _, hs => t_X2_slotOf_14_b C K2 (k14 := s_X2_slotOf_14 k2 n) (fun _ _ _ _ _ hs => t_X2_slotOf_14 C K2 n hs) hs
theorem t_X2_slotOf_2_b (C : Cx p l s m args meth c B0 X RX2 "slotOf" cX2_slotOf 5 (some .int) [])   {k2 : Nat → Int64 → Int32 → aH → aO} (K2 : ∀ (l0 : Nat) (l1 : Int64) (l3 : Int32) (h : aH), k2 l0 l1 l3 h = some (r, h') → Ev p l e { frames := 0, cells := mc, slots := ms, locals := 0 } s m args below meth c D B0 X ws0 r h' mc ms 5 mc ms 2 [some (.ref l0), some (.long l1), none, some (.int l3), none] [] h) {l0 : Nat} {l1 : Int64} {l3 : Int32} {h : aH} (hs : s_X2_slotOf_2_b  k2 l0 l1 l3 h = some (r, h')) : Ev p l e { frames := 0, cells := mc, slots := ms, locals := 0 } s m args below meth c D B0 X ws0 r h' mc ms 5 mc ms 2 [some (.ref l0), some (.long l1), none, some (.int l3), none] [] h := by
  unfold s_X2_slotOf_2_b at hs
  refine ev_iload_n C rfl dX2_slotOf_2 ?_
  refine ev_aload_n C (x := .ref l0) rfl trivial dX2_slotOf_3 ?_
  obtain ⟨x4, e4, hs⟩ := aB hs
  refine ev_get C (ci := 2) (k := 0) rfl wu_2 (by decide) wf_X2_9 (gO_F e4) dX2_slotOf_4 ?_
  obtain ⟨x7, e7, hs⟩ := aB hs
  refine ev_alen C e7 dX2_slotOf_7 ?_
  refine ev_icmp_ge C (tgt := 64) (by decide) dX2_slotOf_8 (fun q8 => ?_) (fun q8 => ?_)
  · replace hs := (if_pos q8).symm.trans hs
    refine ev_iconst C (v := (-1)) dX2_slotOf_64 (by decide) ?_
    cases hs
    exact ev_iret C rfl rfl (Nat.le_refl _) (Nat.le_refl _) rfl dX2_slotOf_65
  · replace hs := (if_neg q8).symm.trans hs
    refine ev_iconst C (v := 0) dX2_slotOf_11 (by decide) ?_
    refine ev_istore C (by decide) dX2_slotOf_12 ?_
    exact (t_X2_slotOf_14 C K2 FU hs)
theorem t_X2_slotOf_2 (C : Cx p l s m args meth c B0 X RX2 "slotOf" cX2_slotOf 5 (some .int) [])   : ∀ (n : Nat) {l0 : Nat} {l1 : Int64} {l3 : Int32} {h : aH} (hs : s_X2_slotOf_2  n l0 l1 l3 h = some (r, h')), Ev p l e { frames := 0, cells := mc, slots := ms, locals := 0 } s m args below meth c D B0 X ws0 r h' mc ms 5 mc ms 2 [some (.ref l0), some (.long l1), none, some (.int l3), none] [] h
  | 0, _, _, _, _, hs => nomatch hs
  | n + 1, _, _, _, _, hs => t_X2_slotOf_2_b C  (k2 := s_X2_slotOf_2  n) (fun _ _ _ _ hs => t_X2_slotOf_2 C  n hs) hs
theorem hy_X2_slotOf : yX2_slotOf.cls ≠ "java/lang/invoke/MethodHandle" ∧ yX2_slotOf.cls ≠ "java/lang/invoke/VarHandle" ∧ (parseMethodDescriptor yX2_slotOf.desc).map (fun d => d.parameters.length) = some 1 := by decide +kernel
theorem T_X2_slotOf (o : Nat) (a1 : Int64) (h : aH) (r : aR) (h' : aH) (hs : s_X2_slotOf o a1 h = some (r, h')) : Mt yX2_slotOf (Cond.code yX2_slotOf cX2_slotOf 5 (some .int) :: aTB) 0 0 0 0 [.ref o, .long a1] h r h' := by
  unfold s_X2_slotOf at hs
  refine Mt_of (k := 2) (by decide) rfl (fun p l e s m args below meth c D B0 X ws0 C => ?_)
  show Ev p l e { frames := 0, cells := 0, slots := 0, locals := 0 } s m args below meth c D B0 X ws0 r h' 0 0 5 0 0 0 [some (.ref o), some (.long a1), none, none, none] [] h
  refine ev_iconst C (v := 0) dX2_slotOf_0 (by decide) ?_
  refine ev_istore_n C (by decide) dX2_slotOf_1 ?_
  exact (t_X2_slotOf_2 C  FU hs)
end
-- X2_addName
theorem dX2_addName_0 : decode cX2_addName 0 = .ok (.getstatic 95, 3) := by decide +kernel
theorem dX2_addName_3 : decode cX2_addName 3 = .ok (.iload_n 1, 1) := by decide +kernel
theorem dX2_addName_4 : decode cX2_addName 4 = .ok (.iaload, 1) := by decide +kernel
theorem dX2_addName_5 : decode cX2_addName 5 = .ok (.aload_n 0, 1) := by decide +kernel
theorem dX2_addName_6 : decode cX2_addName 6 = .ok (.getfield 9, 3) := by decide +kernel
theorem dX2_addName_9 : decode cX2_addName 9 = .ok (.iload_n 1, 1) := by decide +kernel
theorem dX2_addName_10 : decode cX2_addName 10 = .ok (.iaload, 1) := by decide +kernel
theorem dX2_addName_11 : decode cX2_addName 11 = .ok (.iadd, 1) := by decide +kernel
theorem dX2_addName_12 : decode cX2_addName 12 = .ok (.istore 4, 2) := by decide +kernel
theorem dX2_addName_14 : decode cX2_addName 14 = .ok (.aload_n 0, 1) := by decide +kernel
theorem dX2_addName_15 : decode cX2_addName 15 = .ok (.getfield 15, 3) := by decide +kernel
theorem dX2_addName_18 : decode cX2_addName 18 = .ok (.iload 4, 2) := by decide +kernel
theorem dX2_addName_20 : decode cX2_addName 20 = .ok (.lload_n 2, 1) := by decide +kernel
theorem dX2_addName_21 : decode cX2_addName 21 = .ok (.lastore, 1) := by decide +kernel
theorem dX2_addName_22 : decode cX2_addName 22 = .ok (.aload_n 0, 1) := by decide +kernel
theorem dX2_addName_23 : decode cX2_addName 23 = .ok (.getfield 9, 3) := by decide +kernel
theorem dX2_addName_26 : decode cX2_addName 26 = .ok (.iload_n 1, 1) := by decide +kernel
theorem dX2_addName_27 : decode cX2_addName 27 = .ok (.dup2, 1) := by decide +kernel
theorem dX2_addName_28 : decode cX2_addName 28 = .ok (.iaload, 1) := by decide +kernel
theorem dX2_addName_29 : decode cX2_addName 29 = .ok (.iconst 1, 1) := by decide +kernel
theorem dX2_addName_30 : decode cX2_addName 30 = .ok (.iadd, 1) := by decide +kernel
theorem dX2_addName_31 : decode cX2_addName 31 = .ok (.iastore, 1) := by decide +kernel
theorem dX2_addName_32 : decode cX2_addName 32 = .ok (.iload 4, 2) := by decide +kernel
theorem dX2_addName_34 : decode cX2_addName 34 = .ok (.ireturn, 1) := by decide +kernel
def s_X2_addName (o : Nat) (a1 : Int32) (a2 : Int64) (h : aH) : aO :=
  (ldI .int h (.ref (aE + 1)) a1).bind fun x4 => (gO h (.ref o) 2 0).bind fun x6 => (ldI .int h (.ref x6) a1).bind fun x10 => (gO h (.ref o) 2 1).bind fun x15 => (stJ h (.ref x15) (x4 + x10) a2).bind fun h21 => (gO h21 (.ref o) 2 0).bind fun x23 => (ldI .int h21 (.ref x23) a1).bind fun x28 => (stI h21 (.ref x23) a1 (x28 + 1)).bind fun h31 => some (.inl (some (.int (x4 + x10))), h31)
section
variable {p : Program} {l : Launch} {e : Env} {s : State} {m : MethodId} {args : Array Value} {below : List Frame} {meth : Method} {c : Code} {D : va_G} {B0 : Nat} {X : Nat → Nat} {ws0 : va_W} {r : aR} {h' : aH} {mc ms : Nat}
theorem hy_X2_addName : yX2_addName.cls ≠ "java/lang/invoke/MethodHandle" ∧ yX2_addName.cls ≠ "java/lang/invoke/VarHandle" ∧ (parseMethodDescriptor yX2_addName.desc).map (fun d => d.parameters.length) = some 2 := by decide +kernel
theorem T_X2_addName (o : Nat) (a1 : Int32) (a2 : Int64) (h : aH) (r : aR) (h' : aH) (hs : s_X2_addName o a1 a2 h = some (r, h')) : Mt yX2_addName (Cond.code yX2_addName cX2_addName 5 (some .int) :: aTB) 0 0 0 0 [.ref o, .int a1, .long a2] h r h' := by
  unfold s_X2_addName at hs
  refine Mt_of (k := 1) (by decide) rfl (fun p l e s m args below meth c D B0 X ws0 C => ?_)
  show Ev p l e { frames := 0, cells := 0, slots := 0, locals := 0 } s m args below meth c D B0 X ws0 r h' 0 0 5 0 0 0 [some (.ref o), some (.int a1), some (.long a2), none, none] [] h
  refine ev_getsBASEN C wg_X2_95 dX2_addName_0 ?_
  refine ev_iload_n C rfl dX2_addName_3 ?_
  obtain ⟨x4, e4, hs⟩ := aB hs
  refine ev_iald C e4 dX2_addName_4 ?_
  refine ev_aload_n C (x := .ref o) rfl trivial dX2_addName_5 ?_
  obtain ⟨x6, e6, hs⟩ := aB hs
  refine ev_get C (ci := 2) (k := 0) rfl wu_2 (by decide) wf_X2_9 (gO_F e6) dX2_addName_6 ?_
  refine ev_iload_n C rfl dX2_addName_9 ?_
  obtain ⟨x10, e10, hs⟩ := aB hs
  refine ev_iald C e10 dX2_addName_10 ?_
  refine ev_iadd C dX2_addName_11 ?_
  refine ev_istore C (by decide) dX2_addName_12 ?_
  refine ev_aload_n C (x := .ref o) rfl trivial dX2_addName_14 ?_
  obtain ⟨x15, e15, hs⟩ := aB hs
  refine ev_get C (ci := 2) (k := 1) rfl wu_2 (by decide) wf_X2_15 (gO_F e15) dX2_addName_15 ?_
  refine ev_iload C rfl dX2_addName_18 ?_
  refine ev_lload_n C rfl dX2_addName_20 ?_
  obtain ⟨h21, e21, hs⟩ := aB hs
  refine ev_last C e21 dX2_addName_21 ?_
  refine ev_aload_n C (x := .ref o) rfl trivial dX2_addName_22 ?_
  obtain ⟨x23, e23, hs⟩ := aB hs
  refine ev_get C (ci := 2) (k := 0) rfl wu_2 (by decide) wf_X2_9 (gO_F e23) dX2_addName_23 ?_
  refine ev_iload_n C rfl dX2_addName_26 ?_
  refine ev_dup2 C rfl rfl dX2_addName_27 ?_
  obtain ⟨x28, e28, hs⟩ := aB hs
  refine ev_iald C e28 dX2_addName_28 ?_
  refine ev_iconst C (v := 1) dX2_addName_29 (by decide) ?_
  refine ev_iadd C dX2_addName_30 ?_
  obtain ⟨h31, e31, hs⟩ := aB hs
  refine ev_iast C e31 dX2_addName_31 ?_
  refine ev_iload C rfl dX2_addName_32 ?_
  cases hs
  exact ev_iret C rfl rfl (Nat.le_refl _) (Nat.le_refl _) rfl dX2_addName_34
end
-- X2_addStep
theorem dX2_addStep_0 : decode cX2_addStep 0 = .ok (.aload_n 0, 1) := by decide +kernel
theorem dX2_addStep_1 : decode cX2_addStep 1 = .ok (.getfield 25, 3) := by decide +kernel
theorem dX2_addStep_4 : decode cX2_addStep 4 = .ok (.aload_n 0, 1) := by decide +kernel
theorem dX2_addStep_5 : decode cX2_addStep 5 = .ok (.getfield 63, 3) := by decide +kernel
theorem dX2_addStep_8 : decode cX2_addStep 8 = .ok (.iload_n 1, 1) := by decide +kernel
theorem dX2_addStep_9 : decode cX2_addStep 9 = .ok (.iastore, 1) := by decide +kernel
theorem dX2_addStep_10 : decode cX2_addStep 10 = .ok (.aload_n 0, 1) := by decide +kernel
theorem dX2_addStep_11 : decode cX2_addStep 11 = .ok (.getfield 28, 3) := by decide +kernel
theorem dX2_addStep_14 : decode cX2_addStep 14 = .ok (.aload_n 0, 1) := by decide +kernel
theorem dX2_addStep_15 : decode cX2_addStep 15 = .ok (.getfield 63, 3) := by decide +kernel
theorem dX2_addStep_18 : decode cX2_addStep 18 = .ok (.iload_n 2, 1) := by decide +kernel
theorem dX2_addStep_19 : decode cX2_addStep 19 = .ok (.iastore, 1) := by decide +kernel
theorem dX2_addStep_20 : decode cX2_addStep 20 = .ok (.aload_n 0, 1) := by decide +kernel
theorem dX2_addStep_21 : decode cX2_addStep 21 = .ok (.getfield 31, 3) := by decide +kernel
theorem dX2_addStep_24 : decode cX2_addStep 24 = .ok (.aload_n 0, 1) := by decide +kernel
theorem dX2_addStep_25 : decode cX2_addStep 25 = .ok (.getfield 63, 3) := by decide +kernel
theorem dX2_addStep_28 : decode cX2_addStep 28 = .ok (.iload_n 3, 1) := by decide +kernel
theorem dX2_addStep_29 : decode cX2_addStep 29 = .ok (.iastore, 1) := by decide +kernel
theorem dX2_addStep_30 : decode cX2_addStep 30 = .ok (.aload_n 0, 1) := by decide +kernel
theorem dX2_addStep_31 : decode cX2_addStep 31 = .ok (.getfield 34, 3) := by decide +kernel
theorem dX2_addStep_34 : decode cX2_addStep 34 = .ok (.aload_n 0, 1) := by decide +kernel
theorem dX2_addStep_35 : decode cX2_addStep 35 = .ok (.getfield 63, 3) := by decide +kernel
theorem dX2_addStep_38 : decode cX2_addStep 38 = .ok (.iload 4, 2) := by decide +kernel
theorem dX2_addStep_40 : decode cX2_addStep 40 = .ok (.iastore, 1) := by decide +kernel
theorem dX2_addStep_41 : decode cX2_addStep 41 = .ok (.aload_n 0, 1) := by decide +kernel
theorem dX2_addStep_42 : decode cX2_addStep 42 = .ok (.getfield 37, 3) := by decide +kernel
theorem dX2_addStep_45 : decode cX2_addStep 45 = .ok (.aload_n 0, 1) := by decide +kernel
theorem dX2_addStep_46 : decode cX2_addStep 46 = .ok (.getfield 63, 3) := by decide +kernel
theorem dX2_addStep_49 : decode cX2_addStep 49 = .ok (.aload_n 0, 1) := by decide +kernel
theorem dX2_addStep_50 : decode cX2_addStep 50 = .ok (.getfield 53, 3) := by decide +kernel
theorem dX2_addStep_53 : decode cX2_addStep 53 = .ok (.getfield 98, 3) := by decide +kernel
theorem dX2_addStep_56 : decode cX2_addStep 56 = .ok (.iastore, 1) := by decide +kernel
theorem dX2_addStep_57 : decode cX2_addStep 57 = .ok (.aload_n 0, 1) := by decide +kernel
theorem dX2_addStep_58 : decode cX2_addStep 58 = .ok (.dup, 1) := by decide +kernel
theorem dX2_addStep_59 : decode cX2_addStep 59 = .ok (.getfield 63, 3) := by decide +kernel
theorem dX2_addStep_62 : decode cX2_addStep 62 = .ok (.iconst 1, 1) := by decide +kernel
theorem dX2_addStep_63 : decode cX2_addStep 63 = .ok (.iadd, 1) := by decide +kernel
theorem dX2_addStep_64 : decode cX2_addStep 64 = .ok (.putfield 63, 3) := by decide +kernel
theorem dX2_addStep_67 : decode cX2_addStep 67 = .ok (.return_, 1) := by decide +kernel
def s_X2_addStep (o : Nat) (a1 : Int32) (a2 : Int32) (a3 : Int32) (a4 : Int32) (h : aH) : aO :=
  (gO h (.ref o) 2 5).bind fun x1 => (gI h (.ref o) 2 4).bind fun x5 => (stI h (.ref x1) x5 a1).bind fun h9 => (gO h9 (.ref o) 2 6).bind fun x11 => (gI h9 (.ref o) 2 4).bind fun x15 => (stI h9 (.ref x11) x15 a2).bind fun h19 => (gO h19 (.ref o) 2 7).bind fun x21 => (gI h19 (.ref o) 2 4).bind fun x25 => (stI h19 (.ref x21) x25 a3).bind fun h29 => (gO h29 (.ref o) 2 8).bind fun x31 => (gI h29 (.ref o) 2 4).bind fun x35 => (stI h29 (.ref x31) x35 a4).bind fun h40 => (gO h40 (.ref o) 2 9).bind fun x42 => (gI h40 (.ref o) 2 4).bind fun x46 => (gO h40 (.ref o) 2 16).bind fun x50 => (gI h40 (.ref x50) 0 4).bind fun x53 => (stI h40 (.ref x42) x46 x53).bind fun h56 => (gI h56 (.ref o) 2 4).bind fun x59 => (pF h56 (.ref o) 2 4 (.int (x59 + 1))).bind fun h64 => some (.inl none, h64)
section
variable {p : Program} {l : Launch} {e : Env} {s : State} {m : MethodId} {args : Array Value} {below : List Frame} {meth : Method} {c : Code} {D : va_G} {B0 : Nat} {X : Nat → Nat} {ws0 : va_W} {r : aR} {h' : aH} {mc ms : Nat}
theorem hy_X2_addStep : yX2_addStep.cls ≠ "java/lang/invoke/MethodHandle" ∧ yX2_addStep.cls ≠ "java/lang/invoke/VarHandle" ∧ (parseMethodDescriptor yX2_addStep.desc).map (fun d => d.parameters.length) = some 4 := by decide +kernel
theorem T_X2_addStep (o : Nat) (a1 : Int32) (a2 : Int32) (a3 : Int32) (a4 : Int32) (h : aH) (r : aR) (h' : aH) (hs : s_X2_addStep o a1 a2 a3 a4 h = some (r, h')) : Mt yX2_addStep (Cond.code yX2_addStep cX2_addStep 5 none :: aTB) 0 0 0 0 [.ref o, .int a1, .int a2, .int a3, .int a4] h r h' := by
  unfold s_X2_addStep at hs
  refine Mt_of (k := 0) (by decide) rfl (fun p l e s m args below meth c D B0 X ws0 C => ?_)
  show Ev p l e { frames := 0, cells := 0, slots := 0, locals := 0 } s m args below meth c D B0 X ws0 r h' 0 0 5 0 0 0 [some (.ref o), some (.int a1), some (.int a2), some (.int a3), some (.int a4)] [] h
  refine ev_aload_n C (x := .ref o) rfl trivial dX2_addStep_0 ?_
  obtain ⟨x1, e1, hs⟩ := aB hs
  refine ev_get C (ci := 2) (k := 5) rfl wu_2 (by decide) wf_X2_25 (gO_F e1) dX2_addStep_1 ?_
  refine ev_aload_n C (x := .ref o) rfl trivial dX2_addStep_4 ?_
  obtain ⟨x5, e5, hs⟩ := aB hs
  refine ev_get C (ci := 2) (k := 4) rfl wu_2 (by decide) wf_X2_63 (gI_F e5) dX2_addStep_5 ?_
  refine ev_iload_n C rfl dX2_addStep_8 ?_
  obtain ⟨h9, e9, hs⟩ := aB hs
  refine ev_iast C e9 dX2_addStep_9 ?_
  refine ev_aload_n C (x := .ref o) rfl trivial dX2_addStep_10 ?_
  obtain ⟨x11, e11, hs⟩ := aB hs
  refine ev_get C (ci := 2) (k := 6) rfl wu_2 (by decide) wf_X2_28 (gO_F e11) dX2_addStep_11 ?_
  refine ev_aload_n C (x := .ref o) rfl trivial dX2_addStep_14 ?_
  obtain ⟨x15, e15, hs⟩ := aB hs
  refine ev_get C (ci := 2) (k := 4) rfl wu_2 (by decide) wf_X2_63 (gI_F e15) dX2_addStep_15 ?_
  refine ev_iload_n C rfl dX2_addStep_18 ?_
  obtain ⟨h19, e19, hs⟩ := aB hs
  refine ev_iast C e19 dX2_addStep_19 ?_
  refine ev_aload_n C (x := .ref o) rfl trivial dX2_addStep_20 ?_
  obtain ⟨x21, e21, hs⟩ := aB hs
  refine ev_get C (ci := 2) (k := 7) rfl wu_2 (by decide) wf_X2_31 (gO_F e21) dX2_addStep_21 ?_
  refine ev_aload_n C (x := .ref o) rfl trivial dX2_addStep_24 ?_
  obtain ⟨x25, e25, hs⟩ := aB hs
  refine ev_get C (ci := 2) (k := 4) rfl wu_2 (by decide) wf_X2_63 (gI_F e25) dX2_addStep_25 ?_
  refine ev_iload_n C rfl dX2_addStep_28 ?_
  obtain ⟨h29, e29, hs⟩ := aB hs
  refine ev_iast C e29 dX2_addStep_29 ?_
  refine ev_aload_n C (x := .ref o) rfl trivial dX2_addStep_30 ?_
  obtain ⟨x31, e31, hs⟩ := aB hs
  refine ev_get C (ci := 2) (k := 8) rfl wu_2 (by decide) wf_X2_34 (gO_F e31) dX2_addStep_31 ?_
  refine ev_aload_n C (x := .ref o) rfl trivial dX2_addStep_34 ?_
  obtain ⟨x35, e35, hs⟩ := aB hs
  refine ev_get C (ci := 2) (k := 4) rfl wu_2 (by decide) wf_X2_63 (gI_F e35) dX2_addStep_35 ?_
  refine ev_iload C rfl dX2_addStep_38 ?_
  obtain ⟨h40, e40, hs⟩ := aB hs
  refine ev_iast C e40 dX2_addStep_40 ?_
  refine ev_aload_n C (x := .ref o) rfl trivial dX2_addStep_41 ?_
  obtain ⟨x42, e42, hs⟩ := aB hs
  refine ev_get C (ci := 2) (k := 9) rfl wu_2 (by decide) wf_X2_37 (gO_F e42) dX2_addStep_42 ?_
  refine ev_aload_n C (x := .ref o) rfl trivial dX2_addStep_45 ?_
  obtain ⟨x46, e46, hs⟩ := aB hs
  refine ev_get C (ci := 2) (k := 4) rfl wu_2 (by decide) wf_X2_63 (gI_F e46) dX2_addStep_46 ?_
  refine ev_aload_n C (x := .ref o) rfl trivial dX2_addStep_49 ?_
  obtain ⟨x50, e50, hs⟩ := aB hs
  refine ev_get C (ci := 2) (k := 16) rfl wu_2 (by decide) wf_X2_53 (gO_F e50) dX2_addStep_50 ?_
  obtain ⟨x53, e53, hs⟩ := aB hs
  refine ev_getN C (ci := 0) (k := 4) rfl wu_0 (by decide) wg_X2_98 (gI_F e53) dX2_addStep_53 ?_
  obtain ⟨h56, e56, hs⟩ := aB hs
  refine ev_iast C e56 dX2_addStep_56 ?_
  refine ev_aload_n C (x := .ref o) rfl trivial dX2_addStep_57 ?_
  refine ev_dup C rfl dX2_addStep_58 ?_
  obtain ⟨x59, e59, hs⟩ := aB hs
  refine ev_get C (ci := 2) (k := 4) rfl wu_2 (by decide) wf_X2_63 (gI_F e59) dX2_addStep_59 ?_
  refine ev_iconst C (v := 1) dX2_addStep_62 (by decide) ?_
  refine ev_iadd C dX2_addStep_63 ?_
  obtain ⟨h64, e64, hs⟩ := aB hs
  refine ev_put C (ci := 2) (k := 4) rfl wu_2 (by decide) tyX2 tyX2_ok nmX2 wf_X2_63 rfl trivial e64 dX2_addStep_64 ?_
  cases hs
  exact ev_vret C rfl rfl (Nat.le_refl _) (Nat.le_refl _) rfl dX2_addStep_67
end
-- X2_spread
theorem dX2_spread_0 : decode cX2_spread 0 = .ok (.iload_n 2, 1) := by decide +kernel
theorem dX2_spread_1 : decode cX2_spread 1 = .ok (.istore 5, 2) := by decide +kernel
theorem dX2_spread_3 : decode cX2_spread 3 = .ok (.getstatic 95, 3) := by decide +kernel
theorem dX2_spread_6 : decode cX2_spread 6 = .ok (.iload_n 1, 1) := by decide +kernel
theorem dX2_spread_7 : decode cX2_spread 7 = .ok (.iaload, 1) := by decide +kernel
theorem dX2_spread_8 : decode cX2_spread 8 = .ok (.aload_n 0, 1) := by decide +kernel
theorem dX2_spread_9 : decode cX2_spread 9 = .ok (.getfield 9, 3) := by decide +kernel
theorem dX2_spread_12 : decode cX2_spread 12 = .ok (.iload_n 1, 1) := by decide +kernel
theorem dX2_spread_13 : decode cX2_spread 13 = .ok (.iaload, 1) := by decide +kernel
theorem dX2_spread_14 : decode cX2_spread 14 = .ok (.iadd, 1) := by decide +kernel
theorem dX2_spread_15 : decode cX2_spread 15 = .ok (.iconst 1, 1) := by decide +kernel
theorem dX2_spread_16 : decode cX2_spread 16 = .ok (.isub, 1) := by decide +kernel
theorem dX2_spread_17 : decode cX2_spread 17 = .ok (.istore 6, 2) := by decide +kernel
theorem dX2_spread_19 : decode cX2_spread 19 = .ok (.iload 6, 2) := by decide +kernel
theorem dX2_spread_21 : decode cX2_spread 21 = .ok (.getstatic 95, 3) := by decide +kernel
theorem dX2_spread_24 : decode cX2_spread 24 = .ok (.iload_n 1, 1) := by decide +kernel
theorem dX2_spread_25 : decode cX2_spread 25 = .ok (.iaload, 1) := by decide +kernel
theorem dX2_spread_26 : decode cX2_spread 26 = .ok (.if_icmp .lt 45, 3) := by decide +kernel
theorem dX2_spread_29 : decode cX2_spread 29 = .ok (.aload_n 0, 1) := by decide +kernel
theorem dX2_spread_30 : decode cX2_spread 30 = .ok (.iload 6, 2) := by decide +kernel
theorem dX2_spread_32 : decode cX2_spread 32 = .ok (.iload_n 3, 1) := by decide +kernel
theorem dX2_spread_33 : decode cX2_spread 33 = .ok (.invokevirtual 101, 3) := by decide +kernel
theorem dX2_spread_36 : decode cX2_spread 36 = .ok (.istore 7, 2) := by decide +kernel
theorem dX2_spread_38 : decode cX2_spread 38 = .ok (.aload 4, 2) := by decide +kernel
theorem dX2_spread_40 : decode cX2_spread 40 = .ok (.iload 6, 2) := by decide +kernel
theorem dX2_spread_42 : decode cX2_spread 42 = .ok (.aload_n 0, 1) := by decide +kernel
theorem dX2_spread_43 : decode cX2_spread 43 = .ok (.getfield 19, 3) := by decide +kernel
theorem dX2_spread_46 : decode cX2_spread 46 = .ok (.iload 6, 2) := by decide +kernel
theorem dX2_spread_48 : decode cX2_spread 48 = .ok (.iaload, 1) := by decide +kernel
theorem dX2_spread_49 : decode cX2_spread 49 = .ok (.iload_n 3, 1) := by decide +kernel
theorem dX2_spread_50 : decode cX2_spread 50 = .ok (.isub, 1) := by decide +kernel
theorem dX2_spread_51 : decode cX2_spread 51 = .ok (.iload 5, 2) := by decide +kernel
theorem dX2_spread_53 : decode cX2_spread 53 = .ok (.iload 7, 2) := by decide +kernel
theorem dX2_spread_55 : decode cX2_spread 55 = .ok (.irem, 1) := by decide +kernel
theorem dX2_spread_56 : decode cX2_spread 56 = .ok (.iadd, 1) := by decide +kernel
theorem dX2_spread_57 : decode cX2_spread 57 = .ok (.iastore, 1) := by decide +kernel
theorem dX2_spread_58 : decode cX2_spread 58 = .ok (.iload 5, 2) := by decide +kernel
theorem dX2_spread_60 : decode cX2_spread 60 = .ok (.iload 7, 2) := by decide +kernel
theorem dX2_spread_62 : decode cX2_spread 62 = .ok (.idiv, 1) := by decide +kernel
theorem dX2_spread_63 : decode cX2_spread 63 = .ok (.istore 5, 2) := by decide +kernel
theorem dX2_spread_65 : decode cX2_spread 65 = .ok (.iinc 6 (-1), 3) := by decide +kernel
theorem dX2_spread_68 : decode cX2_spread 68 = .ok (.goto (-49), 3) := by decide +kernel
theorem dX2_spread_71 : decode cX2_spread 71 = .ok (.return_, 1) := by decide +kernel
def s_X2_spread_19_b  (k19 : Nat → Int32 → Int32 → Nat → Int32 → Int32 → aH → aO) (l0 : Nat) (l1 : Int32) (l3 : Int32) (l4 : Nat) (l5 : Int32) (l6 : Int32) (h : aH) : aO :=
  (ldI .int h (.ref (aE + 1)) l1).bind fun x25 => if l6 < x25 then (some (.inl none, h)) else (kO h l0 2 (cI (s_X2_width l0 l6 l3 h) fun x33 h33 => (gO h33 (.ref l0) 2 2).bind fun x43 => (ldI .int h33 (.ref x43) l6).bind fun x48 => nz x33 ((stI h33 (.ref l4) l6 ((x48 - l3) + (l5 - l5 / x33 * x33))).bind fun h57 => nz x33 (k19 l0 l1 l3 l4 (l5 / x33) (l6 + (-1)) h57))))
def s_X2_spread_19  (n : Nat) : Nat → Int32 → Int32 → Nat → Int32 → Int32 → aH → aO := lpF (fun _ _ _ _ _ _ _ => none) (s_X2_spread_19_b ) n
def s_X2_spread (o : Nat) (a1 : Int32) (a2 : Int32) (a3 : Int32) (a4 : Nat) (h : aH) : aO :=
  (ldI .int h (.ref (aE + 1)) a1).bind fun x7 => (gO h (.ref o) 2 0).bind fun x9 => (ldI .int h (.ref x9) a1).bind fun x13 => s_X2_spread_19 FU o a1 a3 a4 a2 ((x7 + x13) - 1) h
section
variable {p : Program} {l : Launch} {e : Env} {s : State} {m : MethodId} {args : Array Value} {below : List Frame} {meth : Method} {c : Code} {D : va_G} {B0 : Nat} {X : Nat → Nat} {ws0 : va_W} {r : aR} {h' : aH} {mc ms : Nat}
theorem t_X2_spread_19_b (C : Cx p l s m args meth c B0 X RX2 "spread" cX2_spread 8 none [])   {k19 : Nat → Int32 → Int32 → Nat → Int32 → Int32 → aH → aO} (K19 : ∀ (l0 : Nat) (l1 : Int32) (l3 : Int32) (l4 : Nat) (l5 : Int32) (l6 : Int32) (h : aH), k19 l0 l1 l3 l4 l5 l6 h = some (r, h') → Ev p l e { frames := 1, cells := mc, slots := ms, locals := 23 } s m args below meth c D B0 X ws0 r h' mc ms 8 mc ms 19 [some (.ref l0), some (.int l1), none, some (.int l3), some (.ref l4), some (.int l5), some (.int l6), none] [] h) {l0 : Nat} {l1 : Int32} {l3 : Int32} {l4 : Nat} {l5 : Int32} {l6 : Int32} {h : aH} (hs : s_X2_spread_19_b  k19 l0 l1 l3 l4 l5 l6 h = some (r, h')) : Ev p l e { frames := 1, cells := mc, slots := ms, locals := 23 } s m args below meth c D B0 X ws0 r h' mc ms 8 mc ms 19 [some (.ref l0), some (.int l1), none, some (.int l3), some (.ref l4), some (.int l5), some (.int l6), none] [] h := by
  unfold s_X2_spread_19_b at hs
  refine ev_iload C rfl dX2_spread_19 ?_
  refine ev_getsBASEN C wg_X2_95 dX2_spread_21 ?_
  refine ev_iload_n C rfl dX2_spread_24 ?_
  obtain ⟨x25, e25, hs⟩ := aB hs
  refine ev_iald C e25 dX2_spread_25 ?_
  refine ev_icmp_lt C (tgt := 71) (by decide) dX2_spread_26 (fun q26 => ?_) (fun q26 => ?_)
  · replace hs := (if_pos q26).symm.trans hs
    cases hs
    exact ev_vret C rfl rfl (Nat.le_refl _) (Nat.le_refl _) rfl dX2_spread_71
  · replace hs := (if_neg q26).symm.trans hs
    refine ev_aload_n C (x := .ref l0) rfl trivial dX2_spread_29 ?_
    refine ev_iload C rfl dX2_spread_30 ?_
    refine ev_iload_n C rfl dX2_spread_32 ?_
    obtain ⟨eo33, hs⟩ := kO_at hs
    obtain ⟨x33, h33, e33, hs⟩ := cI_at hs
    refine ev_callV C (T_X2_width _ _ _ _ _ _ e33) (ci := 2) rfl eo33 wc_X2_width wm_X2_101 wi_X2_width ws_X2_width wz_X2 hy_X2_width ⟨(Nat.le_of_ble_eq_true rfl), (Nat.le_of_ble_eq_true rfl)⟩ ⟨(Nat.le_refl _), (Nat.le_refl _)⟩ (Nat.le_of_ble_eq_true rfl) rfl dX2_spread_33 ?_
    refine ev_istore C (by decide) dX2_spread_36 ?_
    refine ev_aload C (x := .ref l4) rfl trivial dX2_spread_38 ?_
    refine ev_iload C rfl dX2_spread_40 ?_
    refine ev_aload_n C (x := .ref l0) rfl trivial dX2_spread_42 ?_
    obtain ⟨x43, e43, hs⟩ := aB hs
    refine ev_get C (ci := 2) (k := 2) rfl wu_2 (by decide) wf_X2_19 (gO_F e43) dX2_spread_43 ?_
    refine ev_iload C rfl dX2_spread_46 ?_
    obtain ⟨x48, e48, hs⟩ := aB hs
    refine ev_iald C e48 dX2_spread_48 ?_
    refine ev_iload_n C rfl dX2_spread_49 ?_
    refine ev_isub C dX2_spread_50 ?_
    refine ev_iload C rfl dX2_spread_51 ?_
    refine ev_iload C rfl dX2_spread_53 ?_
    obtain ⟨n55, hs⟩ := nz_at hs
    refine ev_irem C n55 dX2_spread_55 ?_
    refine ev_iadd C dX2_spread_56 ?_
    obtain ⟨h57, e57, hs⟩ := aB hs
    refine ev_iast C e57 dX2_spread_57 ?_
    refine ev_iload C rfl dX2_spread_58 ?_
    refine ev_iload C rfl dX2_spread_60 ?_
    obtain ⟨n62, hs⟩ := nz_at hs
    refine ev_idiv C n62 dX2_spread_62 ?_
    refine ev_istore C (by decide) dX2_spread_63 ?_
    refine ev_iinc C (i := 6) (n := -1) (x := l6) (v := l6 + (-1)) rfl (congrArg (fun z => l6 + z) (show Int32.ofInt (-1) = (-1) by decide)) (by decide) dX2_spread_65 ?_
    refine ev_goto C (tgt := 19) (by decide) dX2_spread_68 ?_
    exact Ev.keep [true, true, true, true, true, true, true, false] (K19 _ _ _ _ _ _ _ hs)
theorem t_X2_spread_19 (C : Cx p l s m args meth c B0 X RX2 "spread" cX2_spread 8 none [])   : ∀ (n : Nat) {l0 : Nat} {l1 : Int32} {l3 : Int32} {l4 : Nat} {l5 : Int32} {l6 : Int32} {h : aH} (hs : s_X2_spread_19  n l0 l1 l3 l4 l5 l6 h = some (r, h')), Ev p l e { frames := 1, cells := mc, slots := ms, locals := 23 } s m args below meth c D B0 X ws0 r h' mc ms 8 mc ms 19 [some (.ref l0), some (.int l1), none, some (.int l3), some (.ref l4), some (.int l5), some (.int l6), none] [] h
  | 0, _, _, _, _, _, _, _, hs => nomatch hs
  | n + 1, _, _, _, _, _, _, _, hs => t_X2_spread_19_b C  (k19 := s_X2_spread_19  n) (fun _ _ _ _ _ _ _ hs => t_X2_spread_19 C  n hs) hs
theorem hy_X2_spread : yX2_spread.cls ≠ "java/lang/invoke/MethodHandle" ∧ yX2_spread.cls ≠ "java/lang/invoke/VarHandle" ∧ (parseMethodDescriptor yX2_spread.desc).map (fun d => d.parameters.length) = some 4 := by decide +kernel
theorem T_X2_spread (o : Nat) (a1 : Int32) (a2 : Int32) (a3 : Int32) (a4 : Nat) (h : aH) (r : aR) (h' : aH) (hs : s_X2_spread o a1 a2 a3 a4 h = some (r, h')) : Mt yX2_spread (Cond.code yX2_spread cX2_spread 8 none :: aTB) 1 23 0 0 [.ref o, .int a1, .int a2, .int a3, .ref a4] h r h' := by
  unfold s_X2_spread at hs
  refine Mt_of (k := 3) (by decide) rfl (fun p l e s m args below meth c D B0 X ws0 C => ?_)
  show Ev p l e { frames := 1, cells := 0, slots := 0, locals := 23 } s m args below meth c D B0 X ws0 r h' 0 0 8 0 0 0 [some (.ref o), some (.int a1), some (.int a2), some (.int a3), some (.ref a4), none, none, none] [] h
  refine ev_iload_n C rfl dX2_spread_0 ?_
  refine ev_istore C (by decide) dX2_spread_1 ?_
  refine ev_getsBASEN C wg_X2_95 dX2_spread_3 ?_
  refine ev_iload_n C rfl dX2_spread_6 ?_
  obtain ⟨x7, e7, hs⟩ := aB hs
  refine ev_iald C e7 dX2_spread_7 ?_
  refine ev_aload_n C (x := .ref o) rfl trivial dX2_spread_8 ?_
  obtain ⟨x9, e9, hs⟩ := aB hs
  refine ev_get C (ci := 2) (k := 0) rfl wu_2 (by decide) wf_X2_9 (gO_F e9) dX2_spread_9 ?_
  refine ev_iload_n C rfl dX2_spread_12 ?_
  obtain ⟨x13, e13, hs⟩ := aB hs
  refine ev_iald C e13 dX2_spread_13 ?_
  refine ev_iadd C dX2_spread_14 ?_
  refine ev_iconst C (v := 1) dX2_spread_15 (by decide) ?_
  refine ev_isub C dX2_spread_16 ?_
  refine ev_istore C (by decide) dX2_spread_17 ?_
  exact Ev.keep [true, true, false, true, true, true, true, true] (t_X2_spread_19 C  FU hs)
end
-- X2_spreadWorld
theorem dX2_spreadWorld_0 : decode cX2_spreadWorld 0 = .ok (.iconst 1, 1) := by decide +kernel
theorem dX2_spreadWorld_1 : decode cX2_spreadWorld 1 = .ok (.aload_n 0, 1) := by decide +kernel
theorem dX2_spreadWorld_2 : decode cX2_spreadWorld 2 = .ok (.getfield 46, 3) := by decide +kernel
theorem dX2_spreadWorld_5 : decode cX2_spreadWorld 5 = .ok (.invokestatic 104, 3) := by decide +kernel
theorem dX2_spreadWorld_8 : decode cX2_spreadWorld 8 = .ok (.istore 4, 2) := by decide +kernel
theorem dX2_spreadWorld_10 : decode cX2_spreadWorld 10 = .ok (.aload_n 0, 1) := by decide +kernel
theorem dX2_spreadWorld_11 : decode cX2_spreadWorld 11 = .ok (.iconst 2, 1) := by decide +kernel
theorem dX2_spreadWorld_12 : decode cX2_spreadWorld 12 = .ok (.iload_n 1, 1) := by decide +kernel
theorem dX2_spreadWorld_13 : decode cX2_spreadWorld 13 = .ok (.iload 4, 2) := by decide +kernel
theorem dX2_spreadWorld_15 : decode cX2_spreadWorld 15 = .ok (.idiv, 1) := by decide +kernel
theorem dX2_spreadWorld_16 : decode cX2_spreadWorld 16 = .ok (.iload_n 2, 1) := by decide +kernel
theorem dX2_spreadWorld_17 : decode cX2_spreadWorld 17 = .ok (.aload_n 3, 1) := by decide +kernel
theorem dX2_spreadWorld_18 : decode cX2_spreadWorld 18 = .ok (.invokevirtual 109, 3) := by decide +kernel
theorem dX2_spreadWorld_21 : decode cX2_spreadWorld 21 = .ok (.aload_n 0, 1) := by decide +kernel
theorem dX2_spreadWorld_22 : decode cX2_spreadWorld 22 = .ok (.iconst 3, 1) := by decide +kernel
theorem dX2_spreadWorld_23 : decode cX2_spreadWorld 23 = .ok (.iload_n 1, 1) := by decide +kernel
theorem dX2_spreadWorld_24 : decode cX2_spreadWorld 24 = .ok (.iload 4, 2) := by decide +kernel
theorem dX2_spreadWorld_26 : decode cX2_spreadWorld 26 = .ok (.irem, 1) := by decide +kernel
theorem dX2_spreadWorld_27 : decode cX2_spreadWorld 27 = .ok (.iconst 0, 1) := by decide +kernel
theorem dX2_spreadWorld_28 : decode cX2_spreadWorld 28 = .ok (.aload_n 3, 1) := by decide +kernel
theorem dX2_spreadWorld_29 : decode cX2_spreadWorld 29 = .ok (.invokevirtual 109, 3) := by decide +kernel
theorem dX2_spreadWorld_32 : decode cX2_spreadWorld 32 = .ok (.return_, 1) := by decide +kernel
def s_X2_spreadWorld (o : Nat) (a1 : Int32) (a2 : Int32) (a3 : Nat) (h : aH) : aO :=
  (gI h (.ref o) 2 15).bind fun x2 => nz (jmax 1 x2) (kO h o 2 (cN (s_X2_spread o 2 (a1 / (jmax 1 x2)) a2 a3 h) fun h18 => nz (jmax 1 x2) (kO h18 o 2 (cN (s_X2_spread o 3 (a1 - a1 / (jmax 1 x2) * (jmax 1 x2)) 0 a3 h18) fun h29 => some (.inl none, h29)))))
section
variable {p : Program} {l : Launch} {e : Env} {s : State} {m : MethodId} {args : Array Value} {below : List Frame} {meth : Method} {c : Code} {D : va_G} {B0 : Nat} {X : Nat → Nat} {ws0 : va_W} {r : aR} {h' : aH} {mc ms : Nat}
theorem hy_X2_spreadWorld : yX2_spreadWorld.cls ≠ "java/lang/invoke/MethodHandle" ∧ yX2_spreadWorld.cls ≠ "java/lang/invoke/VarHandle" ∧ (parseMethodDescriptor yX2_spreadWorld.desc).map (fun d => d.parameters.length) = some 3 := by decide +kernel
theorem T_X2_spreadWorld (o : Nat) (a1 : Int32) (a2 : Int32) (a3 : Nat) (h : aH) (r : aR) (h' : aH) (hs : s_X2_spreadWorld o a1 a2 a3 h = some (r, h')) : Mt yX2_spreadWorld (Cond.code yX2_spreadWorld cX2_spreadWorld 5 none :: aTB) 2 50 0 0 [.ref o, .int a1, .int a2, .ref a3] h r h' := by
  unfold s_X2_spreadWorld at hs
  refine Mt_of (k := 1) (by decide) rfl (fun p l e s m args below meth c D B0 X ws0 C => ?_)
  show Ev p l e { frames := 2, cells := 0, slots := 0, locals := 50 } s m args below meth c D B0 X ws0 r h' 0 0 5 0 0 0 [some (.ref o), some (.int a1), some (.int a2), some (.ref a3), none] [] h
  refine ev_iconst C (v := 1) dX2_spreadWorld_0 (by decide) ?_
  refine ev_aload_n C (x := .ref o) rfl trivial dX2_spreadWorld_1 ?_
  obtain ⟨x2, e2, hs⟩ := aB hs
  refine ev_get C (ci := 2) (k := 15) rfl wu_2 (by decide) wf_X2_46 (gI_F e2) dX2_spreadWorld_2 ?_
  refine ev_mmax C wm_X2_104 wt_mmax wz_J9 wc_mmax (Nat.le_of_ble_eq_true rfl) (Nat.le_of_ble_eq_true rfl) (Nat.le_refl _) (Nat.le_refl _) dX2_spreadWorld_5 ?_
  refine ev_istore C (by decide) dX2_spreadWorld_8 ?_
  refine ev_aload_n C (x := .ref o) rfl trivial dX2_spreadWorld_10 ?_
  refine ev_iconst C (v := 2) dX2_spreadWorld_11 (by decide) ?_
  refine ev_iload_n C rfl dX2_spreadWorld_12 ?_
  refine ev_iload C rfl dX2_spreadWorld_13 ?_
  obtain ⟨n15, hs⟩ := nz_at hs
  refine ev_idiv C n15 dX2_spreadWorld_15 ?_
  refine ev_iload_n C rfl dX2_spreadWorld_16 ?_
  refine ev_aload_n C (x := .ref a3) rfl trivial dX2_spreadWorld_17 ?_
  obtain ⟨eo18, hs⟩ := kO_at hs
  obtain ⟨h18, e18, hs⟩ := cN_at hs
  refine ev_callV C (T_X2_spread _ _ _ _ _ _ _ _ e18) (ci := 2) rfl eo18 wc_X2_spread wm_X2_109 wi_X2_spread ws_X2_spread wz_X2 hy_X2_spread ⟨(Nat.le_of_ble_eq_true rfl), (Nat.le_of_ble_eq_true rfl)⟩ ⟨(Nat.le_refl _), (Nat.le_refl _)⟩ (Nat.le_of_ble_eq_true rfl) rfl dX2_spreadWorld_18 ?_
  refine ev_aload_n C (x := .ref o) rfl trivial dX2_spreadWorld_21 ?_
  refine ev_iconst C (v := 3) dX2_spreadWorld_22 (by decide) ?_
  refine ev_iload_n C rfl dX2_spreadWorld_23 ?_
  refine ev_iload C rfl dX2_spreadWorld_24 ?_
  obtain ⟨n26, hs⟩ := nz_at hs
  refine ev_irem C n26 dX2_spreadWorld_26 ?_
  refine ev_iconst C (v := 0) dX2_spreadWorld_27 (by decide) ?_
  refine ev_aload_n C (x := .ref a3) rfl trivial dX2_spreadWorld_28 ?_
  obtain ⟨eo29, hs⟩ := kO_at hs
  obtain ⟨h29, e29, hs⟩ := cN_at hs
  refine ev_callV C (T_X2_spread _ _ _ _ _ _ _ _ e29) (ci := 2) rfl eo29 wc_X2_spread wm_X2_109 wi_X2_spread ws_X2_spread wz_X2 hy_X2_spread ⟨(Nat.le_of_ble_eq_true rfl), (Nat.le_of_ble_eq_true rfl)⟩ ⟨(Nat.le_refl _), (Nat.le_refl _)⟩ (Nat.le_of_ble_eq_true rfl) rfl dX2_spreadWorld_29 ?_
  cases hs
  exact ev_vret C rfl rfl (Nat.le_refl _) (Nat.le_refl _) rfl dX2_spreadWorld_32
end
-- X2_isEdge
theorem dX2_isEdge_0 : decode cX2_isEdge 0 = .ok (.getstatic 95, 3) := by decide +kernel
theorem dX2_isEdge_3 : decode cX2_isEdge 3 = .ok (.iconst 2, 1) := by decide +kernel
theorem dX2_isEdge_4 : decode cX2_isEdge 4 = .ok (.iaload, 1) := by decide +kernel
theorem dX2_isEdge_5 : decode cX2_isEdge 5 = .ok (.istore_n 3, 1) := by decide +kernel
theorem dX2_isEdge_6 : decode cX2_isEdge 6 = .ok (.iload_n 3, 1) := by decide +kernel
theorem dX2_isEdge_7 : decode cX2_isEdge 7 = .ok (.getstatic 95, 3) := by decide +kernel
theorem dX2_isEdge_10 : decode cX2_isEdge 10 = .ok (.iconst 2, 1) := by decide +kernel
theorem dX2_isEdge_11 : decode cX2_isEdge 11 = .ok (.iaload, 1) := by decide +kernel
theorem dX2_isEdge_12 : decode cX2_isEdge 12 = .ok (.aload_n 0, 1) := by decide +kernel
theorem dX2_isEdge_13 : decode cX2_isEdge 13 = .ok (.getfield 9, 3) := by decide +kernel
theorem dX2_isEdge_16 : decode cX2_isEdge 16 = .ok (.iconst 2, 1) := by decide +kernel
theorem dX2_isEdge_17 : decode cX2_isEdge 17 = .ok (.iaload, 1) := by decide +kernel
theorem dX2_isEdge_18 : decode cX2_isEdge 18 = .ok (.iadd, 1) := by decide +kernel
theorem dX2_isEdge_19 : decode cX2_isEdge 19 = .ok (.if_icmp .ge 39, 3) := by decide +kernel
theorem dX2_isEdge_22 : decode cX2_isEdge 22 = .ok (.aload_n 2, 1) := by decide +kernel
theorem dX2_isEdge_23 : decode cX2_isEdge 23 = .ok (.iload_n 3, 1) := by decide +kernel
theorem dX2_isEdge_24 : decode cX2_isEdge 24 = .ok (.iaload, 1) := by decide +kernel
theorem dX2_isEdge_25 : decode cX2_isEdge 25 = .ok (.aload_n 0, 1) := by decide +kernel
theorem dX2_isEdge_26 : decode cX2_isEdge 26 = .ok (.getfield 19, 3) := by decide +kernel
theorem dX2_isEdge_29 : decode cX2_isEdge 29 = .ok (.iload_n 3, 1) := by decide +kernel
theorem dX2_isEdge_30 : decode cX2_isEdge 30 = .ok (.iaload, 1) := by decide +kernel
theorem dX2_isEdge_31 : decode cX2_isEdge 31 = .ok (.iload_n 1, 1) := by decide +kernel
theorem dX2_isEdge_32 : decode cX2_isEdge 32 = .ok (.isub, 1) := by decide +kernel
theorem dX2_isEdge_33 : decode cX2_isEdge 33 = .ok (.if_icmp .eq 17, 3) := by decide +kernel
theorem dX2_isEdge_36 : decode cX2_isEdge 36 = .ok (.aload_n 2, 1) := by decide +kernel
theorem dX2_isEdge_37 : decode cX2_isEdge 37 = .ok (.iload_n 3, 1) := by decide +kernel
theorem dX2_isEdge_38 : decode cX2_isEdge 38 = .ok (.iaload, 1) := by decide +kernel
theorem dX2_isEdge_39 : decode cX2_isEdge 39 = .ok (.aload_n 0, 1) := by decide +kernel
theorem dX2_isEdge_40 : decode cX2_isEdge 40 = .ok (.getfield 22, 3) := by decide +kernel
theorem dX2_isEdge_43 : decode cX2_isEdge 43 = .ok (.iload_n 3, 1) := by decide +kernel
theorem dX2_isEdge_44 : decode cX2_isEdge 44 = .ok (.iaload, 1) := by decide +kernel
theorem dX2_isEdge_45 : decode cX2_isEdge 45 = .ok (.iload_n 1, 1) := by decide +kernel
theorem dX2_isEdge_46 : decode cX2_isEdge 46 = .ok (.iadd, 1) := by decide +kernel
theorem dX2_isEdge_47 : decode cX2_isEdge 47 = .ok (.if_icmp .ne 5, 3) := by decide +kernel
theorem dX2_isEdge_50 : decode cX2_isEdge 50 = .ok (.iconst 1, 1) := by decide +kernel
theorem dX2_isEdge_51 : decode cX2_isEdge 51 = .ok (.ireturn, 1) := by decide +kernel
theorem dX2_isEdge_52 : decode cX2_isEdge 52 = .ok (.iinc 3 1, 3) := by decide +kernel
theorem dX2_isEdge_55 : decode cX2_isEdge 55 = .ok (.goto (-49), 3) := by decide +kernel
theorem dX2_isEdge_58 : decode cX2_isEdge 58 = .ok (.iconst 0, 1) := by decide +kernel
theorem dX2_isEdge_59 : decode cX2_isEdge 59 = .ok (.ireturn, 1) := by decide +kernel
def s_X2_isEdge_6_b  (k6 : Nat → Int32 → Nat → Int32 → aH → aO) (l0 : Nat) (l1 : Int32) (l2 : Nat) (l3 : Int32) (h : aH) : aO :=
  (ldI .int h (.ref (aE + 1)) 2).bind fun x11 => (gO h (.ref l0) 2 0).bind fun x13 => (ldI .int h (.ref x13) 2).bind fun x17 => if (x11 + x17) ≤ l3 then (rtZ 0 h) else ((ldI .int h (.ref l2) l3).bind fun x24 => (gO h (.ref l0) 2 2).bind fun x26 => (ldI .int h (.ref x26) l3).bind fun x30 => if x24 = (x30 - l1) then (rtZ 1 h) else ((ldI .int h (.ref l2) l3).bind fun x38 => (gO h (.ref l0) 2 3).bind fun x40 => (ldI .int h (.ref x40) l3).bind fun x44 => if x38 = (x44 + l1) then (rtZ 1 h) else (k6 l0 l1 l2 (l3 + 1) h)))
def s_X2_isEdge_6  (n : Nat) : Nat → Int32 → Nat → Int32 → aH → aO := lpF (fun _ _ _ _ _ => none) (s_X2_isEdge_6_b ) n
def s_X2_isEdge (o : Nat) (a1 : Int32) (a2 : Nat) (h : aH) : aO :=
  (ldI .int h (.ref (aE + 1)) 2).bind fun x4 => s_X2_isEdge_6 FU o a1 a2 x4 h
section
variable {p : Program} {l : Launch} {e : Env} {s : State} {m : MethodId} {args : Array Value} {below : List Frame} {meth : Method} {c : Code} {D : va_G} {B0 : Nat} {X : Nat → Nat} {ws0 : va_W} {r : aR} {h' : aH} {mc ms : Nat}
theorem t_X2_isEdge_6_b (C : Cx p l s m args meth c B0 X RX2 "isEdge" cX2_isEdge 4 (some .boolean) [])   {k6 : Nat → Int32 → Nat → Int32 → aH → aO} (K6 : ∀ (l0 : Nat) (l1 : Int32) (l2 : Nat) (l3 : Int32) (h : aH), k6 l0 l1 l2 l3 h = some (r, h') → Ev p l e { frames := 0, cells := mc, slots := ms, locals := 0 } s m args below meth c D B0 X ws0 r h' mc ms 4 mc ms 6 [some (.ref l0), some (.int l1), some (.ref l2), some (.int l3)] [] h) {l0 : Nat} {l1 : Int32} {l2 : Nat} {l3 : Int32} {h : aH} (hs : s_X2_isEdge_6_b  k6 l0 l1 l2 l3 h = some (r, h')) : Ev p l e { frames := 0, cells := mc, slots := ms, locals := 0 } s m args below meth c D B0 X ws0 r h' mc ms 4 mc ms 6 [some (.ref l0), some (.int l1), some (.ref l2), some (.int l3)] [] h := by
  unfold s_X2_isEdge_6_b at hs
  refine ev_iload_n C rfl dX2_isEdge_6 ?_
  refine ev_getsBASEN C wg_X2_95 dX2_isEdge_7 ?_
  refine ev_iconst C (v := 2) dX2_isEdge_10 (by decide) ?_
  obtain ⟨x11, e11, hs⟩ := aB hs
  refine ev_iald C e11 dX2_isEdge_11 ?_
  refine ev_aload_n C (x := .ref l0) rfl trivial dX2_isEdge_12 ?_
  obtain ⟨x13, e13, hs⟩ := aB hs
  refine ev_get C (ci := 2) (k := 0) rfl wu_2 (by decide) wf_X2_9 (gO_F e13) dX2_isEdge_13 ?_
  refine ev_iconst C (v := 2) dX2_isEdge_16 (by decide) ?_
  obtain ⟨x17, e17, hs⟩ := aB hs
  refine ev_iald C e17 dX2_isEdge_17 ?_
  refine ev_iadd C dX2_isEdge_18 ?_
  refine ev_icmp_ge C (tgt := 58) (by decide) dX2_isEdge_19 (fun q19 => ?_) (fun q19 => ?_)
  · replace hs := (if_pos q19).symm.trans hs
    refine ev_iconst C (v := 0) dX2_isEdge_58 (by decide) ?_
    obtain ⟨hz, rfl, rfl⟩ := rtZ_at hs
    exact ev_zret C rfl hz rfl (Nat.le_refl _) (Nat.le_refl _) rfl dX2_isEdge_59
  · replace hs := (if_neg q19).symm.trans hs
    refine ev_aload_n C (x := .ref l2) rfl trivial dX2_isEdge_22 ?_
    refine ev_iload_n C rfl dX2_isEdge_23 ?_
    obtain ⟨x24, e24, hs⟩ := aB hs
    refine ev_iald C e24 dX2_isEdge_24 ?_
    refine ev_aload_n C (x := .ref l0) rfl trivial dX2_isEdge_25 ?_
    obtain ⟨x26, e26, hs⟩ := aB hs
    refine ev_get C (ci := 2) (k := 2) rfl wu_2 (by decide) wf_X2_19 (gO_F e26) dX2_isEdge_26 ?_
    refine ev_iload_n C rfl dX2_isEdge_29 ?_
    obtain ⟨x30, e30, hs⟩ := aB hs
    refine ev_iald C e30 dX2_isEdge_30 ?_
    refine ev_iload_n C rfl dX2_isEdge_31 ?_
    refine ev_isub C dX2_isEdge_32 ?_
    refine ev_icmp_eq C (tgt := 50) (by decide) dX2_isEdge_33 (fun q33 => ?_) (fun q33 => ?_)
    · replace hs := (if_pos q33).symm.trans hs
      refine ev_iconst C (v := 1) dX2_isEdge_50 (by decide) ?_
      obtain ⟨hz, rfl, rfl⟩ := rtZ_at hs
      exact ev_zret C rfl hz rfl (Nat.le_refl _) (Nat.le_refl _) rfl dX2_isEdge_51
    · replace hs := (if_neg q33).symm.trans hs
      refine ev_aload_n C (x := .ref l2) rfl trivial dX2_isEdge_36 ?_
      refine ev_iload_n C rfl dX2_isEdge_37 ?_
      obtain ⟨x38, e38, hs⟩ := aB hs
      refine ev_iald C e38 dX2_isEdge_38 ?_
      refine ev_aload_n C (x := .ref l0) rfl trivial dX2_isEdge_39 ?_
      obtain ⟨x40, e40, hs⟩ := aB hs
      refine ev_get C (ci := 2) (k := 3) rfl wu_2 (by decide) wf_X2_22 (gO_F e40) dX2_isEdge_40 ?_
      refine ev_iload_n C rfl dX2_isEdge_43 ?_
      obtain ⟨x44, e44, hs⟩ := aB hs
      refine ev_iald C e44 dX2_isEdge_44 ?_
      refine ev_iload_n C rfl dX2_isEdge_45 ?_
      refine ev_iadd C dX2_isEdge_46 ?_
      refine ev_icmp_ne C (tgt := 52) (by decide) dX2_isEdge_47 (fun q47 => ?_) (fun q47 => ?_)
      · replace hs := (if_neg q47).symm.trans hs
        refine ev_iinc C (i := 3) (n := 1) (x := l3) (v := l3 + 1) rfl (congrArg (fun z => l3 + z) (show Int32.ofInt 1 = 1 by decide)) (by decide) dX2_isEdge_52 ?_
        refine ev_goto C (tgt := 6) (by decide) dX2_isEdge_55 ?_
        exact (K6 _ _ _ _ _ hs)
      · replace hs := (if_pos q47).symm.trans hs
        refine ev_iconst C (v := 1) dX2_isEdge_50 (by decide) ?_
        obtain ⟨hz, rfl, rfl⟩ := rtZ_at hs
        exact ev_zret C rfl hz rfl (Nat.le_refl _) (Nat.le_refl _) rfl dX2_isEdge_51
theorem t_X2_isEdge_6 (C : Cx p l s m args meth c B0 X RX2 "isEdge" cX2_isEdge 4 (some .boolean) [])   : ∀ (n : Nat) {l0 : Nat} {l1 : Int32} {l2 : Nat} {l3 : Int32} {h : aH} (hs : s_X2_isEdge_6  n l0 l1 l2 l3 h = some (r, h')), Ev p l e { frames := 0, cells := mc, slots := ms, locals := 0 } s m args below meth c D B0 X ws0 r h' mc ms 4 mc ms 6 [some (.ref l0), some (.int l1), some (.ref l2), some (.int l3)] [] h
  | 0, _, _, _, _, _, hs => nomatch hs
  | n + 1, _, _, _, _, _, hs => t_X2_isEdge_6_b C  (k6 := s_X2_isEdge_6  n) (fun _ _ _ _ _ hs => t_X2_isEdge_6 C  n hs) hs
theorem hy_X2_isEdge : yX2_isEdge.cls ≠ "java/lang/invoke/MethodHandle" ∧ yX2_isEdge.cls ≠ "java/lang/invoke/VarHandle" ∧ (parseMethodDescriptor yX2_isEdge.desc).map (fun d => d.parameters.length) = some 2 := by decide +kernel
theorem T_X2_isEdge (o : Nat) (a1 : Int32) (a2 : Nat) (h : aH) (r : aR) (h' : aH) (hs : s_X2_isEdge o a1 a2 h = some (r, h')) : Mt yX2_isEdge (Cond.code yX2_isEdge cX2_isEdge 4 (some .boolean) :: aTB) 0 0 0 0 [.ref o, .int a1, .ref a2] h r h' := by
  unfold s_X2_isEdge at hs
  refine Mt_of (k := 1) (by decide) rfl (fun p l e s m args below meth c D B0 X ws0 C => ?_)
  show Ev p l e { frames := 0, cells := 0, slots := 0, locals := 0 } s m args below meth c D B0 X ws0 r h' 0 0 4 0 0 0 [some (.ref o), some (.int a1), some (.ref a2), none] [] h
  refine ev_getsBASEN C wg_X2_95 dX2_isEdge_0 ?_
  refine ev_iconst C (v := 2) dX2_isEdge_3 (by decide) ?_
  obtain ⟨x4, e4, hs⟩ := aB hs
  refine ev_iald C e4 dX2_isEdge_4 ?_
  refine ev_istore_n C (by decide) dX2_isEdge_5 ?_
  exact (t_X2_isEdge_6 C  FU hs)
end
-- X2_spreadMove
theorem dX2_spreadMove_0 : decode cX2_spreadMove 0 = .ok (.aload_n 0, 1) := by decide +kernel
theorem dX2_spreadMove_1 : decode cX2_spreadMove 1 = .ok (.iconst 0, 1) := by decide +kernel
theorem dX2_spreadMove_2 : decode cX2_spreadMove 2 = .ok (.iload_n 1, 1) := by decide +kernel
theorem dX2_spreadMove_3 : decode cX2_spreadMove 3 = .ok (.iconst 0, 1) := by decide +kernel
theorem dX2_spreadMove_4 : decode cX2_spreadMove 4 = .ok (.aload 4, 2) := by decide +kernel
theorem dX2_spreadMove_6 : decode cX2_spreadMove 6 = .ok (.invokevirtual 109, 3) := by decide +kernel
theorem dX2_spreadMove_9 : decode cX2_spreadMove 9 = .ok (.aload_n 0, 1) := by decide +kernel
theorem dX2_spreadMove_10 : decode cX2_spreadMove 10 = .ok (.iconst 1, 1) := by decide +kernel
theorem dX2_spreadMove_11 : decode cX2_spreadMove 11 = .ok (.iload_n 2, 1) := by decide +kernel
theorem dX2_spreadMove_12 : decode cX2_spreadMove 12 = .ok (.iconst 0, 1) := by decide +kernel
theorem dX2_spreadMove_13 : decode cX2_spreadMove 13 = .ok (.aload 4, 2) := by decide +kernel
theorem dX2_spreadMove_15 : decode cX2_spreadMove 15 = .ok (.invokevirtual 109, 3) := by decide +kernel
theorem dX2_spreadMove_18 : decode cX2_spreadMove 18 = .ok (.aload_n 0, 1) := by decide +kernel
theorem dX2_spreadMove_19 : decode cX2_spreadMove 19 = .ok (.iload_n 3, 1) := by decide +kernel
theorem dX2_spreadMove_20 : decode cX2_spreadMove 20 = .ok (.iconst 0, 1) := by decide +kernel
theorem dX2_spreadMove_21 : decode cX2_spreadMove 21 = .ok (.aload 4, 2) := by decide +kernel
theorem dX2_spreadMove_23 : decode cX2_spreadMove 23 = .ok (.invokevirtual 113, 3) := by decide +kernel
theorem dX2_spreadMove_26 : decode cX2_spreadMove 26 = .ok (.return_, 1) := by decide +kernel
def s_X2_spreadMove (o : Nat) (a1 : Int32) (a2 : Int32) (a3 : Int32) (a4 : Nat) (h : aH) : aO :=
  kO h o 2 (cN (s_X2_spread o 0 a1 0 a4 h) fun h6 => kO h6 o 2 (cN (s_X2_spread o 1 a2 0 a4 h6) fun h15 => kO h15 o 2 (cN (s_X2_spreadWorld o a3 0 a4 h15) fun h23 => some (.inl none, h23))))
section
variable {p : Program} {l : Launch} {e : Env} {s : State} {m : MethodId} {args : Array Value} {below : List Frame} {meth : Method} {c : Code} {D : va_G} {B0 : Nat} {X : Nat → Nat} {ws0 : va_W} {r : aR} {h' : aH} {mc ms : Nat}
theorem hy_X2_spreadMove : yX2_spreadMove.cls ≠ "java/lang/invoke/MethodHandle" ∧ yX2_spreadMove.cls ≠ "java/lang/invoke/VarHandle" ∧ (parseMethodDescriptor yX2_spreadMove.desc).map (fun d => d.parameters.length) = some 4 := by decide +kernel
theorem T_X2_spreadMove (o : Nat) (a1 : Int32) (a2 : Int32) (a3 : Int32) (a4 : Nat) (h : aH) (r : aR) (h' : aH) (hs : s_X2_spreadMove o a1 a2 a3 a4 h = some (r, h')) : Mt yX2_spreadMove (Cond.code yX2_spreadMove cX2_spreadMove 5 none :: aTB) 3 74 0 0 [.ref o, .int a1, .int a2, .int a3, .ref a4] h r h' := by
  unfold s_X2_spreadMove at hs
  refine Mt_of (k := 0) (by decide) rfl (fun p l e s m args below meth c D B0 X ws0 C => ?_)
  show Ev p l e { frames := 3, cells := 0, slots := 0, locals := 74 } s m args below meth c D B0 X ws0 r h' 0 0 5 0 0 0 [some (.ref o), some (.int a1), some (.int a2), some (.int a3), some (.ref a4)] [] h
  refine ev_aload_n C (x := .ref o) rfl trivial dX2_spreadMove_0 ?_
  refine ev_iconst C (v := 0) dX2_spreadMove_1 (by decide) ?_
  refine ev_iload_n C rfl dX2_spreadMove_2 ?_
  refine ev_iconst C (v := 0) dX2_spreadMove_3 (by decide) ?_
  refine ev_aload C (x := .ref a4) rfl trivial dX2_spreadMove_4 ?_
  obtain ⟨eo6, hs⟩ := kO_at hs
  obtain ⟨h6, e6, hs⟩ := cN_at hs
  refine ev_callV C (T_X2_spread _ _ _ _ _ _ _ _ e6) (ci := 2) rfl eo6 wc_X2_spread wm_X2_109 wi_X2_spread ws_X2_spread wz_X2 hy_X2_spread ⟨(Nat.le_of_ble_eq_true rfl), (Nat.le_of_ble_eq_true rfl)⟩ ⟨(Nat.le_refl _), (Nat.le_refl _)⟩ (Nat.le_of_ble_eq_true rfl) rfl dX2_spreadMove_6 ?_
  refine ev_aload_n C (x := .ref o) rfl trivial dX2_spreadMove_9 ?_
  refine ev_iconst C (v := 1) dX2_spreadMove_10 (by decide) ?_
  refine ev_iload_n C rfl dX2_spreadMove_11 ?_
  refine ev_iconst C (v := 0) dX2_spreadMove_12 (by decide) ?_
  refine ev_aload C (x := .ref a4) rfl trivial dX2_spreadMove_13 ?_
  obtain ⟨eo15, hs⟩ := kO_at hs
  obtain ⟨h15, e15, hs⟩ := cN_at hs
  refine ev_callV C (T_X2_spread _ _ _ _ _ _ _ _ e15) (ci := 2) rfl eo15 wc_X2_spread wm_X2_109 wi_X2_spread ws_X2_spread wz_X2 hy_X2_spread ⟨(Nat.le_of_ble_eq_true rfl), (Nat.le_of_ble_eq_true rfl)⟩ ⟨(Nat.le_refl _), (Nat.le_refl _)⟩ (Nat.le_of_ble_eq_true rfl) rfl dX2_spreadMove_15 ?_
  refine ev_aload_n C (x := .ref o) rfl trivial dX2_spreadMove_18 ?_
  refine ev_iload_n C rfl dX2_spreadMove_19 ?_
  refine ev_iconst C (v := 0) dX2_spreadMove_20 (by decide) ?_
  refine ev_aload C (x := .ref a4) rfl trivial dX2_spreadMove_21 ?_
  obtain ⟨eo23, hs⟩ := kO_at hs
  obtain ⟨h23, e23, hs⟩ := cN_at hs
  refine ev_callV C (T_X2_spreadWorld _ _ _ _ _ _ _ e23) (ci := 2) rfl eo23 wc_X2_spreadWorld wm_X2_113 wi_X2_spreadWorld ws_X2_spreadWorld wz_X2 hy_X2_spreadWorld ⟨(Nat.le_of_ble_eq_true rfl), (Nat.le_of_ble_eq_true rfl)⟩ ⟨(Nat.le_refl _), (Nat.le_refl _)⟩ (Nat.le_of_ble_eq_true rfl) rfl dX2_spreadMove_23 ?_
  cases hs
  exact ev_vret C rfl rfl (Nat.le_refl _) (Nat.le_refl _) rfl dX2_spreadMove_26
end
-- X2_cellOf
theorem dX2_cellOf_0 : decode cX2_cellOf 0 = .ok (.iconst 0, 1) := by decide +kernel
theorem dX2_cellOf_1 : decode cX2_cellOf 1 = .ok (.istore_n 2, 1) := by decide +kernel
theorem dX2_cellOf_2 : decode cX2_cellOf 2 = .ok (.iconst 0, 1) := by decide +kernel
theorem dX2_cellOf_3 : decode cX2_cellOf 3 = .ok (.istore_n 3, 1) := by decide +kernel
theorem dX2_cellOf_4 : decode cX2_cellOf 4 = .ok (.iload_n 3, 1) := by decide +kernel
theorem dX2_cellOf_5 : decode cX2_cellOf 5 = .ok (.aload_n 0, 1) := by decide +kernel
theorem dX2_cellOf_6 : decode cX2_cellOf 6 = .ok (.getfield 9, 3) := by decide +kernel
theorem dX2_cellOf_9 : decode cX2_cellOf 9 = .ok (.iconst 0, 1) := by decide +kernel
theorem dX2_cellOf_10 : decode cX2_cellOf 10 = .ok (.iaload, 1) := by decide +kernel
theorem dX2_cellOf_11 : decode cX2_cellOf 11 = .ok (.if_icmp .ge 56, 3) := by decide +kernel
theorem dX2_cellOf_14 : decode cX2_cellOf 14 = .ok (.aload_n 1, 1) := by decide +kernel
theorem dX2_cellOf_15 : decode cX2_cellOf 15 = .ok (.iload_n 3, 1) := by decide +kernel
theorem dX2_cellOf_16 : decode cX2_cellOf 16 = .ok (.iaload, 1) := by decide +kernel
theorem dX2_cellOf_17 : decode cX2_cellOf 17 = .ok (.aload_n 0, 1) := by decide +kernel
theorem dX2_cellOf_18 : decode cX2_cellOf 18 = .ok (.getfield 19, 3) := by decide +kernel
theorem dX2_cellOf_21 : decode cX2_cellOf 21 = .ok (.iload_n 3, 1) := by decide +kernel
theorem dX2_cellOf_22 : decode cX2_cellOf 22 = .ok (.iaload, 1) := by decide +kernel
theorem dX2_cellOf_23 : decode cX2_cellOf 23 = .ok (.if_icmp .lt 15, 3) := by decide +kernel
theorem dX2_cellOf_26 : decode cX2_cellOf 26 = .ok (.aload_n 1, 1) := by decide +kernel
theorem dX2_cellOf_27 : decode cX2_cellOf 27 = .ok (.iload_n 3, 1) := by decide +kernel
theorem dX2_cellOf_28 : decode cX2_cellOf 28 = .ok (.iaload, 1) := by decide +kernel
theorem dX2_cellOf_29 : decode cX2_cellOf 29 = .ok (.aload_n 0, 1) := by decide +kernel
theorem dX2_cellOf_30 : decode cX2_cellOf 30 = .ok (.getfield 22, 3) := by decide +kernel
theorem dX2_cellOf_33 : decode cX2_cellOf 33 = .ok (.iload_n 3, 1) := by decide +kernel
theorem dX2_cellOf_34 : decode cX2_cellOf 34 = .ok (.iaload, 1) := by decide +kernel
theorem dX2_cellOf_35 : decode cX2_cellOf 35 = .ok (.if_icmp .le 6, 3) := by decide +kernel
theorem dX2_cellOf_38 : decode cX2_cellOf 38 = .ok (.bipush (-2), 2) := by decide +kernel
theorem dX2_cellOf_40 : decode cX2_cellOf 40 = .ok (.ireturn, 1) := by decide +kernel
theorem dX2_cellOf_41 : decode cX2_cellOf 41 = .ok (.iload_n 2, 1) := by decide +kernel
theorem dX2_cellOf_42 : decode cX2_cellOf 42 = .ok (.aload_n 0, 1) := by decide +kernel
theorem dX2_cellOf_43 : decode cX2_cellOf 43 = .ok (.iload_n 3, 1) := by decide +kernel
theorem dX2_cellOf_44 : decode cX2_cellOf 44 = .ok (.iconst 0, 1) := by decide +kernel
theorem dX2_cellOf_45 : decode cX2_cellOf 45 = .ok (.invokevirtual 101, 3) := by decide +kernel
theorem dX2_cellOf_48 : decode cX2_cellOf 48 = .ok (.imul, 1) := by decide +kernel
theorem dX2_cellOf_49 : decode cX2_cellOf 49 = .ok (.aload_n 1, 1) := by decide +kernel
theorem dX2_cellOf_50 : decode cX2_cellOf 50 = .ok (.iload_n 3, 1) := by decide +kernel
theorem dX2_cellOf_51 : decode cX2_cellOf 51 = .ok (.iaload, 1) := by decide +kernel
theorem dX2_cellOf_52 : decode cX2_cellOf 52 = .ok (.iadd, 1) := by decide +kernel
theorem dX2_cellOf_53 : decode cX2_cellOf 53 = .ok (.aload_n 0, 1) := by decide +kernel
theorem dX2_cellOf_54 : decode cX2_cellOf 54 = .ok (.getfield 19, 3) := by decide +kernel
theorem dX2_cellOf_57 : decode cX2_cellOf 57 = .ok (.iload_n 3, 1) := by decide +kernel
theorem dX2_cellOf_58 : decode cX2_cellOf 58 = .ok (.iaload, 1) := by decide +kernel
theorem dX2_cellOf_59 : decode cX2_cellOf 59 = .ok (.isub, 1) := by decide +kernel
theorem dX2_cellOf_60 : decode cX2_cellOf 60 = .ok (.istore_n 2, 1) := by decide +kernel
theorem dX2_cellOf_61 : decode cX2_cellOf 61 = .ok (.iinc 3 1, 3) := by decide +kernel
theorem dX2_cellOf_64 : decode cX2_cellOf 64 = .ok (.goto (-60), 3) := by decide +kernel
theorem dX2_cellOf_67 : decode cX2_cellOf 67 = .ok (.iload_n 2, 1) := by decide +kernel
theorem dX2_cellOf_68 : decode cX2_cellOf 68 = .ok (.ireturn, 1) := by decide +kernel
def s_X2_cellOf_4_b  (k4 : Nat → Nat → Int32 → Int32 → aH → aO) (l0 : Nat) (l1 : Nat) (l2 : Int32) (l3 : Int32) (h : aH) : aO :=
  (gO h (.ref l0) 2 0).bind fun x6 => (ldI .int h (.ref x6) 0).bind fun x10 => if x10 ≤ l3 then (some (.inl (some (.int l2)), h)) else ((ldI .int h (.ref l1) l3).bind fun x16 => (gO h (.ref l0) 2 2).bind fun x18 => (ldI .int h (.ref x18) l3).bind fun x22 => if x16 < x22 then (some (.inl (some (.int (-2))), h)) else ((ldI .int h (.ref l1) l3).bind fun x28 => (gO h (.ref l0) 2 3).bind fun x30 => (ldI .int h (.ref x30) l3).bind fun x34 => if x28 ≤ x34 then (kO h l0 2 (cI (s_X2_width l0 l3 0 h) fun x45 h45 => (ldI .int h45 (.ref l1) l3).bind fun x51 => (gO h45 (.ref l0) 2 2).bind fun x54 => (ldI .int h45 (.ref x54) l3).bind fun x58 => k4 l0 l1 (((l2 * x45) + x51) - x58) (l3 + 1) h45)) else (some (.inl (some (.int (-2))), h))))
def s_X2_cellOf_4  (n : Nat) : Nat → Nat → Int32 → Int32 → aH → aO := lpF (fun _ _ _ _ _ => none) (s_X2_cellOf_4_b ) n
def s_X2_cellOf (o : Nat) (a1 : Nat) (h : aH) : aO :=
  s_X2_cellOf_4 FU o a1 0 0 h
section
variable {p : Program} {l : Launch} {e : Env} {s : State} {m : MethodId} {args : Array Value} {below : List Frame} {meth : Method} {c : Code} {D : va_G} {B0 : Nat} {X : Nat → Nat} {ws0 : va_W} {r : aR} {h' : aH} {mc ms : Nat}
theorem t_X2_cellOf_4_b (C : Cx p l s m args meth c B0 X RX2 "cellOf" cX2_cellOf 4 (some .int) [])   {k4 : Nat → Nat → Int32 → Int32 → aH → aO} (K4 : ∀ (l0 : Nat) (l1 : Nat) (l2 : Int32) (l3 : Int32) (h : aH), k4 l0 l1 l2 l3 h = some (r, h') → Ev p l e { frames := 1, cells := mc, slots := ms, locals := 23 } s m args below meth c D B0 X ws0 r h' mc ms 4 mc ms 4 [some (.ref l0), some (.ref l1), some (.int l2), some (.int l3)] [] h) {l0 : Nat} {l1 : Nat} {l2 : Int32} {l3 : Int32} {h : aH} (hs : s_X2_cellOf_4_b  k4 l0 l1 l2 l3 h = some (r, h')) : Ev p l e { frames := 1, cells := mc, slots := ms, locals := 23 } s m args below meth c D B0 X ws0 r h' mc ms 4 mc ms 4 [some (.ref l0), some (.ref l1), some (.int l2), some (.int l3)] [] h := by
  unfold s_X2_cellOf_4_b at hs
  refine ev_iload_n C rfl dX2_cellOf_4 ?_
  refine ev_aload_n C (x := .ref l0) rfl trivial dX2_cellOf_5 ?_
  obtain ⟨x6, e6, hs⟩ := aB hs
  refine ev_get C (ci := 2) (k := 0) rfl wu_2 (by decide) wf_X2_9 (gO_F e6) dX2_cellOf_6 ?_
  refine ev_iconst C (v := 0) dX2_cellOf_9 (by decide) ?_
  obtain ⟨x10, e10, hs⟩ := aB hs
  refine ev_iald C e10 dX2_cellOf_10 ?_
  refine ev_icmp_ge C (tgt := 67) (by decide) dX2_cellOf_11 (fun q11 => ?_) (fun q11 => ?_)
  · replace hs := (if_pos q11).symm.trans hs
    refine ev_iload_n C rfl dX2_cellOf_67 ?_
    cases hs
    exact ev_iret C rfl rfl (Nat.le_refl _) (Nat.le_refl _) rfl dX2_cellOf_68
  · replace hs := (if_neg q11).symm.trans hs
    refine ev_aload_n C (x := .ref l1) rfl trivial dX2_cellOf_14 ?_
    refine ev_iload_n C rfl dX2_cellOf_15 ?_
    obtain ⟨x16, e16, hs⟩ := aB hs
    refine ev_iald C e16 dX2_cellOf_16 ?_
    refine ev_aload_n C (x := .ref l0) rfl trivial dX2_cellOf_17 ?_
    obtain ⟨x18, e18, hs⟩ := aB hs
    refine ev_get C (ci := 2) (k := 2) rfl wu_2 (by decide) wf_X2_19 (gO_F e18) dX2_cellOf_18 ?_
    refine ev_iload_n C rfl dX2_cellOf_21 ?_
    obtain ⟨x22, e22, hs⟩ := aB hs
    refine ev_iald C e22 dX2_cellOf_22 ?_
    refine ev_icmp_lt C (tgt := 38) (by decide) dX2_cellOf_23 (fun q23 => ?_) (fun q23 => ?_)
    · replace hs := (if_pos q23).symm.trans hs
      refine ev_bipush C (v := (-2)) dX2_cellOf_38 (by decide) ?_
      cases hs
      exact ev_iret C rfl rfl (Nat.le_refl _) (Nat.le_refl _) rfl dX2_cellOf_40
    · replace hs := (if_neg q23).symm.trans hs
      refine ev_aload_n C (x := .ref l1) rfl trivial dX2_cellOf_26 ?_
      refine ev_iload_n C rfl dX2_cellOf_27 ?_
      obtain ⟨x28, e28, hs⟩ := aB hs
      refine ev_iald C e28 dX2_cellOf_28 ?_
      refine ev_aload_n C (x := .ref l0) rfl trivial dX2_cellOf_29 ?_
      obtain ⟨x30, e30, hs⟩ := aB hs
      refine ev_get C (ci := 2) (k := 3) rfl wu_2 (by decide) wf_X2_22 (gO_F e30) dX2_cellOf_30 ?_
      refine ev_iload_n C rfl dX2_cellOf_33 ?_
      obtain ⟨x34, e34, hs⟩ := aB hs
      refine ev_iald C e34 dX2_cellOf_34 ?_
      refine ev_icmp_le C (tgt := 41) (by decide) dX2_cellOf_35 (fun q35 => ?_) (fun q35 => ?_)
      · replace hs := (if_pos q35).symm.trans hs
        refine ev_iload_n C rfl dX2_cellOf_41 ?_
        refine ev_aload_n C (x := .ref l0) rfl trivial dX2_cellOf_42 ?_
        refine ev_iload_n C rfl dX2_cellOf_43 ?_
        refine ev_iconst C (v := 0) dX2_cellOf_44 (by decide) ?_
        obtain ⟨eo45, hs⟩ := kO_at hs
        obtain ⟨x45, h45, e45, hs⟩ := cI_at hs
        refine ev_callV C (T_X2_width _ _ _ _ _ _ e45) (ci := 2) rfl eo45 wc_X2_width wm_X2_101 wi_X2_width ws_X2_width wz_X2 hy_X2_width ⟨(Nat.le_of_ble_eq_true rfl), (Nat.le_of_ble_eq_true rfl)⟩ ⟨(Nat.le_refl _), (Nat.le_refl _)⟩ (Nat.le_of_ble_eq_true rfl) rfl dX2_cellOf_45 ?_
        refine ev_imul C dX2_cellOf_48 ?_
        refine ev_aload_n C (x := .ref l1) rfl trivial dX2_cellOf_49 ?_
        refine ev_iload_n C rfl dX2_cellOf_50 ?_
        obtain ⟨x51, e51, hs⟩ := aB hs
        refine ev_iald C e51 dX2_cellOf_51 ?_
        refine ev_iadd C dX2_cellOf_52 ?_
        refine ev_aload_n C (x := .ref l0) rfl trivial dX2_cellOf_53 ?_
        obtain ⟨x54, e54, hs⟩ := aB hs
        refine ev_get C (ci := 2) (k := 2) rfl wu_2 (by decide) wf_X2_19 (gO_F e54) dX2_cellOf_54 ?_
        refine ev_iload_n C rfl dX2_cellOf_57 ?_
        obtain ⟨x58, e58, hs⟩ := aB hs
        refine ev_iald C e58 dX2_cellOf_58 ?_
        refine ev_isub C dX2_cellOf_59 ?_
        refine ev_istore_n C (by decide) dX2_cellOf_60 ?_
        refine ev_iinc C (i := 3) (n := 1) (x := l3) (v := l3 + 1) rfl (congrArg (fun z => l3 + z) (show Int32.ofInt 1 = 1 by decide)) (by decide) dX2_cellOf_61 ?_
        refine ev_goto C (tgt := 4) (by decide) dX2_cellOf_64 ?_
        exact (K4 _ _ _ _ _ hs)
      · replace hs := (if_neg q35).symm.trans hs
        refine ev_bipush C (v := (-2)) dX2_cellOf_38 (by decide) ?_
        cases hs
        exact ev_iret C rfl rfl (Nat.le_refl _) (Nat.le_refl _) rfl dX2_cellOf_40
theorem t_X2_cellOf_4 (C : Cx p l s m args meth c B0 X RX2 "cellOf" cX2_cellOf 4 (some .int) [])   : ∀ (n : Nat) {l0 : Nat} {l1 : Nat} {l2 : Int32} {l3 : Int32} {h : aH} (hs : s_X2_cellOf_4  n l0 l1 l2 l3 h = some (r, h')), Ev p l e { frames := 1, cells := mc, slots := ms, locals := 23 } s m args below meth c D B0 X ws0 r h' mc ms 4 mc ms 4 [some (.ref l0), some (.ref l1), some (.int l2), some (.int l3)] [] h
  | 0, _, _, _, _, _, hs => nomatch hs
  | n + 1, _, _, _, _, _, hs => t_X2_cellOf_4_b C  (k4 := s_X2_cellOf_4  n) (fun _ _ _ _ _ hs => t_X2_cellOf_4 C  n hs) hs
theorem hy_X2_cellOf : yX2_cellOf.cls ≠ "java/lang/invoke/MethodHandle" ∧ yX2_cellOf.cls ≠ "java/lang/invoke/VarHandle" ∧ (parseMethodDescriptor yX2_cellOf.desc).map (fun d => d.parameters.length) = some 1 := by decide +kernel
theorem T_X2_cellOf (o : Nat) (a1 : Nat) (h : aH) (r : aR) (h' : aH) (hs : s_X2_cellOf o a1 h = some (r, h')) : Mt yX2_cellOf (Cond.code yX2_cellOf cX2_cellOf 4 (some .int) :: aTB) 1 23 0 0 [.ref o, .ref a1] h r h' := by
  unfold s_X2_cellOf at hs
  refine Mt_of (k := 2) (by decide) rfl (fun p l e s m args below meth c D B0 X ws0 C => ?_)
  show Ev p l e { frames := 1, cells := 0, slots := 0, locals := 23 } s m args below meth c D B0 X ws0 r h' 0 0 4 0 0 0 [some (.ref o), some (.ref a1), none, none] [] h
  refine ev_iconst C (v := 0) dX2_cellOf_0 (by decide) ?_
  refine ev_istore_n C (by decide) dX2_cellOf_1 ?_
  refine ev_iconst C (v := 0) dX2_cellOf_2 (by decide) ?_
  refine ev_istore_n C (by decide) dX2_cellOf_3 ?_
  exact (t_X2_cellOf_4 C  FU hs)
end
-- X2_stepped
theorem dX2_stepped_0 : decode cX2_stepped 0 = .ok (.iconst 0, 1) := by decide +kernel
theorem dX2_stepped_1 : decode cX2_stepped 1 = .ok (.istore_n 3, 1) := by decide +kernel
theorem dX2_stepped_2 : decode cX2_stepped 2 = .ok (.iload_n 3, 1) := by decide +kernel
theorem dX2_stepped_3 : decode cX2_stepped 3 = .ok (.aload_n 0, 1) := by decide +kernel
theorem dX2_stepped_4 : decode cX2_stepped 4 = .ok (.getfield 63, 3) := by decide +kernel
theorem dX2_stepped_7 : decode cX2_stepped 7 = .ok (.if_icmp .ge 63, 3) := by decide +kernel
theorem dX2_stepped_10 : decode cX2_stepped 10 = .ok (.aload_n 0, 1) := by decide +kernel
theorem dX2_stepped_11 : decode cX2_stepped 11 = .ok (.getfield 25, 3) := by decide +kernel
theorem dX2_stepped_14 : decode cX2_stepped 14 = .ok (.iload_n 3, 1) := by decide +kernel
theorem dX2_stepped_15 : decode cX2_stepped 15 = .ok (.iaload, 1) := by decide +kernel
theorem dX2_stepped_16 : decode cX2_stepped 16 = .ok (.iload_n 1, 1) := by decide +kernel
theorem dX2_stepped_17 : decode cX2_stepped 17 = .ok (.if_icmp .ne 47, 3) := by decide +kernel
theorem dX2_stepped_20 : decode cX2_stepped 20 = .ok (.aload_n 0, 1) := by decide +kernel
theorem dX2_stepped_21 : decode cX2_stepped 21 = .ok (.getfield 53, 3) := by decide +kernel
theorem dX2_stepped_24 : decode cX2_stepped 24 = .ok (.aload_n 0, 1) := by decide +kernel
theorem dX2_stepped_25 : decode cX2_stepped 25 = .ok (.getfield 34, 3) := by decide +kernel
theorem dX2_stepped_28 : decode cX2_stepped 28 = .ok (.iload_n 3, 1) := by decide +kernel
theorem dX2_stepped_29 : decode cX2_stepped 29 = .ok (.iaload, 1) := by decide +kernel
theorem dX2_stepped_30 : decode cX2_stepped 30 = .ok (.aload_n 0, 1) := by decide +kernel
theorem dX2_stepped_31 : decode cX2_stepped 31 = .ok (.getfield 37, 3) := by decide +kernel
theorem dX2_stepped_34 : decode cX2_stepped 34 = .ok (.iload_n 3, 1) := by decide +kernel
theorem dX2_stepped_35 : decode cX2_stepped 35 = .ok (.iaload, 1) := by decide +kernel
theorem dX2_stepped_36 : decode cX2_stepped 36 = .ok (.aload_n 2, 1) := by decide +kernel
theorem dX2_stepped_37 : decode cX2_stepped 37 = .ok (.invokevirtual 121, 3) := by decide +kernel
theorem dX2_stepped_40 : decode cX2_stepped 40 = .ok (.ifCond .eq 24, 3) := by decide +kernel
theorem dX2_stepped_43 : decode cX2_stepped 43 = .ok (.aload_n 0, 1) := by decide +kernel
theorem dX2_stepped_44 : decode cX2_stepped 44 = .ok (.getfield 53, 3) := by decide +kernel
theorem dX2_stepped_47 : decode cX2_stepped 47 = .ok (.aload_n 0, 1) := by decide +kernel
theorem dX2_stepped_48 : decode cX2_stepped 48 = .ok (.getfield 28, 3) := by decide +kernel
theorem dX2_stepped_51 : decode cX2_stepped 51 = .ok (.iload_n 3, 1) := by decide +kernel
theorem dX2_stepped_52 : decode cX2_stepped 52 = .ok (.iaload, 1) := by decide +kernel
theorem dX2_stepped_53 : decode cX2_stepped 53 = .ok (.aload_n 0, 1) := by decide +kernel
theorem dX2_stepped_54 : decode cX2_stepped 54 = .ok (.getfield 31, 3) := by decide +kernel
theorem dX2_stepped_57 : decode cX2_stepped 57 = .ok (.iload_n 3, 1) := by decide +kernel
theorem dX2_stepped_58 : decode cX2_stepped 58 = .ok (.iaload, 1) := by decide +kernel
theorem dX2_stepped_59 : decode cX2_stepped 59 = .ok (.aload_n 2, 1) := by decide +kernel
theorem dX2_stepped_60 : decode cX2_stepped 60 = .ok (.invokevirtual 125, 3) := by decide +kernel
theorem dX2_stepped_63 : decode cX2_stepped 63 = .ok (.ireturn, 1) := by decide +kernel
theorem dX2_stepped_64 : decode cX2_stepped 64 = .ok (.iinc 3 1, 3) := by decide +kernel
theorem dX2_stepped_67 : decode cX2_stepped 67 = .ok (.goto (-65), 3) := by decide +kernel
theorem dX2_stepped_70 : decode cX2_stepped 70 = .ok (.aload_n 2, 1) := by decide +kernel
theorem dX2_stepped_71 : decode cX2_stepped 71 = .ok (.iload_n 1, 1) := by decide +kernel
theorem dX2_stepped_72 : decode cX2_stepped 72 = .ok (.iaload, 1) := by decide +kernel
theorem dX2_stepped_73 : decode cX2_stepped 73 = .ok (.ireturn, 1) := by decide +kernel
def s_X2_stepped_2_b  (k2 : Nat → Int32 → Nat → Int32 → aH → aO) (l0 : Nat) (l1 : Int32) (l2 : Nat) (l3 : Int32) (h : aH) : aO :=
  (gI h (.ref l0) 2 4).bind fun x4 => if x4 ≤ l3 then ((ldI .int h (.ref l2) l1).bind fun x72 => some (.inl (some (.int x72)), h)) else ((gO h (.ref l0) 2 5).bind fun x11 => (ldI .int h (.ref x11) l3).bind fun x15 => if x15 = l1 then ((gO h (.ref l0) 2 16).bind fun x21 => (gO h (.ref l0) 2 8).bind fun x25 => (ldI .int h (.ref x25) l3).bind fun x29 => (gO h (.ref l0) 2 9).bind fun x31 => (ldI .int h (.ref x31) l3).bind fun x35 => kO h x21 0 (cI (s_X0_allHold x21 x29 x35 l2 h) fun x37 h37 => if x37 = 0 then (k2 l0 l1 l2 (l3 + 1) h37) else ((gO h37 (.ref l0) 2 16).bind fun x44 => (gO h37 (.ref l0) 2 6).bind fun x48 => (ldI .int h37 (.ref x48) l3).bind fun x52 => (gO h37 (.ref l0) 2 7).bind fun x54 => (ldI .int h37 (.ref x54) l3).bind fun x58 => kO h37 x44 0 (cI (s_X0_sumOf x44 x52 x58 l2 h37) fun x60 h60 => some (.inl (some (.int x60)), h60))))) else (k2 l0 l1 l2 (l3 + 1) h))
def s_X2_stepped_2  (n : Nat) : Nat → Int32 → Nat → Int32 → aH → aO := lpF (fun _ _ _ _ _ => none) (s_X2_stepped_2_b ) n
def s_X2_stepped (o : Nat) (a1 : Int32) (a2 : Nat) (h : aH) : aO :=
  s_X2_stepped_2 FU o a1 a2 0 h
section
variable {p : Program} {l : Launch} {e : Env} {s : State} {m : MethodId} {args : Array Value} {below : List Frame} {meth : Method} {c : Code} {D : va_G} {B0 : Nat} {X : Nat → Nat} {ws0 : va_W} {r : aR} {h' : aH} {mc ms : Nat}
theorem t_X2_stepped_2_b (C : Cx p l s m args meth c B0 X RX2 "stepped" cX2_stepped 4 (some .int) [])   {k2 : Nat → Int32 → Nat → Int32 → aH → aO} (K2 : ∀ (l0 : Nat) (l1 : Int32) (l2 : Nat) (l3 : Int32) (h : aH), k2 l0 l1 l2 l3 h = some (r, h') → Ev p l e { frames := 2, cells := mc, slots := ms, locals := 55 } s m args below meth c D B0 X ws0 r h' mc ms 4 mc ms 2 [some (.ref l0), some (.int l1), some (.ref l2), some (.int l3)] [] h) {l0 : Nat} {l1 : Int32} {l2 : Nat} {l3 : Int32} {h : aH} (hs : s_X2_stepped_2_b  k2 l0 l1 l2 l3 h = some (r, h')) : Ev p l e { frames := 2, cells := mc, slots := ms, locals := 55 } s m args below meth c D B0 X ws0 r h' mc ms 4 mc ms 2 [some (.ref l0), some (.int l1), some (.ref l2), some (.int l3)] [] h := by
  unfold s_X2_stepped_2_b at hs
  refine ev_iload_n C rfl dX2_stepped_2 ?_
  refine ev_aload_n C (x := .ref l0) rfl trivial dX2_stepped_3 ?_
  obtain ⟨x4, e4, hs⟩ := aB hs
  refine ev_get C (ci := 2) (k := 4) rfl wu_2 (by decide) wf_X2_63 (gI_F e4) dX2_stepped_4 ?_
  refine ev_icmp_ge C (tgt := 70) (by decide) dX2_stepped_7 (fun q7 => ?_) (fun q7 => ?_)
  · replace hs := (if_pos q7).symm.trans hs
    refine ev_aload_n C (x := .ref l2) rfl trivial dX2_stepped_70 ?_
    refine ev_iload_n C rfl dX2_stepped_71 ?_
    obtain ⟨x72, e72, hs⟩ := aB hs
    refine ev_iald C e72 dX2_stepped_72 ?_
    cases hs
    exact ev_iret C rfl rfl (Nat.le_refl _) (Nat.le_refl _) rfl dX2_stepped_73
  · replace hs := (if_neg q7).symm.trans hs
    refine ev_aload_n C (x := .ref l0) rfl trivial dX2_stepped_10 ?_
    obtain ⟨x11, e11, hs⟩ := aB hs
    refine ev_get C (ci := 2) (k := 5) rfl wu_2 (by decide) wf_X2_25 (gO_F e11) dX2_stepped_11 ?_
    refine ev_iload_n C rfl dX2_stepped_14 ?_
    obtain ⟨x15, e15, hs⟩ := aB hs
    refine ev_iald C e15 dX2_stepped_15 ?_
    refine ev_iload_n C rfl dX2_stepped_16 ?_
    refine ev_icmp_ne C (tgt := 64) (by decide) dX2_stepped_17 (fun q17 => ?_) (fun q17 => ?_)
    · replace hs := (if_neg q17).symm.trans hs
      refine ev_iinc C (i := 3) (n := 1) (x := l3) (v := l3 + 1) rfl (congrArg (fun z => l3 + z) (show Int32.ofInt 1 = 1 by decide)) (by decide) dX2_stepped_64 ?_
      refine ev_goto C (tgt := 2) (by decide) dX2_stepped_67 ?_
      exact (K2 _ _ _ _ _ hs)
    · replace hs := (if_pos q17).symm.trans hs
      refine ev_aload_n C (x := .ref l0) rfl trivial dX2_stepped_20 ?_
      obtain ⟨x21, e21, hs⟩ := aB hs
      refine ev_get C (ci := 2) (k := 16) rfl wu_2 (by decide) wf_X2_53 (gO_F e21) dX2_stepped_21 ?_
      refine ev_aload_n C (x := .ref l0) rfl trivial dX2_stepped_24 ?_
      obtain ⟨x25, e25, hs⟩ := aB hs
      refine ev_get C (ci := 2) (k := 8) rfl wu_2 (by decide) wf_X2_34 (gO_F e25) dX2_stepped_25 ?_
      refine ev_iload_n C rfl dX2_stepped_28 ?_
      obtain ⟨x29, e29, hs⟩ := aB hs
      refine ev_iald C e29 dX2_stepped_29 ?_
      refine ev_aload_n C (x := .ref l0) rfl trivial dX2_stepped_30 ?_
      obtain ⟨x31, e31, hs⟩ := aB hs
      refine ev_get C (ci := 2) (k := 9) rfl wu_2 (by decide) wf_X2_37 (gO_F e31) dX2_stepped_31 ?_
      refine ev_iload_n C rfl dX2_stepped_34 ?_
      obtain ⟨x35, e35, hs⟩ := aB hs
      refine ev_iald C e35 dX2_stepped_35 ?_
      refine ev_aload_n C (x := .ref l2) rfl trivial dX2_stepped_36 ?_
      obtain ⟨eo37, hs⟩ := kO_at hs
      obtain ⟨x37, h37, e37, hs⟩ := cI_at hs
      refine ev_callVN C (T_X0_allHold _ _ _ _ _ _ _ e37) (ci := 0) rfl eo37 wc_X0_allHold wn_X2_121 wi_X0_allHold ws_X0_allHold wz_X0 hy_X0_allHold ⟨(Nat.le_of_ble_eq_true rfl), (Nat.le_of_ble_eq_true rfl)⟩ ⟨(Nat.le_refl _), (Nat.le_refl _)⟩ (Nat.le_of_ble_eq_true rfl) rfl dX2_stepped_37 ?_
      refine ev_if_eq C (tgt := 64) (by decide) dX2_stepped_40 (fun q40 => ?_) (fun q40 => ?_)
      · replace hs := (if_pos q40).symm.trans hs
        refine ev_iinc C (i := 3) (n := 1) (x := l3) (v := l3 + 1) rfl (congrArg (fun z => l3 + z) (show Int32.ofInt 1 = 1 by decide)) (by decide) dX2_stepped_64 ?_
        refine ev_goto C (tgt := 2) (by decide) dX2_stepped_67 ?_
        exact (K2 _ _ _ _ _ hs)
      · replace hs := (if_neg q40).symm.trans hs
        refine ev_aload_n C (x := .ref l0) rfl trivial dX2_stepped_43 ?_
        obtain ⟨x44, e44, hs⟩ := aB hs
        refine ev_get C (ci := 2) (k := 16) rfl wu_2 (by decide) wf_X2_53 (gO_F e44) dX2_stepped_44 ?_
        refine ev_aload_n C (x := .ref l0) rfl trivial dX2_stepped_47 ?_
        obtain ⟨x48, e48, hs⟩ := aB hs
        refine ev_get C (ci := 2) (k := 6) rfl wu_2 (by decide) wf_X2_28 (gO_F e48) dX2_stepped_48 ?_
        refine ev_iload_n C rfl dX2_stepped_51 ?_
        obtain ⟨x52, e52, hs⟩ := aB hs
        refine ev_iald C e52 dX2_stepped_52 ?_
        refine ev_aload_n C (x := .ref l0) rfl trivial dX2_stepped_53 ?_
        obtain ⟨x54, e54, hs⟩ := aB hs
        refine ev_get C (ci := 2) (k := 7) rfl wu_2 (by decide) wf_X2_31 (gO_F e54) dX2_stepped_54 ?_
        refine ev_iload_n C rfl dX2_stepped_57 ?_
        obtain ⟨x58, e58, hs⟩ := aB hs
        refine ev_iald C e58 dX2_stepped_58 ?_
        refine ev_aload_n C (x := .ref l2) rfl trivial dX2_stepped_59 ?_
        obtain ⟨eo60, hs⟩ := kO_at hs
        obtain ⟨x60, h60, e60, hs⟩ := cI_at hs
        refine ev_callVN C (T_X0_sumOf _ _ _ _ _ _ _ e60) (ci := 0) rfl eo60 wc_X0_sumOf wn_X2_125 wi_X0_sumOf ws_X0_sumOf wz_X0 hy_X0_sumOf ⟨(Nat.le_of_ble_eq_true rfl), (Nat.le_of_ble_eq_true rfl)⟩ ⟨(Nat.le_refl _), (Nat.le_refl _)⟩ (Nat.le_of_ble_eq_true rfl) rfl dX2_stepped_60 ?_
        cases hs
        exact ev_iret C rfl rfl (Nat.le_refl _) (Nat.le_refl _) rfl dX2_stepped_63
theorem t_X2_stepped_2 (C : Cx p l s m args meth c B0 X RX2 "stepped" cX2_stepped 4 (some .int) [])   : ∀ (n : Nat) {l0 : Nat} {l1 : Int32} {l2 : Nat} {l3 : Int32} {h : aH} (hs : s_X2_stepped_2  n l0 l1 l2 l3 h = some (r, h')), Ev p l e { frames := 2, cells := mc, slots := ms, locals := 55 } s m args below meth c D B0 X ws0 r h' mc ms 4 mc ms 2 [some (.ref l0), some (.int l1), some (.ref l2), some (.int l3)] [] h
  | 0, _, _, _, _, _, hs => nomatch hs
  | n + 1, _, _, _, _, _, hs => t_X2_stepped_2_b C  (k2 := s_X2_stepped_2  n) (fun _ _ _ _ _ hs => t_X2_stepped_2 C  n hs) hs
theorem hy_X2_stepped : yX2_stepped.cls ≠ "java/lang/invoke/MethodHandle" ∧ yX2_stepped.cls ≠ "java/lang/invoke/VarHandle" ∧ (parseMethodDescriptor yX2_stepped.desc).map (fun d => d.parameters.length) = some 2 := by decide +kernel
theorem T_X2_stepped (o : Nat) (a1 : Int32) (a2 : Nat) (h : aH) (r : aR) (h' : aH) (hs : s_X2_stepped o a1 a2 h = some (r, h')) : Mt yX2_stepped (Cond.code yX2_stepped cX2_stepped 4 (some .int) :: aTB) 2 55 0 0 [.ref o, .int a1, .ref a2] h r h' := by
  unfold s_X2_stepped at hs
  refine Mt_of (k := 1) (by decide) rfl (fun p l e s m args below meth c D B0 X ws0 C => ?_)
  show Ev p l e { frames := 2, cells := 0, slots := 0, locals := 55 } s m args below meth c D B0 X ws0 r h' 0 0 4 0 0 0 [some (.ref o), some (.int a1), some (.ref a2), none] [] h
  refine ev_iconst C (v := 0) dX2_stepped_0 (by decide) ?_
  refine ev_istore_n C (by decide) dX2_stepped_1 ?_
  exact (t_X2_stepped_2 C  FU hs)
end
-- X2_lead
theorem dX2_lead_0 : decode cX2_lead 0 = .ok (.iconst 0, 1) := by decide +kernel
theorem dX2_lead_1 : decode cX2_lead 1 = .ok (.istore_n 2, 1) := by decide +kernel
theorem dX2_lead_2 : decode cX2_lead 2 = .ok (.iconst 0, 1) := by decide +kernel
theorem dX2_lead_3 : decode cX2_lead 3 = .ok (.istore_n 3, 1) := by decide +kernel
theorem dX2_lead_4 : decode cX2_lead 4 = .ok (.iload_n 3, 1) := by decide +kernel
theorem dX2_lead_5 : decode cX2_lead 5 = .ok (.aload_n 0, 1) := by decide +kernel
theorem dX2_lead_6 : decode cX2_lead 6 = .ok (.getfield 9, 3) := by decide +kernel
theorem dX2_lead_9 : decode cX2_lead 9 = .ok (.iconst 0, 1) := by decide +kernel
theorem dX2_lead_10 : decode cX2_lead 10 = .ok (.iaload, 1) := by decide +kernel
theorem dX2_lead_11 : decode cX2_lead 11 = .ok (.if_icmp .ge 61, 3) := by decide +kernel
theorem dX2_lead_14 : decode cX2_lead 14 = .ok (.aload_n 0, 1) := by decide +kernel
theorem dX2_lead_15 : decode cX2_lead 15 = .ok (.iload_n 3, 1) := by decide +kernel
theorem dX2_lead_16 : decode cX2_lead 16 = .ok (.aload_n 1, 1) := by decide +kernel
theorem dX2_lead_17 : decode cX2_lead 17 = .ok (.invokevirtual 117, 3) := by decide +kernel
theorem dX2_lead_20 : decode cX2_lead 20 = .ok (.istore 4, 2) := by decide +kernel
theorem dX2_lead_22 : decode cX2_lead 22 = .ok (.iload 4, 2) := by decide +kernel
theorem dX2_lead_24 : decode cX2_lead 24 = .ok (.aload_n 0, 1) := by decide +kernel
theorem dX2_lead_25 : decode cX2_lead 25 = .ok (.getfield 19, 3) := by decide +kernel
theorem dX2_lead_28 : decode cX2_lead 28 = .ok (.iload_n 3, 1) := by decide +kernel
theorem dX2_lead_29 : decode cX2_lead 29 = .ok (.iaload, 1) := by decide +kernel
theorem dX2_lead_30 : decode cX2_lead 30 = .ok (.if_icmp .lt 14, 3) := by decide +kernel
theorem dX2_lead_33 : decode cX2_lead 33 = .ok (.iload 4, 2) := by decide +kernel
theorem dX2_lead_35 : decode cX2_lead 35 = .ok (.aload_n 0, 1) := by decide +kernel
theorem dX2_lead_36 : decode cX2_lead 36 = .ok (.getfield 22, 3) := by decide +kernel
theorem dX2_lead_39 : decode cX2_lead 39 = .ok (.iload_n 3, 1) := by decide +kernel
theorem dX2_lead_40 : decode cX2_lead 40 = .ok (.iaload, 1) := by decide +kernel
theorem dX2_lead_41 : decode cX2_lead 41 = .ok (.if_icmp .le 6, 3) := by decide +kernel
theorem dX2_lead_44 : decode cX2_lead 44 = .ok (.bipush (-2), 2) := by decide +kernel
theorem dX2_lead_46 : decode cX2_lead 46 = .ok (.ireturn, 1) := by decide +kernel
theorem dX2_lead_47 : decode cX2_lead 47 = .ok (.iload_n 2, 1) := by decide +kernel
theorem dX2_lead_48 : decode cX2_lead 48 = .ok (.aload_n 0, 1) := by decide +kernel
theorem dX2_lead_49 : decode cX2_lead 49 = .ok (.iload_n 3, 1) := by decide +kernel
theorem dX2_lead_50 : decode cX2_lead 50 = .ok (.iconst 0, 1) := by decide +kernel
theorem dX2_lead_51 : decode cX2_lead 51 = .ok (.invokevirtual 101, 3) := by decide +kernel
theorem dX2_lead_54 : decode cX2_lead 54 = .ok (.imul, 1) := by decide +kernel
theorem dX2_lead_55 : decode cX2_lead 55 = .ok (.iload 4, 2) := by decide +kernel
theorem dX2_lead_57 : decode cX2_lead 57 = .ok (.iadd, 1) := by decide +kernel
theorem dX2_lead_58 : decode cX2_lead 58 = .ok (.aload_n 0, 1) := by decide +kernel
theorem dX2_lead_59 : decode cX2_lead 59 = .ok (.getfield 19, 3) := by decide +kernel
theorem dX2_lead_62 : decode cX2_lead 62 = .ok (.iload_n 3, 1) := by decide +kernel
theorem dX2_lead_63 : decode cX2_lead 63 = .ok (.iaload, 1) := by decide +kernel
theorem dX2_lead_64 : decode cX2_lead 64 = .ok (.isub, 1) := by decide +kernel
theorem dX2_lead_65 : decode cX2_lead 65 = .ok (.istore_n 2, 1) := by decide +kernel
theorem dX2_lead_66 : decode cX2_lead 66 = .ok (.iinc 3 1, 3) := by decide +kernel
theorem dX2_lead_69 : decode cX2_lead 69 = .ok (.goto (-65), 3) := by decide +kernel
theorem dX2_lead_72 : decode cX2_lead 72 = .ok (.iload_n 2, 1) := by decide +kernel
theorem dX2_lead_73 : decode cX2_lead 73 = .ok (.ireturn, 1) := by decide +kernel
def s_X2_lead_4_b  (k4 : Nat → Nat → Int32 → Int32 → aH → aO) (l0 : Nat) (l1 : Nat) (l2 : Int32) (l3 : Int32) (h : aH) : aO :=
  (gO h (.ref l0) 2 0).bind fun x6 => (ldI .int h (.ref x6) 0).bind fun x10 => if x10 ≤ l3 then (some (.inl (some (.int l2)), h)) else (kO h l0 2 (cI (s_X2_stepped l0 l3 l1 h) fun x17 h17 => (gO h17 (.ref l0) 2 2).bind fun x25 => (ldI .int h17 (.ref x25) l3).bind fun x29 => if x17 < x29 then (some (.inl (some (.int (-2))), h17)) else ((gO h17 (.ref l0) 2 3).bind fun x36 => (ldI .int h17 (.ref x36) l3).bind fun x40 => if x17 ≤ x40 then (kO h17 l0 2 (cI (s_X2_width l0 l3 0 h17) fun x51 h51 => (gO h51 (.ref l0) 2 2).bind fun x59 => (ldI .int h51 (.ref x59) l3).bind fun x63 => k4 l0 l1 (((l2 * x51) + x17) - x63) (l3 + 1) h51)) else (some (.inl (some (.int (-2))), h17)))))
def s_X2_lead_4  (n : Nat) : Nat → Nat → Int32 → Int32 → aH → aO := lpF (fun _ _ _ _ _ => none) (s_X2_lead_4_b ) n
def s_X2_lead (o : Nat) (a1 : Nat) (h : aH) : aO :=
  s_X2_lead_4 FU o a1 0 0 h
section
variable {p : Program} {l : Launch} {e : Env} {s : State} {m : MethodId} {args : Array Value} {below : List Frame} {meth : Method} {c : Code} {D : va_G} {B0 : Nat} {X : Nat → Nat} {ws0 : va_W} {r : aR} {h' : aH} {mc ms : Nat}
theorem t_X2_lead_4_b (C : Cx p l s m args meth c B0 X RX2 "lead" cX2_lead 5 (some .int) [])   {k4 : Nat → Nat → Int32 → Int32 → aH → aO} (K4 : ∀ (l0 : Nat) (l1 : Nat) (l2 : Int32) (l3 : Int32) (h : aH), k4 l0 l1 l2 l3 h = some (r, h') → Ev p l e { frames := 3, cells := mc, slots := ms, locals := 78 } s m args below meth c D B0 X ws0 r h' mc ms 5 mc ms 4 [some (.ref l0), some (.ref l1), some (.int l2), some (.int l3), none] [] h) {l0 : Nat} {l1 : Nat} {l2 : Int32} {l3 : Int32} {h : aH} (hs : s_X2_lead_4_b  k4 l0 l1 l2 l3 h = some (r, h')) : Ev p l e { frames := 3, cells := mc, slots := ms, locals := 78 } s m args below meth c D B0 X ws0 r h' mc ms 5 mc ms 4 [some (.ref l0), some (.ref l1), some (.int l2), some (.int l3), none] [] h := by
  unfold s_X2_lead_4_b at hs
  refine ev_iload_n C rfl dX2_lead_4 ?_
  refine ev_aload_n C (x := .ref l0) rfl trivial dX2_lead_5 ?_
  obtain ⟨x6, e6, hs⟩ := aB hs
  refine ev_get C (ci := 2) (k := 0) rfl wu_2 (by decide) wf_X2_9 (gO_F e6) dX2_lead_6 ?_
  refine ev_iconst C (v := 0) dX2_lead_9 (by decide) ?_
  obtain ⟨x10, e10, hs⟩ := aB hs
  refine ev_iald C e10 dX2_lead_10 ?_
  refine ev_icmp_ge C (tgt := 72) (by decide) dX2_lead_11 (fun q11 => ?_) (fun q11 => ?_)
  · replace hs := (if_pos q11).symm.trans hs
    refine ev_iload_n C rfl dX2_lead_72 ?_
    cases hs
    exact ev_iret C rfl rfl (Nat.le_refl _) (Nat.le_refl _) rfl dX2_lead_73
  · replace hs := (if_neg q11).symm.trans hs
    refine ev_aload_n C (x := .ref l0) rfl trivial dX2_lead_14 ?_
    refine ev_iload_n C rfl dX2_lead_15 ?_
    refine ev_aload_n C (x := .ref l1) rfl trivial dX2_lead_16 ?_
    obtain ⟨eo17, hs⟩ := kO_at hs
    obtain ⟨x17, h17, e17, hs⟩ := cI_at hs
    refine ev_callV C (T_X2_stepped _ _ _ _ _ _ e17) (ci := 2) rfl eo17 wc_X2_stepped wm_X2_117 wi_X2_stepped ws_X2_stepped wz_X2 hy_X2_stepped ⟨(Nat.le_of_ble_eq_true rfl), (Nat.le_of_ble_eq_true rfl)⟩ ⟨(Nat.le_refl _), (Nat.le_refl _)⟩ (Nat.le_of_ble_eq_true rfl) rfl dX2_lead_17 ?_
    refine ev_istore C (by decide) dX2_lead_20 ?_
    refine ev_iload C rfl dX2_lead_22 ?_
    refine ev_aload_n C (x := .ref l0) rfl trivial dX2_lead_24 ?_
    obtain ⟨x25, e25, hs⟩ := aB hs
    refine ev_get C (ci := 2) (k := 2) rfl wu_2 (by decide) wf_X2_19 (gO_F e25) dX2_lead_25 ?_
    refine ev_iload_n C rfl dX2_lead_28 ?_
    obtain ⟨x29, e29, hs⟩ := aB hs
    refine ev_iald C e29 dX2_lead_29 ?_
    refine ev_icmp_lt C (tgt := 44) (by decide) dX2_lead_30 (fun q30 => ?_) (fun q30 => ?_)
    · replace hs := (if_pos q30).symm.trans hs
      refine ev_bipush C (v := (-2)) dX2_lead_44 (by decide) ?_
      cases hs
      exact ev_iret C rfl rfl (Nat.le_refl _) (Nat.le_refl _) rfl dX2_lead_46
    · replace hs := (if_neg q30).symm.trans hs
      refine ev_iload C rfl dX2_lead_33 ?_
      refine ev_aload_n C (x := .ref l0) rfl trivial dX2_lead_35 ?_
      obtain ⟨x36, e36, hs⟩ := aB hs
      refine ev_get C (ci := 2) (k := 3) rfl wu_2 (by decide) wf_X2_22 (gO_F e36) dX2_lead_36 ?_
      refine ev_iload_n C rfl dX2_lead_39 ?_
      obtain ⟨x40, e40, hs⟩ := aB hs
      refine ev_iald C e40 dX2_lead_40 ?_
      refine ev_icmp_le C (tgt := 47) (by decide) dX2_lead_41 (fun q41 => ?_) (fun q41 => ?_)
      · replace hs := (if_pos q41).symm.trans hs
        refine ev_iload_n C rfl dX2_lead_47 ?_
        refine ev_aload_n C (x := .ref l0) rfl trivial dX2_lead_48 ?_
        refine ev_iload_n C rfl dX2_lead_49 ?_
        refine ev_iconst C (v := 0) dX2_lead_50 (by decide) ?_
        obtain ⟨eo51, hs⟩ := kO_at hs
        obtain ⟨x51, h51, e51, hs⟩ := cI_at hs
        refine ev_callV C (T_X2_width _ _ _ _ _ _ e51) (ci := 2) rfl eo51 wc_X2_width wm_X2_101 wi_X2_width ws_X2_width wz_X2 hy_X2_width ⟨(Nat.le_of_ble_eq_true rfl), (Nat.le_of_ble_eq_true rfl)⟩ ⟨(Nat.le_refl _), (Nat.le_refl _)⟩ (Nat.le_of_ble_eq_true rfl) rfl dX2_lead_51 ?_
        refine ev_imul C dX2_lead_54 ?_
        refine ev_iload C rfl dX2_lead_55 ?_
        refine ev_iadd C dX2_lead_57 ?_
        refine ev_aload_n C (x := .ref l0) rfl trivial dX2_lead_58 ?_
        obtain ⟨x59, e59, hs⟩ := aB hs
        refine ev_get C (ci := 2) (k := 2) rfl wu_2 (by decide) wf_X2_19 (gO_F e59) dX2_lead_59 ?_
        refine ev_iload_n C rfl dX2_lead_62 ?_
        obtain ⟨x63, e63, hs⟩ := aB hs
        refine ev_iald C e63 dX2_lead_63 ?_
        refine ev_isub C dX2_lead_64 ?_
        refine ev_istore_n C (by decide) dX2_lead_65 ?_
        refine ev_iinc C (i := 3) (n := 1) (x := l3) (v := l3 + 1) rfl (congrArg (fun z => l3 + z) (show Int32.ofInt 1 = 1 by decide)) (by decide) dX2_lead_66 ?_
        refine ev_goto C (tgt := 4) (by decide) dX2_lead_69 ?_
        exact Ev.keep [true, true, true, true, false] (K4 _ _ _ _ _ hs)
      · replace hs := (if_neg q41).symm.trans hs
        refine ev_bipush C (v := (-2)) dX2_lead_44 (by decide) ?_
        cases hs
        exact ev_iret C rfl rfl (Nat.le_refl _) (Nat.le_refl _) rfl dX2_lead_46
theorem t_X2_lead_4 (C : Cx p l s m args meth c B0 X RX2 "lead" cX2_lead 5 (some .int) [])   : ∀ (n : Nat) {l0 : Nat} {l1 : Nat} {l2 : Int32} {l3 : Int32} {h : aH} (hs : s_X2_lead_4  n l0 l1 l2 l3 h = some (r, h')), Ev p l e { frames := 3, cells := mc, slots := ms, locals := 78 } s m args below meth c D B0 X ws0 r h' mc ms 5 mc ms 4 [some (.ref l0), some (.ref l1), some (.int l2), some (.int l3), none] [] h
  | 0, _, _, _, _, _, hs => nomatch hs
  | n + 1, _, _, _, _, _, hs => t_X2_lead_4_b C  (k4 := s_X2_lead_4  n) (fun _ _ _ _ _ hs => t_X2_lead_4 C  n hs) hs
theorem hy_X2_lead : yX2_lead.cls ≠ "java/lang/invoke/MethodHandle" ∧ yX2_lead.cls ≠ "java/lang/invoke/VarHandle" ∧ (parseMethodDescriptor yX2_lead.desc).map (fun d => d.parameters.length) = some 1 := by decide +kernel
theorem T_X2_lead (o : Nat) (a1 : Nat) (h : aH) (r : aR) (h' : aH) (hs : s_X2_lead o a1 h = some (r, h')) : Mt yX2_lead (Cond.code yX2_lead cX2_lead 5 (some .int) :: aTB) 3 78 0 0 [.ref o, .ref a1] h r h' := by
  unfold s_X2_lead at hs
  refine Mt_of (k := 3) (by decide) rfl (fun p l e s m args below meth c D B0 X ws0 C => ?_)
  show Ev p l e { frames := 3, cells := 0, slots := 0, locals := 78 } s m args below meth c D B0 X ws0 r h' 0 0 5 0 0 0 [some (.ref o), some (.ref a1), none, none, none] [] h
  refine ev_iconst C (v := 0) dX2_lead_0 (by decide) ?_
  refine ev_istore_n C (by decide) dX2_lead_1 ?_
  refine ev_iconst C (v := 0) dX2_lead_2 (by decide) ?_
  refine ev_istore_n C (by decide) dX2_lead_3 ?_
  exact (t_X2_lead_4 C  FU hs)
end
-- X2_seen
theorem dX2_seen_0 : decode cX2_seen 0 = .ok (.aload_n 0, 1) := by decide +kernel
theorem dX2_seen_1 : decode cX2_seen 1 = .ok (.getfield 53, 3) := by decide +kernel
theorem dX2_seen_4 : decode cX2_seen 4 = .ok (.aload_n 0, 1) := by decide +kernel
theorem dX2_seen_5 : decode cX2_seen 5 = .ok (.getfield 40, 3) := by decide +kernel
theorem dX2_seen_8 : decode cX2_seen 8 = .ok (.iload_n 1, 1) := by decide +kernel
theorem dX2_seen_9 : decode cX2_seen 9 = .ok (.iaload, 1) := by decide +kernel
theorem dX2_seen_10 : decode cX2_seen 10 = .ok (.aload_n 0, 1) := by decide +kernel
theorem dX2_seen_11 : decode cX2_seen 11 = .ok (.getfield 43, 3) := by decide +kernel
theorem dX2_seen_14 : decode cX2_seen 14 = .ok (.iload_n 1, 1) := by decide +kernel
theorem dX2_seen_15 : decode cX2_seen 15 = .ok (.iaload, 1) := by decide +kernel
theorem dX2_seen_16 : decode cX2_seen 16 = .ok (.aload_n 2, 1) := by decide +kernel
theorem dX2_seen_17 : decode cX2_seen 17 = .ok (.invokevirtual 125, 3) := by decide +kernel
theorem dX2_seen_20 : decode cX2_seen 20 = .ok (.ireturn, 1) := by decide +kernel
def s_X2_seen (o : Nat) (a1 : Int32) (a2 : Nat) (h : aH) : aO :=
  (gO h (.ref o) 2 16).bind fun x1 => (gO h (.ref o) 2 10).bind fun x5 => (ldI .int h (.ref x5) a1).bind fun x9 => (gO h (.ref o) 2 11).bind fun x11 => (ldI .int h (.ref x11) a1).bind fun x15 => kO h x1 0 (cI (s_X0_sumOf x1 x9 x15 a2 h) fun x17 h17 => some (.inl (some (.int x17)), h17))
section
variable {p : Program} {l : Launch} {e : Env} {s : State} {m : MethodId} {args : Array Value} {below : List Frame} {meth : Method} {c : Code} {D : va_G} {B0 : Nat} {X : Nat → Nat} {ws0 : va_W} {r : aR} {h' : aH} {mc ms : Nat}
theorem hy_X2_seen : yX2_seen.cls ≠ "java/lang/invoke/MethodHandle" ∧ yX2_seen.cls ≠ "java/lang/invoke/VarHandle" ∧ (parseMethodDescriptor yX2_seen.desc).map (fun d => d.parameters.length) = some 2 := by decide +kernel
theorem T_X2_seen (o : Nat) (a1 : Int32) (a2 : Nat) (h : aH) (r : aR) (h' : aH) (hs : s_X2_seen o a1 a2 h = some (r, h')) : Mt yX2_seen (Cond.code yX2_seen cX2_seen 3 (some .int) :: aTB) 1 28 0 0 [.ref o, .int a1, .ref a2] h r h' := by
  unfold s_X2_seen at hs
  refine Mt_of (k := 0) (by decide) rfl (fun p l e s m args below meth c D B0 X ws0 C => ?_)
  show Ev p l e { frames := 1, cells := 0, slots := 0, locals := 28 } s m args below meth c D B0 X ws0 r h' 0 0 3 0 0 0 [some (.ref o), some (.int a1), some (.ref a2)] [] h
  refine ev_aload_n C (x := .ref o) rfl trivial dX2_seen_0 ?_
  obtain ⟨x1, e1, hs⟩ := aB hs
  refine ev_get C (ci := 2) (k := 16) rfl wu_2 (by decide) wf_X2_53 (gO_F e1) dX2_seen_1 ?_
  refine ev_aload_n C (x := .ref o) rfl trivial dX2_seen_4 ?_
  obtain ⟨x5, e5, hs⟩ := aB hs
  refine ev_get C (ci := 2) (k := 10) rfl wu_2 (by decide) wf_X2_40 (gO_F e5) dX2_seen_5 ?_
  refine ev_iload_n C rfl dX2_seen_8 ?_
  obtain ⟨x9, e9, hs⟩ := aB hs
  refine ev_iald C e9 dX2_seen_9 ?_
  refine ev_aload_n C (x := .ref o) rfl trivial dX2_seen_10 ?_
  obtain ⟨x11, e11, hs⟩ := aB hs
  refine ev_get C (ci := 2) (k := 11) rfl wu_2 (by decide) wf_X2_43 (gO_F e11) dX2_seen_11 ?_
  refine ev_iload_n C rfl dX2_seen_14 ?_
  obtain ⟨x15, e15, hs⟩ := aB hs
  refine ev_iald C e15 dX2_seen_15 ?_
  refine ev_aload_n C (x := .ref a2) rfl trivial dX2_seen_16 ?_
  obtain ⟨eo17, hs⟩ := kO_at hs
  obtain ⟨x17, h17, e17, hs⟩ := cI_at hs
  refine ev_callVN C (T_X0_sumOf _ _ _ _ _ _ _ e17) (ci := 0) rfl eo17 wc_X0_sumOf wn_X2_125 wi_X0_sumOf ws_X0_sumOf wz_X0 hy_X0_sumOf ⟨(Nat.le_of_ble_eq_true rfl), (Nat.le_of_ble_eq_true rfl)⟩ ⟨(Nat.le_refl _), (Nat.le_refl _)⟩ (Nat.le_of_ble_eq_true rfl) rfl dX2_seen_17 ?_
  cases hs
  exact ev_iret C rfl rfl (Nat.le_refl _) (Nat.le_refl _) rfl dX2_seen_20
end
-- X2_failing
theorem dX2_failing_0 : decode cX2_failing 0 = .ok (.getstatic 95, 3) := by decide +kernel
theorem dX2_failing_3 : decode cX2_failing 3 = .ok (.iconst 1, 1) := by decide +kernel
theorem dX2_failing_4 : decode cX2_failing 4 = .ok (.iaload, 1) := by decide +kernel
theorem dX2_failing_5 : decode cX2_failing 5 = .ok (.iload_n 2, 1) := by decide +kernel
theorem dX2_failing_6 : decode cX2_failing 6 = .ok (.iadd, 1) := by decide +kernel
theorem dX2_failing_7 : decode cX2_failing 7 = .ok (.istore 4, 2) := by decide +kernel
theorem dX2_failing_9 : decode cX2_failing 9 = .ok (.aload_n 0, 1) := by decide +kernel
theorem dX2_failing_10 : decode cX2_failing 10 = .ok (.iconst 1, 1) := by decide +kernel
theorem dX2_failing_11 : decode cX2_failing 11 = .ok (.iload_n 1, 1) := by decide +kernel
theorem dX2_failing_12 : decode cX2_failing 12 = .ok (.iconst 0, 1) := by decide +kernel
theorem dX2_failing_13 : decode cX2_failing 13 = .ok (.aload_n 3, 1) := by decide +kernel
theorem dX2_failing_14 : decode cX2_failing 14 = .ok (.invokevirtual 109, 3) := by decide +kernel
theorem dX2_failing_17 : decode cX2_failing 17 = .ok (.aload_n 3, 1) := by decide +kernel
theorem dX2_failing_18 : decode cX2_failing 18 = .ok (.iload 4, 2) := by decide +kernel
theorem dX2_failing_20 : decode cX2_failing 20 = .ok (.aload_n 0, 1) := by decide +kernel
theorem dX2_failing_21 : decode cX2_failing 21 = .ok (.getfield 19, 3) := by decide +kernel
theorem dX2_failing_24 : decode cX2_failing 24 = .ok (.iload 4, 2) := by decide +kernel
theorem dX2_failing_26 : decode cX2_failing 26 = .ok (.iaload, 1) := by decide +kernel
theorem dX2_failing_27 : decode cX2_failing 27 = .ok (.aload_n 0, 1) := by decide +kernel
theorem dX2_failing_28 : decode cX2_failing 28 = .ok (.getfield 22, 3) := by decide +kernel
theorem dX2_failing_31 : decode cX2_failing 31 = .ok (.iload 4, 2) := by decide +kernel
theorem dX2_failing_33 : decode cX2_failing 33 = .ok (.iaload, 1) := by decide +kernel
theorem dX2_failing_34 : decode cX2_failing 34 = .ok (.iconst 0, 1) := by decide +kernel
theorem dX2_failing_35 : decode cX2_failing 35 = .ok (.invokestatic 129, 3) := by decide +kernel
theorem dX2_failing_38 : decode cX2_failing 38 = .ok (.invokestatic 104, 3) := by decide +kernel
theorem dX2_failing_41 : decode cX2_failing 41 = .ok (.iastore, 1) := by decide +kernel
theorem dX2_failing_42 : decode cX2_failing 42 = .ok (.iconst 0, 1) := by decide +kernel
theorem dX2_failing_43 : decode cX2_failing 43 = .ok (.istore 5, 2) := by decide +kernel
theorem dX2_failing_45 : decode cX2_failing 45 = .ok (.iconst 0, 1) := by decide +kernel
theorem dX2_failing_46 : decode cX2_failing 46 = .ok (.istore 6, 2) := by decide +kernel
theorem dX2_failing_48 : decode cX2_failing 48 = .ok (.iload 6, 2) := by decide +kernel
theorem dX2_failing_50 : decode cX2_failing 50 = .ok (.aload_n 0, 1) := by decide +kernel
theorem dX2_failing_51 : decode cX2_failing 51 = .ok (.getfield 9, 3) := by decide +kernel
theorem dX2_failing_54 : decode cX2_failing 54 = .ok (.iconst 1, 1) := by decide +kernel
theorem dX2_failing_55 : decode cX2_failing 55 = .ok (.iaload, 1) := by decide +kernel
theorem dX2_failing_56 : decode cX2_failing 56 = .ok (.if_icmp .ge 44, 3) := by decide +kernel
theorem dX2_failing_59 : decode cX2_failing 59 = .ok (.getstatic 95, 3) := by decide +kernel
theorem dX2_failing_62 : decode cX2_failing 62 = .ok (.iconst 1, 1) := by decide +kernel
theorem dX2_failing_63 : decode cX2_failing 63 = .ok (.iaload, 1) := by decide +kernel
theorem dX2_failing_64 : decode cX2_failing 64 = .ok (.iload 6, 2) := by decide +kernel
theorem dX2_failing_66 : decode cX2_failing 66 = .ok (.iadd, 1) := by decide +kernel
theorem dX2_failing_67 : decode cX2_failing 67 = .ok (.istore 7, 2) := by decide +kernel
theorem dX2_failing_69 : decode cX2_failing 69 = .ok (.iload 5, 2) := by decide +kernel
theorem dX2_failing_71 : decode cX2_failing 71 = .ok (.aload_n 0, 1) := by decide +kernel
theorem dX2_failing_72 : decode cX2_failing 72 = .ok (.iload 7, 2) := by decide +kernel
theorem dX2_failing_74 : decode cX2_failing 74 = .ok (.iconst 0, 1) := by decide +kernel
theorem dX2_failing_75 : decode cX2_failing 75 = .ok (.invokevirtual 101, 3) := by decide +kernel
theorem dX2_failing_78 : decode cX2_failing 78 = .ok (.imul, 1) := by decide +kernel
theorem dX2_failing_79 : decode cX2_failing 79 = .ok (.aload_n 3, 1) := by decide +kernel
theorem dX2_failing_80 : decode cX2_failing 80 = .ok (.iload 7, 2) := by decide +kernel
theorem dX2_failing_82 : decode cX2_failing 82 = .ok (.iaload, 1) := by decide +kernel
theorem dX2_failing_83 : decode cX2_failing 83 = .ok (.iadd, 1) := by decide +kernel
theorem dX2_failing_84 : decode cX2_failing 84 = .ok (.aload_n 0, 1) := by decide +kernel
theorem dX2_failing_85 : decode cX2_failing 85 = .ok (.getfield 19, 3) := by decide +kernel
theorem dX2_failing_88 : decode cX2_failing 88 = .ok (.iload 7, 2) := by decide +kernel
theorem dX2_failing_90 : decode cX2_failing 90 = .ok (.iaload, 1) := by decide +kernel
theorem dX2_failing_91 : decode cX2_failing 91 = .ok (.isub, 1) := by decide +kernel
theorem dX2_failing_92 : decode cX2_failing 92 = .ok (.istore 5, 2) := by decide +kernel
theorem dX2_failing_94 : decode cX2_failing 94 = .ok (.iinc 6 1, 3) := by decide +kernel
theorem dX2_failing_97 : decode cX2_failing 97 = .ok (.goto (-49), 3) := by decide +kernel
theorem dX2_failing_100 : decode cX2_failing 100 = .ok (.iload 5, 2) := by decide +kernel
theorem dX2_failing_102 : decode cX2_failing 102 = .ok (.ireturn, 1) := by decide +kernel
def s_X2_failing_48_b  (k48 : Nat → Nat → Int32 → Int32 → aH → aO) (l0 : Nat) (l3 : Nat) (l5 : Int32) (l6 : Int32) (h : aH) : aO :=
  (gO h (.ref l0) 2 0).bind fun x51 => (ldI .int h (.ref x51) 1).bind fun x55 => if x55 ≤ l6 then (some (.inl (some (.int l5)), h)) else ((ldI .int h (.ref (aE + 1)) 1).bind fun x63 => kO h l0 2 (cI (s_X2_width l0 (x63 + l6) 0 h) fun x75 h75 => (ldI .int h75 (.ref l3) (x63 + l6)).bind fun x82 => (gO h75 (.ref l0) 2 2).bind fun x85 => (ldI .int h75 (.ref x85) (x63 + l6)).bind fun x90 => k48 l0 l3 (((l5 * x75) + x82) - x90) (l6 + 1) h75))
def s_X2_failing_48  (n : Nat) : Nat → Nat → Int32 → Int32 → aH → aO := lpF (fun _ _ _ _ _ => none) (s_X2_failing_48_b ) n
def s_X2_failing (o : Nat) (a1 : Int32) (a2 : Int32) (a3 : Nat) (h : aH) : aO :=
  (ldI .int h (.ref (aE + 1)) 1).bind fun x4 => kO h o 2 (cN (s_X2_spread o 1 a1 0 a3 h) fun h14 => (gO h14 (.ref o) 2 2).bind fun x21 => (ldI .int h14 (.ref x21) (x4 + a2)).bind fun x26 => (gO h14 (.ref o) 2 3).bind fun x28 => (ldI .int h14 (.ref x28) (x4 + a2)).bind fun x33 => (stI h14 (.ref a3) (x4 + a2) (jmax x26 (jmin x33 0))).bind fun h41 => s_X2_failing_48 FU o a3 0 0 h41)
section
variable {p : Program} {l : Launch} {e : Env} {s : State} {m : MethodId} {args : Array Value} {below : List Frame} {meth : Method} {c : Code} {D : va_G} {B0 : Nat} {X : Nat → Nat} {ws0 : va_W} {r : aR} {h' : aH} {mc ms : Nat}
theorem t_X2_failing_48_b (C : Cx p l s m args meth c B0 X RX2 "failing" cX2_failing 8 (some .int) [])   {k48 : Nat → Nat → Int32 → Int32 → aH → aO} (K48 : ∀ (l0 : Nat) (l3 : Nat) (l5 : Int32) (l6 : Int32) (h : aH), k48 l0 l3 l5 l6 h = some (r, h') → Ev p l e { frames := 2, cells := mc, slots := ms, locals := 50 } s m args below meth c D B0 X ws0 r h' mc ms 8 mc ms 48 [some (.ref l0), none, none, some (.ref l3), none, some (.int l5), some (.int l6), none] [] h) {l0 : Nat} {l3 : Nat} {l5 : Int32} {l6 : Int32} {h : aH} (hs : s_X2_failing_48_b  k48 l0 l3 l5 l6 h = some (r, h')) : Ev p l e { frames := 2, cells := mc, slots := ms, locals := 50 } s m args below meth c D B0 X ws0 r h' mc ms 8 mc ms 48 [some (.ref l0), none, none, some (.ref l3), none, some (.int l5), some (.int l6), none] [] h := by
  unfold s_X2_failing_48_b at hs
  refine ev_iload C rfl dX2_failing_48 ?_
  refine ev_aload_n C (x := .ref l0) rfl trivial dX2_failing_50 ?_
  obtain ⟨x51, e51, hs⟩ := aB hs
  refine ev_get C (ci := 2) (k := 0) rfl wu_2 (by decide) wf_X2_9 (gO_F e51) dX2_failing_51 ?_
  refine ev_iconst C (v := 1) dX2_failing_54 (by decide) ?_
  obtain ⟨x55, e55, hs⟩ := aB hs
  refine ev_iald C e55 dX2_failing_55 ?_
  refine ev_icmp_ge C (tgt := 100) (by decide) dX2_failing_56 (fun q56 => ?_) (fun q56 => ?_)
  · replace hs := (if_pos q56).symm.trans hs
    refine ev_iload C rfl dX2_failing_100 ?_
    cases hs
    exact ev_iret C rfl rfl (Nat.le_refl _) (Nat.le_refl _) rfl dX2_failing_102
  · replace hs := (if_neg q56).symm.trans hs
    refine ev_getsBASEN C wg_X2_95 dX2_failing_59 ?_
    refine ev_iconst C (v := 1) dX2_failing_62 (by decide) ?_
    obtain ⟨x63, e63, hs⟩ := aB hs
    refine ev_iald C e63 dX2_failing_63 ?_
    refine ev_iload C rfl dX2_failing_64 ?_
    refine ev_iadd C dX2_failing_66 ?_
    refine ev_istore C (by decide) dX2_failing_67 ?_
    refine ev_iload C rfl dX2_failing_69 ?_
    refine ev_aload_n C (x := .ref l0) rfl trivial dX2_failing_71 ?_
    refine ev_iload C rfl dX2_failing_72 ?_
    refine ev_iconst C (v := 0) dX2_failing_74 (by decide) ?_
    obtain ⟨eo75, hs⟩ := kO_at hs
    obtain ⟨x75, h75, e75, hs⟩ := cI_at hs
    refine ev_callV C (T_X2_width _ _ _ _ _ _ e75) (ci := 2) rfl eo75 wc_X2_width wm_X2_101 wi_X2_width ws_X2_width wz_X2 hy_X2_width ⟨(Nat.le_of_ble_eq_true rfl), (Nat.le_of_ble_eq_true rfl)⟩ ⟨(Nat.le_refl _), (Nat.le_refl _)⟩ (Nat.le_of_ble_eq_true rfl) rfl dX2_failing_75 ?_
    refine ev_imul C dX2_failing_78 ?_
    refine ev_aload_n C (x := .ref l3) rfl trivial dX2_failing_79 ?_
    refine ev_iload C rfl dX2_failing_80 ?_
    obtain ⟨x82, e82, hs⟩ := aB hs
    refine ev_iald C e82 dX2_failing_82 ?_
    refine ev_iadd C dX2_failing_83 ?_
    refine ev_aload_n C (x := .ref l0) rfl trivial dX2_failing_84 ?_
    obtain ⟨x85, e85, hs⟩ := aB hs
    refine ev_get C (ci := 2) (k := 2) rfl wu_2 (by decide) wf_X2_19 (gO_F e85) dX2_failing_85 ?_
    refine ev_iload C rfl dX2_failing_88 ?_
    obtain ⟨x90, e90, hs⟩ := aB hs
    refine ev_iald C e90 dX2_failing_90 ?_
    refine ev_isub C dX2_failing_91 ?_
    refine ev_istore C (by decide) dX2_failing_92 ?_
    refine ev_iinc C (i := 6) (n := 1) (x := l6) (v := l6 + 1) rfl (congrArg (fun z => l6 + z) (show Int32.ofInt 1 = 1 by decide)) (by decide) dX2_failing_94 ?_
    refine ev_goto C (tgt := 48) (by decide) dX2_failing_97 ?_
    exact Ev.keep [true, true, true, true, true, true, true, false] (K48 _ _ _ _ _ hs)
theorem t_X2_failing_48 (C : Cx p l s m args meth c B0 X RX2 "failing" cX2_failing 8 (some .int) [])   : ∀ (n : Nat) {l0 : Nat} {l3 : Nat} {l5 : Int32} {l6 : Int32} {h : aH} (hs : s_X2_failing_48  n l0 l3 l5 l6 h = some (r, h')), Ev p l e { frames := 2, cells := mc, slots := ms, locals := 50 } s m args below meth c D B0 X ws0 r h' mc ms 8 mc ms 48 [some (.ref l0), none, none, some (.ref l3), none, some (.int l5), some (.int l6), none] [] h
  | 0, _, _, _, _, _, hs => nomatch hs
  | n + 1, _, _, _, _, _, hs => t_X2_failing_48_b C  (k48 := s_X2_failing_48  n) (fun _ _ _ _ _ hs => t_X2_failing_48 C  n hs) hs
theorem hy_X2_failing : yX2_failing.cls ≠ "java/lang/invoke/MethodHandle" ∧ yX2_failing.cls ≠ "java/lang/invoke/VarHandle" ∧ (parseMethodDescriptor yX2_failing.desc).map (fun d => d.parameters.length) = some 3 := by decide +kernel
theorem T_X2_failing (o : Nat) (a1 : Int32) (a2 : Int32) (a3 : Nat) (h : aH) (r : aR) (h' : aH) (hs : s_X2_failing o a1 a2 a3 h = some (r, h')) : Mt yX2_failing (Cond.code yX2_failing cX2_failing 8 (some .int) :: aTB) 2 50 0 0 [.ref o, .int a1, .int a2, .ref a3] h r h' := by
  unfold s_X2_failing at hs
  refine Mt_of (k := 4) (by decide) rfl (fun p l e s m args below meth c D B0 X ws0 C => ?_)
  show Ev p l e { frames := 2, cells := 0, slots := 0, locals := 50 } s m args below meth c D B0 X ws0 r h' 0 0 8 0 0 0 [some (.ref o), some (.int a1), some (.int a2), some (.ref a3), none, none, none, none] [] h
  refine ev_getsBASEN C wg_X2_95 dX2_failing_0 ?_
  refine ev_iconst C (v := 1) dX2_failing_3 (by decide) ?_
  obtain ⟨x4, e4, hs⟩ := aB hs
  refine ev_iald C e4 dX2_failing_4 ?_
  refine ev_iload_n C rfl dX2_failing_5 ?_
  refine ev_iadd C dX2_failing_6 ?_
  refine ev_istore C (by decide) dX2_failing_7 ?_
  refine ev_aload_n C (x := .ref o) rfl trivial dX2_failing_9 ?_
  refine ev_iconst C (v := 1) dX2_failing_10 (by decide) ?_
  refine ev_iload_n C rfl dX2_failing_11 ?_
  refine ev_iconst C (v := 0) dX2_failing_12 (by decide) ?_
  refine ev_aload_n C (x := .ref a3) rfl trivial dX2_failing_13 ?_
  obtain ⟨eo14, hs⟩ := kO_at hs
  obtain ⟨h14, e14, hs⟩ := cN_at hs
  refine ev_callV C (T_X2_spread _ _ _ _ _ _ _ _ e14) (ci := 2) rfl eo14 wc_X2_spread wm_X2_109 wi_X2_spread ws_X2_spread wz_X2 hy_X2_spread ⟨(Nat.le_of_ble_eq_true rfl), (Nat.le_of_ble_eq_true rfl)⟩ ⟨(Nat.le_refl _), (Nat.le_refl _)⟩ (Nat.le_of_ble_eq_true rfl) rfl dX2_failing_14 ?_
  refine ev_aload_n C (x := .ref a3) rfl trivial dX2_failing_17 ?_
  refine ev_iload C rfl dX2_failing_18 ?_
  refine ev_aload_n C (x := .ref o) rfl trivial dX2_failing_20 ?_
  obtain ⟨x21, e21, hs⟩ := aB hs
  refine ev_get C (ci := 2) (k := 2) rfl wu_2 (by decide) wf_X2_19 (gO_F e21) dX2_failing_21 ?_
  refine ev_iload C rfl dX2_failing_24 ?_
  obtain ⟨x26, e26, hs⟩ := aB hs
  refine ev_iald C e26 dX2_failing_26 ?_
  refine ev_aload_n C (x := .ref o) rfl trivial dX2_failing_27 ?_
  obtain ⟨x28, e28, hs⟩ := aB hs
  refine ev_get C (ci := 2) (k := 3) rfl wu_2 (by decide) wf_X2_22 (gO_F e28) dX2_failing_28 ?_
  refine ev_iload C rfl dX2_failing_31 ?_
  obtain ⟨x33, e33, hs⟩ := aB hs
  refine ev_iald C e33 dX2_failing_33 ?_
  refine ev_iconst C (v := 0) dX2_failing_34 (by decide) ?_
  refine ev_mmin C wm_X2_129 wt_mmin wz_J9 wc_mmin (Nat.le_of_ble_eq_true rfl) (Nat.le_of_ble_eq_true rfl) (Nat.le_refl _) (Nat.le_refl _) dX2_failing_35 ?_
  refine ev_mmax C wm_X2_104 wt_mmax wz_J9 wc_mmax (Nat.le_of_ble_eq_true rfl) (Nat.le_of_ble_eq_true rfl) (Nat.le_refl _) (Nat.le_refl _) dX2_failing_38 ?_
  obtain ⟨h41, e41, hs⟩ := aB hs
  refine ev_iast C e41 dX2_failing_41 ?_
  refine ev_iconst C (v := 0) dX2_failing_42 (by decide) ?_
  refine ev_istore C (by decide) dX2_failing_43 ?_
  refine ev_iconst C (v := 0) dX2_failing_45 (by decide) ?_
  refine ev_istore C (by decide) dX2_failing_46 ?_
  exact Ev.keep [true, false, false, true, false, true, true, true] (t_X2_failing_48 C  FU hs)
end
-- X3_init
theorem dX3_init_0 : decode cX3_init 0 = .ok (.aload_n 0, 1) := by decide +kernel
theorem dX3_init_1 : decode cX3_init 1 = .ok (.invokespecial 3, 3) := by decide +kernel
theorem dX3_init_4 : decode cX3_init 4 = .ok (.aload_n 0, 1) := by decide +kernel
theorem dX3_init_5 : decode cX3_init 5 = .ok (.bipush 9, 2) := by decide +kernel
theorem dX3_init_7 : decode cX3_init 7 = .ok (.newarray .int, 2) := by decide +kernel
theorem dX3_init_9 : decode cX3_init 9 = .ok (.putfield 9, 3) := by decide +kernel
theorem dX3_init_12 : decode cX3_init 12 = .ok (.aload_n 0, 1) := by decide +kernel
theorem dX3_init_13 : decode cX3_init 13 = .ok (.iconst 0, 1) := by decide +kernel
theorem dX3_init_14 : decode cX3_init 14 = .ok (.newarray .int, 2) := by decide +kernel
theorem dX3_init_16 : decode cX3_init 16 = .ok (.putfield 15, 3) := by decide +kernel
theorem dX3_init_19 : decode cX3_init 19 = .ok (.aload_n 0, 1) := by decide +kernel
theorem dX3_init_20 : decode cX3_init 20 = .ok (.iconst 0, 1) := by decide +kernel
theorem dX3_init_21 : decode cX3_init 21 = .ok (.newarray .int, 2) := by decide +kernel
theorem dX3_init_23 : decode cX3_init 23 = .ok (.putfield 18, 3) := by decide +kernel
theorem dX3_init_26 : decode cX3_init 26 = .ok (.aload_n 0, 1) := by decide +kernel
theorem dX3_init_27 : decode cX3_init 27 = .ok (.aload_n 1, 1) := by decide +kernel
theorem dX3_init_28 : decode cX3_init 28 = .ok (.putfield 21, 3) := by decide +kernel
theorem dX3_init_31 : decode cX3_init 31 = .ok (.return_, 1) := by decide +kernel
def s_X3_init (o : Nat) (a1 : Nat) (h : aH) : aP :=
  bP (nwA .int h 9) fun o7 h7 => ck (0 + 1) (0 + Int32.toNatClampNeg 9) ((pF h7 (.ref o) 3 1 (.ref o7)).bind fun h9 => bP (nwA .int h9 0) fun o14 h14 => ck (0 + 1 + 1) (0 + Int32.toNatClampNeg 9 + Int32.toNatClampNeg 0) ((pF h14 (.ref o) 3 4 (.ref o14)).bind fun h16 => bP (nwA .int h16 0) fun o21 h21 => ck (0 + 1 + 1 + 1) (0 + Int32.toNatClampNeg 9 + Int32.toNatClampNeg 0 + Int32.toNatClampNeg 0) (wC (0 + 1 + 1 + 1) (0 + Int32.toNatClampNeg 9 + Int32.toNatClampNeg 0 + Int32.toNatClampNeg 0) ((pF h21 (.ref o) 3 5 (.ref o21)).bind fun h23 => (pF h23 (.ref o) 3 0 (.ref a1)).bind fun h28 => some (.inl none, h28)))))
section
variable {p : Program} {l : Launch} {e : Env} {s : State} {m : MethodId} {args : Array Value} {below : List Frame} {meth : Method} {c : Code} {D : va_G} {B0 : Nat} {X : Nat → Nat} {ws0 : va_W} {r : aR} {h' : aH} {mc ms : Nat}
theorem hy_X3_init : yX3_init.cls ≠ "java/lang/invoke/MethodHandle" ∧ yX3_init.cls ≠ "java/lang/invoke/VarHandle" ∧ (parseMethodDescriptor yX3_init.desc).map (fun d => d.parameters.length) = some 1 := by decide +kernel
theorem T_X3_init (o : Nat) (a1 : Nat) (h : aH) (r : aR) (h' : aH) (mc ms : Nat) (hs : s_X3_init o a1 h = some (r, h', mc, ms)) : Mt yX3_init (Cond.code yX3_init cX3_init 2 none :: aTB) 1 20 mc ms [.ref o, .ref a1] h r h' := by
  unfold s_X3_init at hs
  refine Mt_of (k := 0) (by decide) rfl (fun p l e s m args below meth c D B0 X ws0 C => ?_)
  show Ev p l e { frames := 1, cells := mc, slots := ms, locals := 20 } s m args below meth c D B0 X ws0 r h' mc ms 2 0 0 0 [some (.ref o), some (.ref a1)] [] h
  refine ev_aload_n C (x := .ref o) rfl trivial dX3_init_0 ?_
  refine ev_objInit C wm_X3_3 wi_oinit wc_oinit (Nat.le_of_ble_eq_true rfl) (Nat.le_of_ble_eq_true rfl) dX3_init_1 ?_
  refine ev_aload_n C (x := .ref o) rfl trivial dX3_init_4 ?_
  refine ev_bipush C (v := 9) dX3_init_5 (by decide) ?_
  obtain ⟨o7, h7, e7, hs⟩ := bP_at hs
  obtain ⟨c7, z7, hs⟩ := ck_at hs
  refine ev_newa C (atype := .int) (ty := .int) rfl wa_int (fun _ _ => rfl) e7 c7 z7 dX3_init_7 ?_
  obtain ⟨h9, e9, hs⟩ := aB hs
  refine ev_putF C (ci := 3) (k := 1) rfl wu_3 (by decide) tyX3 tyX3_ok nmX3 wf_X3_9 rfl rfl rfl trivial e9 dX3_init_9 ?_
  refine ev_aload_n C (x := .ref o) rfl trivial dX3_init_12 ?_
  refine ev_iconst C (v := 0) dX3_init_13 (by decide) ?_
  obtain ⟨o14, h14, e14, hs⟩ := bP_at hs
  obtain ⟨c14, z14, hs⟩ := ck_at hs
  refine ev_newa C (atype := .int) (ty := .int) rfl wa_int (fun _ _ => rfl) e14 c14 z14 dX3_init_14 ?_
  obtain ⟨h16, e16, hs⟩ := aB hs
  refine ev_put C (ci := 3) (k := 4) rfl wu_3 (by decide) tyX3 tyX3_ok nmX3 wf_X3_15 rfl trivial e16 dX3_init_16 ?_
  refine ev_aload_n C (x := .ref o) rfl trivial dX3_init_19 ?_
  refine ev_iconst C (v := 0) dX3_init_20 (by decide) ?_
  obtain ⟨o21, h21, e21, hs⟩ := bP_at hs
  obtain ⟨c21, z21, hs⟩ := ck_at hs
  refine ev_newa C (atype := .int) (ty := .int) rfl wa_int (fun _ _ => rfl) e21 c21 z21 dX3_init_21 ?_
  obtain ⟨hw9, rfl, rfl⟩ := wC_at hs
  have hs := hw9
  obtain ⟨h23, e23, hs⟩ := aB hs
  refine ev_put C (ci := 3) (k := 5) rfl wu_3 (by decide) tyX3 tyX3_ok nmX3 wf_X3_18 rfl trivial e23 dX3_init_23 ?_
  refine ev_aload_n C (x := .ref o) rfl trivial dX3_init_26 ?_
  refine ev_aload_n C (x := .ref a1) rfl trivial dX3_init_27 ?_
  obtain ⟨h28, e28, hs⟩ := aB hs
  refine ev_putF C (ci := 3) (k := 0) rfl wu_3 (by decide) tyX3 tyX3_ok nmX3 wf_X3_21 rfl rfl rfl trivial e28 dX3_init_28 ?_
  cases hs
  exact ev_vret C rfl rfl (Nat.le_refl _) (Nat.le_refl _) rfl dX3_init_31
end
-- X3_forget
theorem dX3_forget_0 : decode cX3_forget 0 = .ok (.aload_n 0, 1) := by decide +kernel
theorem dX3_forget_1 : decode cX3_forget 1 = .ok (.iconst 0, 1) := by decide +kernel
theorem dX3_forget_2 : decode cX3_forget 2 = .ok (.putfield 25, 3) := by decide +kernel
theorem dX3_forget_5 : decode cX3_forget 5 = .ok (.aload_n 0, 1) := by decide +kernel
theorem dX3_forget_6 : decode cX3_forget 6 = .ok (.aload_n 0, 1) := by decide +kernel
theorem dX3_forget_7 : decode cX3_forget 7 = .ok (.getfield 21, 3) := by decide +kernel
theorem dX3_forget_10 : decode cX3_forget 10 = .ok (.getfield 29, 3) := by decide +kernel
theorem dX3_forget_13 : decode cX3_forget 13 = .ok (.bipush 32, 2) := by decide +kernel
theorem dX3_forget_15 : decode cX3_forget 15 = .ok (.idiv, 1) := by decide +kernel
theorem dX3_forget_16 : decode cX3_forget 16 = .ok (.iconst 1, 1) := by decide +kernel
theorem dX3_forget_17 : decode cX3_forget 17 = .ok (.iadd, 1) := by decide +kernel
theorem dX3_forget_18 : decode cX3_forget 18 = .ok (.putfield 35, 3) := by decide +kernel
theorem dX3_forget_21 : decode cX3_forget 21 = .ok (.return_, 1) := by decide +kernel
def s_X3_forget (o : Nat) (h : aH) : aO :=
  (pZ h (.ref o) 3 2 0).bind fun h2 => (gO h2 (.ref o) 3 0).bind fun x7 => (gI h2 (.ref x7) 2 12).bind fun x10 => nz 32 ((pF h2 (.ref o) 3 3 (.int ((x10 / 32) + 1))).bind fun h18 => some (.inl none, h18))
section
variable {p : Program} {l : Launch} {e : Env} {s : State} {m : MethodId} {args : Array Value} {below : List Frame} {meth : Method} {c : Code} {D : va_G} {B0 : Nat} {X : Nat → Nat} {ws0 : va_W} {r : aR} {h' : aH} {mc ms : Nat}
theorem hy_X3_forget : yX3_forget.cls ≠ "java/lang/invoke/MethodHandle" ∧ yX3_forget.cls ≠ "java/lang/invoke/VarHandle" ∧ (parseMethodDescriptor yX3_forget.desc).map (fun d => d.parameters.length) = some 0 := by decide +kernel
theorem T_X3_forget (o : Nat) (h : aH) (r : aR) (h' : aH) (hs : s_X3_forget o h = some (r, h')) : Mt yX3_forget (Cond.code yX3_forget cX3_forget 1 none :: aTB) 0 0 0 0 [.ref o] h r h' := by
  unfold s_X3_forget at hs
  refine Mt_of (k := 0) (by decide) rfl (fun p l e s m args below meth c D B0 X ws0 C => ?_)
  show Ev p l e { frames := 0, cells := 0, slots := 0, locals := 0 } s m args below meth c D B0 X ws0 r h' 0 0 1 0 0 0 [some (.ref o)] [] h
  refine ev_aload_n C (x := .ref o) rfl trivial dX3_forget_0 ?_
  refine ev_iconst C (v := 0) dX3_forget_1 (by decide) ?_
  obtain ⟨h2, e2, hs⟩ := aB hs
  refine ev_put C (ci := 3) (k := 2) rfl wu_3 (by decide) tyX3 tyX3_ok nmX3 wf_X3_25 rfl (pZ_F e2).2 (pZ_F e2).1 dX3_forget_2 ?_
  refine ev_aload_n C (x := .ref o) rfl trivial dX3_forget_5 ?_
  refine ev_aload_n C (x := .ref o) rfl trivial dX3_forget_6 ?_
  obtain ⟨x7, e7, hs⟩ := aB hs
  refine ev_get C (ci := 3) (k := 0) rfl wu_3 (by decide) wf_X3_21 (gO_F e7) dX3_forget_7 ?_
  obtain ⟨x10, e10, hs⟩ := aB hs
  refine ev_getN C (ci := 2) (k := 12) rfl wu_2 (by decide) wg_X3_29 (gI_F e10) dX3_forget_10 ?_
  refine ev_bipush C (v := 32) dX3_forget_13 (by decide) ?_
  obtain ⟨n15, hs⟩ := nz_at hs
  refine ev_idiv C n15 dX3_forget_15 ?_
  refine ev_iconst C (v := 1) dX3_forget_16 (by decide) ?_
  refine ev_iadd C dX3_forget_17 ?_
  obtain ⟨h18, e18, hs⟩ := aB hs
  refine ev_put C (ci := 3) (k := 3) rfl wu_3 (by decide) tyX3 tyX3_ok nmX3 wf_X3_35 rfl trivial e18 dX3_forget_18 ?_
  cases hs
  exact ev_vret C rfl rfl (Nat.le_refl _) (Nat.le_refl _) rfl dX3_forget_21
end
-- X11_longEnough
theorem dX11_longEnough_0 : decode cX11_longEnough 0 = .ok (.aload_n 0, 1) := by decide +kernel
theorem dX11_longEnough_1 : decode cX11_longEnough 1 = .ok (.arraylength, 1) := by decide +kernel
theorem dX11_longEnough_2 : decode cX11_longEnough 2 = .ok (.iload_n 1, 1) := by decide +kernel
theorem dX11_longEnough_3 : decode cX11_longEnough 3 = .ok (.if_icmp .lt 7, 3) := by decide +kernel
theorem dX11_longEnough_6 : decode cX11_longEnough 6 = .ok (.aload_n 0, 1) := by decide +kernel
theorem dX11_longEnough_7 : decode cX11_longEnough 7 = .ok (.goto 13, 3) := by decide +kernel
theorem dX11_longEnough_10 : decode cX11_longEnough 10 = .ok (.iload_n 1, 1) := by decide +kernel
theorem dX11_longEnough_11 : decode cX11_longEnough 11 = .ok (.iconst 2, 1) := by decide +kernel
theorem dX11_longEnough_12 : decode cX11_longEnough 12 = .ok (.aload_n 0, 1) := by decide +kernel
theorem dX11_longEnough_13 : decode cX11_longEnough 13 = .ok (.arraylength, 1) := by decide +kernel
theorem dX11_longEnough_14 : decode cX11_longEnough 14 = .ok (.imul, 1) := by decide +kernel
theorem dX11_longEnough_15 : decode cX11_longEnough 15 = .ok (.invokestatic 391, 3) := by decide +kernel
theorem dX11_longEnough_18 : decode cX11_longEnough 18 = .ok (.newarray .int, 2) := by decide +kernel
theorem dX11_longEnough_20 : decode cX11_longEnough 20 = .ok (.areturn, 1) := by decide +kernel
def s_X11_longEnough (a1 : Nat) (a2 : Int32) (h : aH) : aP :=
  (lnA h (.ref a1)).bind fun x1 => if x1 < a2 then ((lnA h (.ref a1)).bind fun x13 => ck 0 0 (bP (nwA .int h (jmax a2 (2 * x13))) fun o18 h18 => ck (0 + 1) (0 + Int32.toNatClampNeg (jmax a2 (2 * x13))) (wC (0 + 1) (0 + Int32.toNatClampNeg (jmax a2 (2 * x13))) (some (.inl (some (.ref o18)), h18))))) else (wC 0 0 (some (.inl (some (.ref a1)), h)))
section
variable {p : Program} {l : Launch} {e : Env} {s : State} {m : MethodId} {args : Array Value} {below : List Frame} {meth : Method} {c : Code} {D : va_G} {B0 : Nat} {X : Nat → Nat} {ws0 : va_W} {r : aR} {h' : aH} {mc ms : Nat}
theorem hy_X11_longEnough : yX11_longEnough.cls ≠ "java/lang/invoke/MethodHandle" ∧ yX11_longEnough.cls ≠ "java/lang/invoke/VarHandle" ∧ (parseMethodDescriptor yX11_longEnough.desc).map (fun d => d.parameters.length) = some 2 := by decide +kernel
theorem T_X11_longEnough (a1 : Nat) (a2 : Int32) (h : aH) (r : aR) (h' : aH) (mc ms : Nat) (hs : s_X11_longEnough a1 a2 h = some (r, h', mc, ms)) : Mt yX11_longEnough (Cond.code yX11_longEnough cX11_longEnough 2 (some (.array .int)) :: aTB) 1 23 mc ms [.ref a1, .int a2] h r h' := by
  unfold s_X11_longEnough at hs
  refine Mt_of (k := 0) (by decide) rfl (fun p l e s m args below meth c D B0 X ws0 C => ?_)
  show Ev p l e { frames := 1, cells := mc, slots := ms, locals := 23 } s m args below meth c D B0 X ws0 r h' mc ms 2 0 0 0 [some (.ref a1), some (.int a2)] [] h
  refine ev_aload_n C (x := .ref a1) rfl trivial dX11_longEnough_0 ?_
  obtain ⟨x1, e1, hs⟩ := aB hs
  refine ev_alen C e1 dX11_longEnough_1 ?_
  refine ev_iload_n C rfl dX11_longEnough_2 ?_
  refine ev_icmp_lt C (tgt := 10) (by decide) dX11_longEnough_3 (fun q3 => ?_) (fun q3 => ?_)
  · replace hs := (if_pos q3).symm.trans hs
    refine ev_iload_n C rfl dX11_longEnough_10 ?_
    refine ev_iconst C (v := 2) dX11_longEnough_11 (by decide) ?_
    refine ev_aload_n C (x := .ref a1) rfl trivial dX11_longEnough_12 ?_
    obtain ⟨x13, e13, hs⟩ := aB hs
    refine ev_alen C e13 dX11_longEnough_13 ?_
    refine ev_imul C dX11_longEnough_14 ?_
    obtain ⟨c15, z15, hs⟩ := ck_at hs
    refine ev_mmax C wm_X11_391 wt_mmax wz_J9 wc_mmax (Nat.le_of_ble_eq_true rfl) (Nat.le_of_ble_eq_true rfl) c15 z15 dX11_longEnough_15 ?_
    obtain ⟨o18, h18, e18, hs⟩ := bP_at hs
    obtain ⟨c18, z18, hs⟩ := ck_at hs
    refine ev_newa C (atype := .int) (ty := .int) rfl wa_int (fun _ _ => rfl) e18 c18 z18 dX11_longEnough_18 ?_
    obtain ⟨hw9, rfl, rfl⟩ := wC_at hs
    have hs := hw9
    cases hs
    exact ev_aret C rfl (Or.inr ⟨_, rfl⟩) trivial rfl (Nat.le_refl _) (Nat.le_refl _) rfl dX11_longEnough_20
  · replace hs := (if_neg q3).symm.trans hs
    obtain ⟨hw9, rfl, rfl⟩ := wC_at hs
    have hs := hw9
    refine ev_aload_n C (x := .ref a1) rfl trivial dX11_longEnough_6 ?_
    refine ev_goto C (tgt := 20) (by decide) dX11_longEnough_7 ?_
    cases hs
    exact ev_aret C rfl (Or.inr ⟨_, rfl⟩) trivial rfl (Nat.le_refl _) (Nat.le_refl _) rfl dX11_longEnough_20
end
-- J7_rangeCheck_23922
theorem dJ7_rangeCheck_23922_0 : decode cJ7_rangeCheck_23922 0 = .ok (.iload_n 1, 1) := by decide +kernel
theorem dJ7_rangeCheck_23922_1 : decode cJ7_rangeCheck_23922 1 = .ok (.iload_n 2, 1) := by decide +kernel
theorem dJ7_rangeCheck_23922_2 : decode cJ7_rangeCheck_23922 2 = .ok (.if_icmp .le 44, 3) := by decide +kernel
theorem dJ7_rangeCheck_23922_5 : decode cJ7_rangeCheck_23922 5 = .ok (.new 43, 3) := by decide +kernel
theorem dJ7_rangeCheck_23922_8 : decode cJ7_rangeCheck_23922 8 = .ok (.dup, 1) := by decide +kernel
theorem dJ7_rangeCheck_23922_9 : decode cJ7_rangeCheck_23922 9 = .ok (.new 45, 3) := by decide +kernel
theorem dJ7_rangeCheck_23922_12 : decode cJ7_rangeCheck_23922 12 = .ok (.dup, 1) := by decide +kernel
theorem dJ7_rangeCheck_23922_13 : decode cJ7_rangeCheck_23922 13 = .ok (.invokespecial 47, 3) := by decide +kernel
theorem dJ7_rangeCheck_23922_16 : decode cJ7_rangeCheck_23922 16 = .ok (.ldc 48, 2) := by decide +kernel
theorem dJ7_rangeCheck_23922_18 : decode cJ7_rangeCheck_23922 18 = .ok (.invokevirtual 50, 3) := by decide +kernel
theorem dJ7_rangeCheck_23922_21 : decode cJ7_rangeCheck_23922 21 = .ok (.iload_n 1, 1) := by decide +kernel
theorem dJ7_rangeCheck_23922_22 : decode cJ7_rangeCheck_23922 22 = .ok (.invokevirtual 54, 3) := by decide +kernel
theorem dJ7_rangeCheck_23922_25 : decode cJ7_rangeCheck_23922 25 = .ok (.ldc 57, 2) := by decide +kernel
theorem dJ7_rangeCheck_23922_27 : decode cJ7_rangeCheck_23922 27 = .ok (.invokevirtual 50, 3) := by decide +kernel
theorem dJ7_rangeCheck_23922_30 : decode cJ7_rangeCheck_23922 30 = .ok (.iload_n 2, 1) := by decide +kernel
theorem dJ7_rangeCheck_23922_31 : decode cJ7_rangeCheck_23922 31 = .ok (.invokevirtual 54, 3) := by decide +kernel
theorem dJ7_rangeCheck_23922_34 : decode cJ7_rangeCheck_23922 34 = .ok (.ldc 59, 2) := by decide +kernel
theorem dJ7_rangeCheck_23922_36 : decode cJ7_rangeCheck_23922 36 = .ok (.invokevirtual 50, 3) := by decide +kernel
theorem dJ7_rangeCheck_23922_39 : decode cJ7_rangeCheck_23922 39 = .ok (.invokevirtual 61, 3) := by decide +kernel
theorem dJ7_rangeCheck_23922_42 : decode cJ7_rangeCheck_23922 42 = .ok (.invokespecial 65, 3) := by decide +kernel
theorem dJ7_rangeCheck_23922_45 : decode cJ7_rangeCheck_23922 45 = .ok (.athrow, 1) := by decide +kernel
theorem dJ7_rangeCheck_23922_46 : decode cJ7_rangeCheck_23922 46 = .ok (.iload_n 1, 1) := by decide +kernel
theorem dJ7_rangeCheck_23922_47 : decode cJ7_rangeCheck_23922 47 = .ok (.ifCond .ge 12, 3) := by decide +kernel
theorem dJ7_rangeCheck_23922_50 : decode cJ7_rangeCheck_23922 50 = .ok (.new 68, 3) := by decide +kernel
theorem dJ7_rangeCheck_23922_53 : decode cJ7_rangeCheck_23922 53 = .ok (.dup, 1) := by decide +kernel
theorem dJ7_rangeCheck_23922_54 : decode cJ7_rangeCheck_23922 54 = .ok (.iload_n 1, 1) := by decide +kernel
theorem dJ7_rangeCheck_23922_55 : decode cJ7_rangeCheck_23922 55 = .ok (.invokespecial 70, 3) := by decide +kernel
theorem dJ7_rangeCheck_23922_58 : decode cJ7_rangeCheck_23922 58 = .ok (.athrow, 1) := by decide +kernel
theorem dJ7_rangeCheck_23922_59 : decode cJ7_rangeCheck_23922 59 = .ok (.iload_n 2, 1) := by decide +kernel
theorem dJ7_rangeCheck_23922_60 : decode cJ7_rangeCheck_23922 60 = .ok (.iload_n 0, 1) := by decide +kernel
theorem dJ7_rangeCheck_23922_61 : decode cJ7_rangeCheck_23922 61 = .ok (.if_icmp .le 12, 3) := by decide +kernel
theorem dJ7_rangeCheck_23922_64 : decode cJ7_rangeCheck_23922 64 = .ok (.new 68, 3) := by decide +kernel
theorem dJ7_rangeCheck_23922_67 : decode cJ7_rangeCheck_23922 67 = .ok (.dup, 1) := by decide +kernel
theorem dJ7_rangeCheck_23922_68 : decode cJ7_rangeCheck_23922 68 = .ok (.iload_n 2, 1) := by decide +kernel
theorem dJ7_rangeCheck_23922_69 : decode cJ7_rangeCheck_23922 69 = .ok (.invokespecial 70, 3) := by decide +kernel
theorem dJ7_rangeCheck_23922_72 : decode cJ7_rangeCheck_23922 72 = .ok (.athrow, 1) := by decide +kernel
theorem dJ7_rangeCheck_23922_73 : decode cJ7_rangeCheck_23922 73 = .ok (.return_, 1) := by decide +kernel
def s_J7_rangeCheck_23922 (a1 : Int32) (a2 : Int32) (a3 : Int32) (h : aH) : aO :=
  if a2 ≤ a3 then (if 0 ≤ a2 then (if a3 ≤ a1 then (some (.inl none, h)) else (none)) else (none)) else (none)
section
variable {p : Program} {l : Launch} {e : Env} {s : State} {m : MethodId} {args : Array Value} {below : List Frame} {meth : Method} {c : Code} {D : va_G} {B0 : Nat} {X : Nat → Nat} {ws0 : va_W} {r : aR} {h' : aH} {mc ms : Nat}
theorem hy_J7_rangeCheck_23922 : yJ7_rangeCheck_23922.cls ≠ "java/lang/invoke/MethodHandle" ∧ yJ7_rangeCheck_23922.cls ≠ "java/lang/invoke/VarHandle" ∧ (parseMethodDescriptor yJ7_rangeCheck_23922.desc).map (fun d => d.parameters.length) = some 3 := by decide +kernel
theorem T_J7_rangeCheck_23922 (a1 : Int32) (a2 : Int32) (a3 : Int32) (h : aH) (r : aR) (h' : aH) (hs : s_J7_rangeCheck_23922 a1 a2 a3 h = some (r, h')) : Mt yJ7_rangeCheck_23922 (Cond.code yJ7_rangeCheck_23922 cJ7_rangeCheck_23922 3 none :: aTB) 0 0 0 0 [.int a1, .int a2, .int a3] h r h' := by
  unfold s_J7_rangeCheck_23922 at hs
  refine Mt_of (k := 0) (by decide) rfl (fun p l e s m args below meth c D B0 X ws0 C => ?_)
  show Ev p l e { frames := 0, cells := 0, slots := 0, locals := 0 } s m args below meth c D B0 X ws0 r h' 0 0 3 0 0 0 [some (.int a1), some (.int a2), some (.int a3)] [] h
  refine ev_iload_n C rfl dJ7_rangeCheck_23922_0 ?_
  refine ev_iload_n C rfl dJ7_rangeCheck_23922_1 ?_
  refine ev_icmp_le C (tgt := 46) (by decide) dJ7_rangeCheck_23922_2 (fun q2 => ?_) (fun q2 => ?_)
  · replace hs := (if_pos q2).symm.trans hs
    refine ev_iload_n C rfl dJ7_rangeCheck_23922_46 ?_
    refine ev_if_ge C (tgt := 59) (by decide) dJ7_rangeCheck_23922_47 (fun q47 => ?_) (fun q47 => ?_)
    · replace hs := (if_pos q47).symm.trans hs
      refine ev_iload_n C rfl dJ7_rangeCheck_23922_59 ?_
      refine ev_iload_n C rfl dJ7_rangeCheck_23922_60 ?_
      refine ev_icmp_le C (tgt := 73) (by decide) dJ7_rangeCheck_23922_61 (fun q61 => ?_) (fun q61 => ?_)
      · replace hs := (if_pos q61).symm.trans hs
        cases hs
        exact ev_vret C rfl rfl (Nat.le_refl _) (Nat.le_refl _) rfl dJ7_rangeCheck_23922_73
      · replace hs := (if_neg q61).symm.trans hs
        cases hs
    · replace hs := (if_neg q47).symm.trans hs
      cases hs
  · replace hs := (if_neg q2).symm.trans hs
    cases hs
end
-- J7_fill_fda19
theorem dJ7_fill_fda19_0 : decode cJ7_fill_fda19 0 = .ok (.aload_n 0, 1) := by decide +kernel
theorem dJ7_fill_fda19_1 : decode cJ7_fill_fda19 1 = .ok (.arraylength, 1) := by decide +kernel
theorem dJ7_fill_fda19_2 : decode cJ7_fill_fda19 2 = .ok (.iload_n 1, 1) := by decide +kernel
theorem dJ7_fill_fda19_3 : decode cJ7_fill_fda19 3 = .ok (.iload_n 2, 1) := by decide +kernel
theorem dJ7_fill_fda19_4 : decode cJ7_fill_fda19 4 = .ok (.invokestatic 13, 3) := by decide +kernel
theorem dJ7_fill_fda19_7 : decode cJ7_fill_fda19 7 = .ok (.iload_n 1, 1) := by decide +kernel
theorem dJ7_fill_fda19_8 : decode cJ7_fill_fda19 8 = .ok (.istore 4, 2) := by decide +kernel
theorem dJ7_fill_fda19_10 : decode cJ7_fill_fda19 10 = .ok (.iload 4, 2) := by decide +kernel
theorem dJ7_fill_fda19_12 : decode cJ7_fill_fda19 12 = .ok (.iload_n 2, 1) := by decide +kernel
theorem dJ7_fill_fda19_13 : decode cJ7_fill_fda19 13 = .ok (.if_icmp .ge 14, 3) := by decide +kernel
theorem dJ7_fill_fda19_16 : decode cJ7_fill_fda19 16 = .ok (.aload_n 0, 1) := by decide +kernel
theorem dJ7_fill_fda19_17 : decode cJ7_fill_fda19 17 = .ok (.iload 4, 2) := by decide +kernel
theorem dJ7_fill_fda19_19 : decode cJ7_fill_fda19 19 = .ok (.iload_n 3, 1) := by decide +kernel
theorem dJ7_fill_fda19_20 : decode cJ7_fill_fda19 20 = .ok (.iastore, 1) := by decide +kernel
theorem dJ7_fill_fda19_21 : decode cJ7_fill_fda19 21 = .ok (.iinc 4 1, 3) := by decide +kernel
theorem dJ7_fill_fda19_24 : decode cJ7_fill_fda19 24 = .ok (.goto (-14), 3) := by decide +kernel
theorem dJ7_fill_fda19_27 : decode cJ7_fill_fda19 27 = .ok (.return_, 1) := by decide +kernel
def s_J7_fill_fda19_10_b  (k10 : Nat → Int32 → Int32 → Int32 → aH → aO) (l0 : Nat) (l2 : Int32) (l3 : Int32) (l4 : Int32) (h : aH) : aO :=
  if l2 ≤ l4 then (some (.inl none, h)) else ((stI h (.ref l0) l4 l3).bind fun h20 => k10 l0 l2 l3 (l4 + 1) h20)
def s_J7_fill_fda19_10  (n : Nat) : Nat → Int32 → Int32 → Int32 → aH → aO := lpF (fun _ _ _ _ _ => none) (s_J7_fill_fda19_10_b ) n
def s_J7_fill_fda19 (a1 : Nat) (a2 : Int32) (a3 : Int32) (a4 : Int32) (h : aH) : aO :=
  (lnA h (.ref a1)).bind fun x1 => cN (s_J7_rangeCheck_23922 x1 a2 a3 h) fun h4 => s_J7_fill_fda19_10 FU a1 a3 a4 a2 h4
section
variable {p : Program} {l : Launch} {e : Env} {s : State} {m : MethodId} {args : Array Value} {below : List Frame} {meth : Method} {c : Code} {D : va_G} {B0 : Nat} {X : Nat → Nat} {ws0 : va_W} {r : aR} {h' : aH} {mc ms : Nat}
theorem t_J7_fill_fda19_10_b (C : Cx p l s m args meth c B0 X RJ7 "fill" cJ7_fill_fda19 5 none [])   {k10 : Nat → Int32 → Int32 → Int32 → aH → aO} (K10 : ∀ (l0 : Nat) (l2 : Int32) (l3 : Int32) (l4 : Int32) (h : aH), k10 l0 l2 l3 l4 h = some (r, h') → Ev p l e { frames := 1, cells := mc, slots := ms, locals := 22 } s m args below meth c D B0 X ws0 r h' mc ms 5 mc ms 10 [some (.ref l0), none, some (.int l2), some (.int l3), some (.int l4)] [] h) {l0 : Nat} {l2 : Int32} {l3 : Int32} {l4 : Int32} {h : aH} (hs : s_J7_fill_fda19_10_b  k10 l0 l2 l3 l4 h = some (r, h')) : Ev p l e { frames := 1, cells := mc, slots := ms, locals := 22 } s m args below meth c D B0 X ws0 r h' mc ms 5 mc ms 10 [some (.ref l0), none, some (.int l2), some (.int l3), some (.int l4)] [] h := by
  unfold s_J7_fill_fda19_10_b at hs
  refine ev_iload C rfl dJ7_fill_fda19_10 ?_
  refine ev_iload_n C rfl dJ7_fill_fda19_12 ?_
  refine ev_icmp_ge C (tgt := 27) (by decide) dJ7_fill_fda19_13 (fun q13 => ?_) (fun q13 => ?_)
  · replace hs := (if_pos q13).symm.trans hs
    cases hs
    exact ev_vret C rfl rfl (Nat.le_refl _) (Nat.le_refl _) rfl dJ7_fill_fda19_27
  · replace hs := (if_neg q13).symm.trans hs
    refine ev_aload_n C (x := .ref l0) rfl trivial dJ7_fill_fda19_16 ?_
    refine ev_iload C rfl dJ7_fill_fda19_17 ?_
    refine ev_iload_n C rfl dJ7_fill_fda19_19 ?_
    obtain ⟨h20, e20, hs⟩ := aB hs
    refine ev_iast C e20 dJ7_fill_fda19_20 ?_
    refine ev_iinc C (i := 4) (n := 1) (x := l4) (v := l4 + 1) rfl (congrArg (fun z => l4 + z) (show Int32.ofInt 1 = 1 by decide)) (by decide) dJ7_fill_fda19_21 ?_
    refine ev_goto C (tgt := 10) (by decide) dJ7_fill_fda19_24 ?_
    exact (K10 _ _ _ _ _ hs)
theorem t_J7_fill_fda19_10 (C : Cx p l s m args meth c B0 X RJ7 "fill" cJ7_fill_fda19 5 none [])   : ∀ (n : Nat) {l0 : Nat} {l2 : Int32} {l3 : Int32} {l4 : Int32} {h : aH} (hs : s_J7_fill_fda19_10  n l0 l2 l3 l4 h = some (r, h')), Ev p l e { frames := 1, cells := mc, slots := ms, locals := 22 } s m args below meth c D B0 X ws0 r h' mc ms 5 mc ms 10 [some (.ref l0), none, some (.int l2), some (.int l3), some (.int l4)] [] h
  | 0, _, _, _, _, _, hs => nomatch hs
  | n + 1, _, _, _, _, _, hs => t_J7_fill_fda19_10_b C  (k10 := s_J7_fill_fda19_10  n) (fun _ _ _ _ _ hs => t_J7_fill_fda19_10 C  n hs) hs
theorem hy_J7_fill_fda19 : yJ7_fill_fda19.cls ≠ "java/lang/invoke/MethodHandle" ∧ yJ7_fill_fda19.cls ≠ "java/lang/invoke/VarHandle" ∧ (parseMethodDescriptor yJ7_fill_fda19.desc).map (fun d => d.parameters.length) = some 4 := by decide +kernel
theorem T_J7_fill_fda19 (a1 : Nat) (a2 : Int32) (a3 : Int32) (a4 : Int32) (h : aH) (r : aR) (h' : aH) (hs : s_J7_fill_fda19 a1 a2 a3 a4 h = some (r, h')) : Mt yJ7_fill_fda19 (Cond.code yJ7_fill_fda19 cJ7_fill_fda19 5 none :: aTB) 1 22 0 0 [.ref a1, .int a2, .int a3, .int a4] h r h' := by
  unfold s_J7_fill_fda19 at hs
  refine Mt_of (k := 1) (by decide) rfl (fun p l e s m args below meth c D B0 X ws0 C => ?_)
  show Ev p l e { frames := 1, cells := 0, slots := 0, locals := 22 } s m args below meth c D B0 X ws0 r h' 0 0 5 0 0 0 [some (.ref a1), some (.int a2), some (.int a3), some (.int a4), none] [] h
  refine ev_aload_n C (x := .ref a1) rfl trivial dJ7_fill_fda19_0 ?_
  obtain ⟨x1, e1, hs⟩ := aB hs
  refine ev_alen C e1 dJ7_fill_fda19_1 ?_
  refine ev_iload_n C rfl dJ7_fill_fda19_2 ?_
  refine ev_iload_n C rfl dJ7_fill_fda19_3 ?_
  obtain ⟨h4, e4, hs⟩ := cN_at hs
  refine ev_callS C (T_J7_rangeCheck_23922 _ _ _ _ _ _ e4) wc_J7_rangeCheck_23922 wm_J7_13 wt_J7_rangeCheck_23922 wz_J7 hy_J7_rangeCheck_23922 ⟨(Nat.le_of_ble_eq_true rfl), (Nat.le_of_ble_eq_true rfl)⟩ ⟨(Nat.le_refl _), (Nat.le_refl _)⟩ (Nat.le_of_ble_eq_true rfl) rfl dJ7_fill_fda19_4 ?_
  refine ev_iload_n C rfl dJ7_fill_fda19_7 ?_
  refine ev_istore C (by decide) dJ7_fill_fda19_8 ?_
  exact Ev.keep [true, false, true, true, true] (t_J7_fill_fda19_10 C  FU hs)
end
-- X3_mark
theorem dX3_mark_0 : decode cX3_mark 0 = .ok (.iload_n 3, 1) := by decide +kernel
theorem dX3_mark_1 : decode cX3_mark 1 = .ok (.ifCond .ge 13, 3) := by decide +kernel
theorem dX3_mark_4 : decode cX3_mark 4 = .ok (.aload_n 0, 1) := by decide +kernel
theorem dX3_mark_5 : decode cX3_mark 5 = .ok (.getfield 21, 3) := by decide +kernel
theorem dX3_mark_8 : decode cX3_mark 8 = .ok (.getfield 29, 3) := by decide +kernel
theorem dX3_mark_11 : decode cX3_mark 11 = .ok (.goto 4, 3) := by decide +kernel
theorem dX3_mark_14 : decode cX3_mark 14 = .ok (.iload_n 3, 1) := by decide +kernel
theorem dX3_mark_15 : decode cX3_mark 15 = .ok (.istore 4, 2) := by decide +kernel
theorem dX3_mark_17 : decode cX3_mark 17 = .ok (.aload_n 1, 1) := by decide +kernel
theorem dX3_mark_18 : decode cX3_mark 18 = .ok (.iload_n 2, 1) := by decide +kernel
theorem dX3_mark_19 : decode cX3_mark 19 = .ok (.aload_n 0, 1) := by decide +kernel
theorem dX3_mark_20 : decode cX3_mark 20 = .ok (.getfield 35, 3) := by decide +kernel
theorem dX3_mark_23 : decode cX3_mark 23 = .ok (.imul, 1) := by decide +kernel
theorem dX3_mark_24 : decode cX3_mark 24 = .ok (.iload 4, 2) := by decide +kernel
theorem dX3_mark_26 : decode cX3_mark 26 = .ok (.iconst 5, 1) := by decide +kernel
theorem dX3_mark_27 : decode cX3_mark 27 = .ok (.ishr, 1) := by decide +kernel
theorem dX3_mark_28 : decode cX3_mark 28 = .ok (.iadd, 1) := by decide +kernel
theorem dX3_mark_29 : decode cX3_mark 29 = .ok (.dup2, 1) := by decide +kernel
theorem dX3_mark_30 : decode cX3_mark 30 = .ok (.iaload, 1) := by decide +kernel
theorem dX3_mark_31 : decode cX3_mark 31 = .ok (.iconst 1, 1) := by decide +kernel
theorem dX3_mark_32 : decode cX3_mark 32 = .ok (.iload 4, 2) := by decide +kernel
theorem dX3_mark_34 : decode cX3_mark 34 = .ok (.bipush 31, 2) := by decide +kernel
theorem dX3_mark_36 : decode cX3_mark 36 = .ok (.iand, 1) := by decide +kernel
theorem dX3_mark_37 : decode cX3_mark 37 = .ok (.ishl, 1) := by decide +kernel
theorem dX3_mark_38 : decode cX3_mark 38 = .ok (.ior, 1) := by decide +kernel
theorem dX3_mark_39 : decode cX3_mark 39 = .ok (.iastore, 1) := by decide +kernel
theorem dX3_mark_40 : decode cX3_mark 40 = .ok (.return_, 1) := by decide +kernel
def s_X3_mark_15  (l0 : Nat) (l1 : Nat) (l2 : Int32) (s0 : Int32) (h : aH) : aO :=
  (gI h (.ref l0) 3 3).bind fun x20 => (ldI .int h (.ref l1) ((l2 * x20) + (s0 >>> (5 &&& 31)))).bind fun x30 => (stI h (.ref l1) ((l2 * x20) + (s0 >>> (5 &&& 31))) (x30 ||| (1 <<< ((s0 &&& 31) &&& 31)))).bind fun h39 => some (.inl none, h39)
def s_X3_mark (o : Nat) (a1 : Nat) (a2 : Int32) (a3 : Int32) (h : aH) : aO :=
  if 0 ≤ a3 then (s_X3_mark_15 o a1 a2 a3 h) else ((gO h (.ref o) 3 0).bind fun x5 => (gI h (.ref x5) 2 12).bind fun x8 => s_X3_mark_15 o a1 a2 x8 h)
section
variable {p : Program} {l : Launch} {e : Env} {s : State} {m : MethodId} {args : Array Value} {below : List Frame} {meth : Method} {c : Code} {D : va_G} {B0 : Nat} {X : Nat → Nat} {ws0 : va_W} {r : aR} {h' : aH} {mc ms : Nat}
theorem t_X3_mark_15 (C : Cx p l s m args meth c B0 X RX3 "mark" cX3_mark 5 none [])   {l0 : Nat} {l1 : Nat} {l2 : Int32} {s0 : Int32} {h : aH} (hs : s_X3_mark_15  l0 l1 l2 s0 h = some (r, h')) : Ev p l e { frames := 0, cells := mc, slots := ms, locals := 0 } s m args below meth c D B0 X ws0 r h' mc ms 5 mc ms 15 [some (.ref l0), some (.ref l1), some (.int l2), none, none] [.int s0] h := by
  unfold s_X3_mark_15 at hs
  refine ev_istore C (by decide) dX3_mark_15 ?_
  refine ev_aload_n C (x := .ref l1) rfl trivial dX3_mark_17 ?_
  refine ev_iload_n C rfl dX3_mark_18 ?_
  refine ev_aload_n C (x := .ref l0) rfl trivial dX3_mark_19 ?_
  obtain ⟨x20, e20, hs⟩ := aB hs
  refine ev_get C (ci := 3) (k := 3) rfl wu_3 (by decide) wf_X3_35 (gI_F e20) dX3_mark_20 ?_
  refine ev_imul C dX3_mark_23 ?_
  refine ev_iload C rfl dX3_mark_24 ?_
  refine ev_iconst C (v := 5) dX3_mark_26 (by decide) ?_
  refine ev_ishr C dX3_mark_27 ?_
  refine ev_iadd C dX3_mark_28 ?_
  refine ev_dup2 C rfl rfl dX3_mark_29 ?_
  obtain ⟨x30, e30, hs⟩ := aB hs
  refine ev_iald C e30 dX3_mark_30 ?_
  refine ev_iconst C (v := 1) dX3_mark_31 (by decide) ?_
  refine ev_iload C rfl dX3_mark_32 ?_
  refine ev_bipush C (v := 31) dX3_mark_34 (by decide) ?_
  refine ev_iand C dX3_mark_36 ?_
  refine ev_ishl C dX3_mark_37 ?_
  refine ev_ior C dX3_mark_38 ?_
  obtain ⟨h39, e39, hs⟩ := aB hs
  refine ev_iast C e39 dX3_mark_39 ?_
  cases hs
  exact ev_vret C rfl rfl (Nat.le_refl _) (Nat.le_refl _) rfl dX3_mark_40
theorem hy_X3_mark : yX3_mark.cls ≠ "java/lang/invoke/MethodHandle" ∧ yX3_mark.cls ≠ "java/lang/invoke/VarHandle" ∧ (parseMethodDescriptor yX3_mark.desc).map (fun d => d.parameters.length) = some 3 := by decide +kernel
theorem T_X3_mark (o : Nat) (a1 : Nat) (a2 : Int32) (a3 : Int32) (h : aH) (r : aR) (h' : aH) (hs : s_X3_mark o a1 a2 a3 h = some (r, h')) : Mt yX3_mark (Cond.code yX3_mark cX3_mark 5 none :: aTB) 0 0 0 0 [.ref o, .ref a1, .int a2, .int a3] h r h' := by
  unfold s_X3_mark at hs
  refine Mt_of (k := 1) (by decide) rfl (fun p l e s m args below meth c D B0 X ws0 C => ?_)
  show Ev p l e { frames := 0, cells := 0, slots := 0, locals := 0 } s m args below meth c D B0 X ws0 r h' 0 0 5 0 0 0 [some (.ref o), some (.ref a1), some (.int a2), some (.int a3), none] [] h
  refine ev_iload_n C rfl dX3_mark_0 ?_
  refine ev_if_ge C (tgt := 14) (by decide) dX3_mark_1 (fun q1 => ?_) (fun q1 => ?_)
  · replace hs := (if_pos q1).symm.trans hs
    refine ev_iload_n C rfl dX3_mark_14 ?_
    exact Ev.keep [true, true, true, false, true] (t_X3_mark_15 C  hs)
  · replace hs := (if_neg q1).symm.trans hs
    refine ev_aload_n C (x := .ref o) rfl trivial dX3_mark_4 ?_
    obtain ⟨x5, e5, hs⟩ := aB hs
    refine ev_get C (ci := 3) (k := 0) rfl wu_3 (by decide) wf_X3_21 (gO_F e5) dX3_mark_5 ?_
    obtain ⟨x8, e8, hs⟩ := aB hs
    refine ev_getN C (ci := 2) (k := 12) rfl wu_2 (by decide) wg_X3_29 (gI_F e8) dX3_mark_8 ?_
    refine ev_goto C (tgt := 15) (by decide) dX3_mark_11 ?_
    exact Ev.keep [true, true, true, false, true] (t_X3_mark_15 C  hs)
end
-- X3_fillCells
theorem dX3_fillCells_0 : decode cX3_fillCells 0 = .ok (.iconst 0, 1) := by decide +kernel
theorem dX3_fillCells_1 : decode cX3_fillCells 1 = .ok (.istore_n 3, 1) := by decide +kernel
theorem dX3_fillCells_2 : decode cX3_fillCells 2 = .ok (.iload_n 3, 1) := by decide +kernel
theorem dX3_fillCells_3 : decode cX3_fillCells 3 = .ok (.aload_n 0, 1) := by decide +kernel
theorem dX3_fillCells_4 : decode cX3_fillCells 4 = .ok (.getfield 21, 3) := by decide +kernel
theorem dX3_fillCells_7 : decode cX3_fillCells 7 = .ok (.getfield 29, 3) := by decide +kernel
theorem dX3_fillCells_10 : decode cX3_fillCells 10 = .ok (.if_icmp .ge 80, 3) := by decide +kernel
theorem dX3_fillCells_13 : decode cX3_fillCells 13 = .ok (.aload_n 0, 1) := by decide +kernel
theorem dX3_fillCells_14 : decode cX3_fillCells 14 = .ok (.getfield 21, 3) := by decide +kernel
theorem dX3_fillCells_17 : decode cX3_fillCells 17 = .ok (.iconst 0, 1) := by decide +kernel
theorem dX3_fillCells_18 : decode cX3_fillCells 18 = .ok (.iload_n 3, 1) := by decide +kernel
theorem dX3_fillCells_19 : decode cX3_fillCells 19 = .ok (.iconst 0, 1) := by decide +kernel
theorem dX3_fillCells_20 : decode cX3_fillCells 20 = .ok (.aload_n 0, 1) := by decide +kernel
theorem dX3_fillCells_21 : decode cX3_fillCells 21 = .ok (.getfield 9, 3) := by decide +kernel
theorem dX3_fillCells_24 : decode cX3_fillCells 24 = .ok (.invokevirtual 58, 3) := by decide +kernel
theorem dX3_fillCells_27 : decode cX3_fillCells 27 = .ok (.aload_n 0, 1) := by decide +kernel
theorem dX3_fillCells_28 : decode cX3_fillCells 28 = .ok (.getfield 21, 3) := by decide +kernel
theorem dX3_fillCells_31 : decode cX3_fillCells 31 = .ok (.aload_n 0, 1) := by decide +kernel
theorem dX3_fillCells_32 : decode cX3_fillCells 32 = .ok (.getfield 9, 3) := by decide +kernel
theorem dX3_fillCells_35 : decode cX3_fillCells 35 = .ok (.invokevirtual 66, 3) := by decide +kernel
theorem dX3_fillCells_38 : decode cX3_fillCells 38 = .ok (.istore 4, 2) := by decide +kernel
theorem dX3_fillCells_40 : decode cX3_fillCells 40 = .ok (.iload_n 3, 1) := by decide +kernel
theorem dX3_fillCells_41 : decode cX3_fillCells 41 = .ok (.aload_n 0, 1) := by decide +kernel
theorem dX3_fillCells_42 : decode cX3_fillCells 42 = .ok (.getfield 21, 3) := by decide +kernel
theorem dX3_fillCells_45 : decode cX3_fillCells 45 = .ok (.getfield 38, 3) := by decide +kernel
theorem dX3_fillCells_48 : decode cX3_fillCells 48 = .ok (.imul, 1) := by decide +kernel
theorem dX3_fillCells_49 : decode cX3_fillCells 49 = .ok (.iload_n 1, 1) := by decide +kernel
theorem dX3_fillCells_50 : decode cX3_fillCells 50 = .ok (.iadd, 1) := by decide +kernel
theorem dX3_fillCells_51 : decode cX3_fillCells 51 = .ok (.istore 5, 2) := by decide +kernel
theorem dX3_fillCells_53 : decode cX3_fillCells 53 = .ok (.aload_n 0, 1) := by decide +kernel
theorem dX3_fillCells_54 : decode cX3_fillCells 54 = .ok (.getfield 15, 3) := by decide +kernel
theorem dX3_fillCells_57 : decode cX3_fillCells 57 = .ok (.iload 5, 2) := by decide +kernel
theorem dX3_fillCells_59 : decode cX3_fillCells 59 = .ok (.aload_n 0, 1) := by decide +kernel
theorem dX3_fillCells_60 : decode cX3_fillCells 60 = .ok (.getfield 21, 3) := by decide +kernel
theorem dX3_fillCells_63 : decode cX3_fillCells 63 = .ok (.getfield 41, 3) := by decide +kernel
theorem dX3_fillCells_66 : decode cX3_fillCells 66 = .ok (.imul, 1) := by decide +kernel
theorem dX3_fillCells_67 : decode cX3_fillCells 67 = .ok (.iload_n 2, 1) := by decide +kernel
theorem dX3_fillCells_68 : decode cX3_fillCells 68 = .ok (.iadd, 1) := by decide +kernel
theorem dX3_fillCells_69 : decode cX3_fillCells 69 = .ok (.iload 4, 2) := by decide +kernel
theorem dX3_fillCells_71 : decode cX3_fillCells 71 = .ok (.iastore, 1) := by decide +kernel
theorem dX3_fillCells_72 : decode cX3_fillCells 72 = .ok (.aload_n 0, 1) := by decide +kernel
theorem dX3_fillCells_73 : decode cX3_fillCells 73 = .ok (.aload_n 0, 1) := by decide +kernel
theorem dX3_fillCells_74 : decode cX3_fillCells 74 = .ok (.getfield 18, 3) := by decide +kernel
theorem dX3_fillCells_77 : decode cX3_fillCells 77 = .ok (.iload 5, 2) := by decide +kernel
theorem dX3_fillCells_79 : decode cX3_fillCells 79 = .ok (.iload 4, 2) := by decide +kernel
theorem dX3_fillCells_81 : decode cX3_fillCells 81 = .ok (.invokevirtual 70, 3) := by decide +kernel
theorem dX3_fillCells_84 : decode cX3_fillCells 84 = .ok (.iinc 3 1, 3) := by decide +kernel
theorem dX3_fillCells_87 : decode cX3_fillCells 87 = .ok (.goto (-85), 3) := by decide +kernel
theorem dX3_fillCells_90 : decode cX3_fillCells 90 = .ok (.return_, 1) := by decide +kernel
def s_X3_fillCells_2_b  (k2 : Nat → Int32 → Int32 → Int32 → aH → aO) (l0 : Nat) (l1 : Int32) (l2 : Int32) (l3 : Int32) (h : aH) : aO :=
  (gO h (.ref l0) 3 0).bind fun x4 => (gI h (.ref x4) 2 12).bind fun x7 => if x7 ≤ l3 then (some (.inl none, h)) else ((gO h (.ref l0) 3 0).bind fun x14 => (gO h (.ref l0) 3 1).bind fun x21 => kO h x14 2 (cN (s_X2_spread x14 0 l3 0 x21 h) fun h24 => (gO h24 (.ref l0) 3 0).bind fun x28 => (gO h24 (.ref l0) 3 1).bind fun x32 => kO h24 x28 2 (cI (s_X2_lead x28 x32 h24) fun x35 h35 => (gO h35 (.ref l0) 3 0).bind fun x42 => (gI h35 (.ref x42) 2 13).bind fun x45 => (gO h35 (.ref l0) 3 4).bind fun x54 => (gO h35 (.ref l0) 3 0).bind fun x60 => (gI h35 (.ref x60) 2 14).bind fun x63 => (stI h35 (.ref x54) ((((l3 * x45) + l1) * x63) + l2) x35).bind fun h71 => (gO h71 (.ref l0) 3 5).bind fun x74 => kO h71 l0 3 (cN (s_X3_mark l0 x74 ((l3 * x45) + l1) x35 h71) fun h81 => k2 l0 l1 l2 (l3 + 1) h81))))
def s_X3_fillCells_2  (n : Nat) : Nat → Int32 → Int32 → Int32 → aH → aO := lpF (fun _ _ _ _ _ => none) (s_X3_fillCells_2_b ) n
def s_X3_fillCells (o : Nat) (a1 : Int32) (a2 : Int32) (h : aH) : aO :=
  s_X3_fillCells_2 FU o a1 a2 0 h
section
variable {p : Program} {l : Launch} {e : Env} {s : State} {m : MethodId} {args : Array Value} {below : List Frame} {meth : Method} {c : Code} {D : va_G} {B0 : Nat} {X : Nat → Nat} {ws0 : va_W} {r : aR} {h' : aH} {mc ms : Nat}
theorem t_X3_fillCells_2_b (C : Cx p l s m args meth c B0 X RX3 "fillCells" cX3_fillCells 6 none [])   {k2 : Nat → Int32 → Int32 → Int32 → aH → aO} (K2 : ∀ (l0 : Nat) (l1 : Int32) (l2 : Int32) (l3 : Int32) (h : aH), k2 l0 l1 l2 l3 h = some (r, h') → Ev p l e { frames := 4, cells := mc, slots := ms, locals := 102 } s m args below meth c D B0 X ws0 r h' mc ms 6 mc ms 2 [some (.ref l0), some (.int l1), some (.int l2), some (.int l3), none, none] [] h) {l0 : Nat} {l1 : Int32} {l2 : Int32} {l3 : Int32} {h : aH} (hs : s_X3_fillCells_2_b  k2 l0 l1 l2 l3 h = some (r, h')) : Ev p l e { frames := 4, cells := mc, slots := ms, locals := 102 } s m args below meth c D B0 X ws0 r h' mc ms 6 mc ms 2 [some (.ref l0), some (.int l1), some (.int l2), some (.int l3), none, none] [] h := by
  unfold s_X3_fillCells_2_b at hs
  refine ev_iload_n C rfl dX3_fillCells_2 ?_
  refine ev_aload_n C (x := .ref l0) rfl trivial dX3_fillCells_3 ?_
  obtain ⟨x4, e4, hs⟩ := aB hs
  refine ev_get C (ci := 3) (k := 0) rfl wu_3 (by decide) wf_X3_21 (gO_F e4) dX3_fillCells_4 ?_
  obtain ⟨x7, e7, hs⟩ := aB hs
  refine ev_getN C (ci := 2) (k := 12) rfl wu_2 (by decide) wg_X3_29 (gI_F e7) dX3_fillCells_7 ?_
  refine ev_icmp_ge C (tgt := 90) (by decide) dX3_fillCells_10 (fun q10 => ?_) (fun q10 => ?_)
  · replace hs := (if_pos q10).symm.trans hs
    cases hs
    exact ev_vret C rfl rfl (Nat.le_refl _) (Nat.le_refl _) rfl dX3_fillCells_90
  · replace hs := (if_neg q10).symm.trans hs
    refine ev_aload_n C (x := .ref l0) rfl trivial dX3_fillCells_13 ?_
    obtain ⟨x14, e14, hs⟩ := aB hs
    refine ev_get C (ci := 3) (k := 0) rfl wu_3 (by decide) wf_X3_21 (gO_F e14) dX3_fillCells_14 ?_
    refine ev_iconst C (v := 0) dX3_fillCells_17 (by decide) ?_
    refine ev_iload_n C rfl dX3_fillCells_18 ?_
    refine ev_iconst C (v := 0) dX3_fillCells_19 (by decide) ?_
    refine ev_aload_n C (x := .ref l0) rfl trivial dX3_fillCells_20 ?_
    obtain ⟨x21, e21, hs⟩ := aB hs
    refine ev_get C (ci := 3) (k := 1) rfl wu_3 (by decide) wf_X3_9 (gO_F e21) dX3_fillCells_21 ?_
    obtain ⟨eo24, hs⟩ := kO_at hs
    obtain ⟨h24, e24, hs⟩ := cN_at hs
    refine ev_callVN C (T_X2_spread _ _ _ _ _ _ _ _ e24) (ci := 2) rfl eo24 wc_X2_spread wn_X3_58 wi_X2_spread ws_X2_spread wz_X2 hy_X2_spread ⟨(Nat.le_of_ble_eq_true rfl), (Nat.le_of_ble_eq_true rfl)⟩ ⟨(Nat.le_refl _), (Nat.le_refl _)⟩ (Nat.le_of_ble_eq_true rfl) rfl dX3_fillCells_24 ?_
    refine ev_aload_n C (x := .ref l0) rfl trivial dX3_fillCells_27 ?_
    obtain ⟨x28, e28, hs⟩ := aB hs
    refine ev_get C (ci := 3) (k := 0) rfl wu_3 (by decide) wf_X3_21 (gO_F e28) dX3_fillCells_28 ?_
    refine ev_aload_n C (x := .ref l0) rfl trivial dX3_fillCells_31 ?_
    obtain ⟨x32, e32, hs⟩ := aB hs
    refine ev_get C (ci := 3) (k := 1) rfl wu_3 (by decide) wf_X3_9 (gO_F e32) dX3_fillCells_32 ?_
    obtain ⟨eo35, hs⟩ := kO_at hs
    obtain ⟨x35, h35, e35, hs⟩ := cI_at hs
    refine ev_callVN C (T_X2_lead _ _ _ _ _ e35) (ci := 2) rfl eo35 wc_X2_lead wn_X3_66 wi_X2_lead ws_X2_lead wz_X2 hy_X2_lead ⟨(Nat.le_of_ble_eq_true rfl), (Nat.le_of_ble_eq_true rfl)⟩ ⟨(Nat.le_refl _), (Nat.le_refl _)⟩ (Nat.le_of_ble_eq_true rfl) rfl dX3_fillCells_35 ?_
    refine ev_istore C (by decide) dX3_fillCells_38 ?_
    refine ev_iload_n C rfl dX3_fillCells_40 ?_
    refine ev_aload_n C (x := .ref l0) rfl trivial dX3_fillCells_41 ?_
    obtain ⟨x42, e42, hs⟩ := aB hs
    refine ev_get C (ci := 3) (k := 0) rfl wu_3 (by decide) wf_X3_21 (gO_F e42) dX3_fillCells_42 ?_
    obtain ⟨x45, e45, hs⟩ := aB hs
    refine ev_getN C (ci := 2) (k := 13) rfl wu_2 (by decide) wg_X3_38 (gI_F e45) dX3_fillCells_45 ?_
    refine ev_imul C dX3_fillCells_48 ?_
    refine ev_iload_n C rfl dX3_fillCells_49 ?_
    refine ev_iadd C dX3_fillCells_50 ?_
    refine ev_istore C (by decide) dX3_fillCells_51 ?_
    refine ev_aload_n C (x := .ref l0) rfl trivial dX3_fillCells_53 ?_
    obtain ⟨x54, e54, hs⟩ := aB hs
    refine ev_get C (ci := 3) (k := 4) rfl wu_3 (by decide) wf_X3_15 (gO_F e54) dX3_fillCells_54 ?_
    refine ev_iload C rfl dX3_fillCells_57 ?_
    refine ev_aload_n C (x := .ref l0) rfl trivial dX3_fillCells_59 ?_
    obtain ⟨x60, e60, hs⟩ := aB hs
    refine ev_get C (ci := 3) (k := 0) rfl wu_3 (by decide) wf_X3_21 (gO_F e60) dX3_fillCells_60 ?_
    obtain ⟨x63, e63, hs⟩ := aB hs
    refine ev_getN C (ci := 2) (k := 14) rfl wu_2 (by decide) wg_X3_41 (gI_F e63) dX3_fillCells_63 ?_
    refine ev_imul C dX3_fillCells_66 ?_
    refine ev_iload_n C rfl dX3_fillCells_67 ?_
    refine ev_iadd C dX3_fillCells_68 ?_
    refine ev_iload C rfl dX3_fillCells_69 ?_
    obtain ⟨h71, e71, hs⟩ := aB hs
    refine ev_iast C e71 dX3_fillCells_71 ?_
    refine ev_aload_n C (x := .ref l0) rfl trivial dX3_fillCells_72 ?_
    refine ev_aload_n C (x := .ref l0) rfl trivial dX3_fillCells_73 ?_
    obtain ⟨x74, e74, hs⟩ := aB hs
    refine ev_get C (ci := 3) (k := 5) rfl wu_3 (by decide) wf_X3_18 (gO_F e74) dX3_fillCells_74 ?_
    refine ev_iload C rfl dX3_fillCells_77 ?_
    refine ev_iload C rfl dX3_fillCells_79 ?_
    obtain ⟨eo81, hs⟩ := kO_at hs
    obtain ⟨h81, e81, hs⟩ := cN_at hs
    refine ev_callV C (T_X3_mark _ _ _ _ _ _ _ e81) (ci := 3) rfl eo81 wc_X3_mark wm_X3_70 wi_X3_mark ws_X3_mark wz_X3 hy_X3_mark ⟨(Nat.le_of_ble_eq_true rfl), (Nat.le_of_ble_eq_true rfl)⟩ ⟨(Nat.le_refl _), (Nat.le_refl _)⟩ (Nat.le_of_ble_eq_true rfl) rfl dX3_fillCells_81 ?_
    refine ev_iinc C (i := 3) (n := 1) (x := l3) (v := l3 + 1) rfl (congrArg (fun z => l3 + z) (show Int32.ofInt 1 = 1 by decide)) (by decide) dX3_fillCells_84 ?_
    refine ev_goto C (tgt := 2) (by decide) dX3_fillCells_87 ?_
    exact Ev.keep [true, true, true, true, false, false] (K2 _ _ _ _ _ hs)
theorem t_X3_fillCells_2 (C : Cx p l s m args meth c B0 X RX3 "fillCells" cX3_fillCells 6 none [])   : ∀ (n : Nat) {l0 : Nat} {l1 : Int32} {l2 : Int32} {l3 : Int32} {h : aH} (hs : s_X3_fillCells_2  n l0 l1 l2 l3 h = some (r, h')), Ev p l e { frames := 4, cells := mc, slots := ms, locals := 102 } s m args below meth c D B0 X ws0 r h' mc ms 6 mc ms 2 [some (.ref l0), some (.int l1), some (.int l2), some (.int l3), none, none] [] h
  | 0, _, _, _, _, _, hs => nomatch hs
  | n + 1, _, _, _, _, _, hs => t_X3_fillCells_2_b C  (k2 := s_X3_fillCells_2  n) (fun _ _ _ _ _ hs => t_X3_fillCells_2 C  n hs) hs
theorem hy_X3_fillCells : yX3_fillCells.cls ≠ "java/lang/invoke/MethodHandle" ∧ yX3_fillCells.cls ≠ "java/lang/invoke/VarHandle" ∧ (parseMethodDescriptor yX3_fillCells.desc).map (fun d => d.parameters.length) = some 2 := by decide +kernel
theorem T_X3_fillCells (o : Nat) (a1 : Int32) (a2 : Int32) (h : aH) (r : aR) (h' : aH) (hs : s_X3_fillCells o a1 a2 h = some (r, h')) : Mt yX3_fillCells (Cond.code yX3_fillCells cX3_fillCells 6 none :: aTB) 4 102 0 0 [.ref o, .int a1, .int a2] h r h' := by
  unfold s_X3_fillCells at hs
  refine Mt_of (k := 3) (by decide) rfl (fun p l e s m args below meth c D B0 X ws0 C => ?_)
  show Ev p l e { frames := 4, cells := 0, slots := 0, locals := 102 } s m args below meth c D B0 X ws0 r h' 0 0 6 0 0 0 [some (.ref o), some (.int a1), some (.int a2), none, none, none] [] h
  refine ev_iconst C (v := 0) dX3_fillCells_0 (by decide) ?_
  refine ev_istore_n C (by decide) dX3_fillCells_1 ?_
  exact (t_X3_fillCells_2 C  FU hs)
end
-- X3_fill
theorem dX3_fill_0 : decode cX3_fill 0 = .ok (.aload_n 0, 1) := by decide +kernel
theorem dX3_fill_1 : decode cX3_fill 1 = .ok (.getfield 25, 3) := by decide +kernel
theorem dX3_fill_4 : decode cX3_fill 4 = .ok (.ifCond .eq 4, 3) := by decide +kernel
theorem dX3_fill_7 : decode cX3_fill 7 = .ok (.return_, 1) := by decide +kernel
theorem dX3_fill_8 : decode cX3_fill 8 = .ok (.aload_n 0, 1) := by decide +kernel
theorem dX3_fill_9 : decode cX3_fill 9 = .ok (.iconst 1, 1) := by decide +kernel
theorem dX3_fill_10 : decode cX3_fill 10 = .ok (.putfield 25, 3) := by decide +kernel
theorem dX3_fill_13 : decode cX3_fill 13 = .ok (.aload_n 0, 1) := by decide +kernel
theorem dX3_fill_14 : decode cX3_fill 14 = .ok (.getfield 21, 3) := by decide +kernel
theorem dX3_fill_17 : decode cX3_fill 17 = .ok (.getfield 29, 3) := by decide +kernel
theorem dX3_fill_20 : decode cX3_fill 20 = .ok (.aload_n 0, 1) := by decide +kernel
theorem dX3_fill_21 : decode cX3_fill 21 = .ok (.getfield 21, 3) := by decide +kernel
theorem dX3_fill_24 : decode cX3_fill 24 = .ok (.getfield 38, 3) := by decide +kernel
theorem dX3_fill_27 : decode cX3_fill 27 = .ok (.imul, 1) := by decide +kernel
theorem dX3_fill_28 : decode cX3_fill 28 = .ok (.istore_n 1, 1) := by decide +kernel
theorem dX3_fill_29 : decode cX3_fill 29 = .ok (.aload_n 0, 1) := by decide +kernel
theorem dX3_fill_30 : decode cX3_fill 30 = .ok (.aload_n 0, 1) := by decide +kernel
theorem dX3_fill_31 : decode cX3_fill 31 = .ok (.getfield 15, 3) := by decide +kernel
theorem dX3_fill_34 : decode cX3_fill 34 = .ok (.iload_n 1, 1) := by decide +kernel
theorem dX3_fill_35 : decode cX3_fill 35 = .ok (.aload_n 0, 1) := by decide +kernel
theorem dX3_fill_36 : decode cX3_fill 36 = .ok (.getfield 21, 3) := by decide +kernel
theorem dX3_fill_39 : decode cX3_fill 39 = .ok (.getfield 41, 3) := by decide +kernel
theorem dX3_fill_42 : decode cX3_fill 42 = .ok (.imul, 1) := by decide +kernel
theorem dX3_fill_43 : decode cX3_fill 43 = .ok (.invokestatic 44, 3) := by decide +kernel
theorem dX3_fill_46 : decode cX3_fill 46 = .ok (.putfield 15, 3) := by decide +kernel
theorem dX3_fill_49 : decode cX3_fill 49 = .ok (.aload_n 0, 1) := by decide +kernel
theorem dX3_fill_50 : decode cX3_fill 50 = .ok (.aload_n 0, 1) := by decide +kernel
theorem dX3_fill_51 : decode cX3_fill 51 = .ok (.getfield 18, 3) := by decide +kernel
theorem dX3_fill_54 : decode cX3_fill 54 = .ok (.iload_n 1, 1) := by decide +kernel
theorem dX3_fill_55 : decode cX3_fill 55 = .ok (.aload_n 0, 1) := by decide +kernel
theorem dX3_fill_56 : decode cX3_fill 56 = .ok (.getfield 35, 3) := by decide +kernel
theorem dX3_fill_59 : decode cX3_fill 59 = .ok (.imul, 1) := by decide +kernel
theorem dX3_fill_60 : decode cX3_fill 60 = .ok (.invokestatic 44, 3) := by decide +kernel
theorem dX3_fill_63 : decode cX3_fill 63 = .ok (.putfield 18, 3) := by decide +kernel
theorem dX3_fill_66 : decode cX3_fill 66 = .ok (.aload_n 0, 1) := by decide +kernel
theorem dX3_fill_67 : decode cX3_fill 67 = .ok (.getfield 18, 3) := by decide +kernel
theorem dX3_fill_70 : decode cX3_fill 70 = .ok (.iconst 0, 1) := by decide +kernel
theorem dX3_fill_71 : decode cX3_fill 71 = .ok (.iload_n 1, 1) := by decide +kernel
theorem dX3_fill_72 : decode cX3_fill 72 = .ok (.aload_n 0, 1) := by decide +kernel
theorem dX3_fill_73 : decode cX3_fill 73 = .ok (.getfield 35, 3) := by decide +kernel
theorem dX3_fill_76 : decode cX3_fill 76 = .ok (.imul, 1) := by decide +kernel
theorem dX3_fill_77 : decode cX3_fill 77 = .ok (.iconst 0, 1) := by decide +kernel
theorem dX3_fill_78 : decode cX3_fill 78 = .ok (.invokestatic 48, 3) := by decide +kernel
theorem dX3_fill_81 : decode cX3_fill 81 = .ok (.iconst 0, 1) := by decide +kernel
theorem dX3_fill_82 : decode cX3_fill 82 = .ok (.istore_n 2, 1) := by decide +kernel
theorem dX3_fill_83 : decode cX3_fill 83 = .ok (.iload_n 2, 1) := by decide +kernel
theorem dX3_fill_84 : decode cX3_fill 84 = .ok (.aload_n 0, 1) := by decide +kernel
theorem dX3_fill_85 : decode cX3_fill 85 = .ok (.getfield 21, 3) := by decide +kernel
theorem dX3_fill_88 : decode cX3_fill 88 = .ok (.getfield 41, 3) := by decide +kernel
theorem dX3_fill_91 : decode cX3_fill 91 = .ok (.if_icmp .ge 61, 3) := by decide +kernel
theorem dX3_fill_94 : decode cX3_fill 94 = .ok (.aload_n 0, 1) := by decide +kernel
theorem dX3_fill_95 : decode cX3_fill 95 = .ok (.getfield 21, 3) := by decide +kernel
theorem dX3_fill_98 : decode cX3_fill 98 = .ok (.iload_n 2, 1) := by decide +kernel
theorem dX3_fill_99 : decode cX3_fill 99 = .ok (.iconst 0, 1) := by decide +kernel
theorem dX3_fill_100 : decode cX3_fill 100 = .ok (.aload_n 0, 1) := by decide +kernel
theorem dX3_fill_101 : decode cX3_fill 101 = .ok (.getfield 9, 3) := by decide +kernel
theorem dX3_fill_104 : decode cX3_fill 104 = .ok (.invokevirtual 54, 3) := by decide +kernel
theorem dX3_fill_107 : decode cX3_fill 107 = .ok (.iconst 0, 1) := by decide +kernel
theorem dX3_fill_108 : decode cX3_fill 108 = .ok (.istore_n 3, 1) := by decide +kernel
theorem dX3_fill_109 : decode cX3_fill 109 = .ok (.iload_n 3, 1) := by decide +kernel
theorem dX3_fill_110 : decode cX3_fill 110 = .ok (.aload_n 0, 1) := by decide +kernel
theorem dX3_fill_111 : decode cX3_fill 111 = .ok (.getfield 21, 3) := by decide +kernel
theorem dX3_fill_114 : decode cX3_fill 114 = .ok (.getfield 38, 3) := by decide +kernel
theorem dX3_fill_117 : decode cX3_fill 117 = .ok (.if_icmp .ge 29, 3) := by decide +kernel
theorem dX3_fill_120 : decode cX3_fill 120 = .ok (.aload_n 0, 1) := by decide +kernel
theorem dX3_fill_121 : decode cX3_fill 121 = .ok (.getfield 21, 3) := by decide +kernel
theorem dX3_fill_124 : decode cX3_fill 124 = .ok (.iconst 1, 1) := by decide +kernel
theorem dX3_fill_125 : decode cX3_fill 125 = .ok (.iload_n 3, 1) := by decide +kernel
theorem dX3_fill_126 : decode cX3_fill 126 = .ok (.iconst 0, 1) := by decide +kernel
theorem dX3_fill_127 : decode cX3_fill 127 = .ok (.aload_n 0, 1) := by decide +kernel
theorem dX3_fill_128 : decode cX3_fill 128 = .ok (.getfield 9, 3) := by decide +kernel
theorem dX3_fill_131 : decode cX3_fill 131 = .ok (.invokevirtual 58, 3) := by decide +kernel
theorem dX3_fill_134 : decode cX3_fill 134 = .ok (.aload_n 0, 1) := by decide +kernel
theorem dX3_fill_135 : decode cX3_fill 135 = .ok (.iload_n 3, 1) := by decide +kernel
theorem dX3_fill_136 : decode cX3_fill 136 = .ok (.iload_n 2, 1) := by decide +kernel
theorem dX3_fill_137 : decode cX3_fill 137 = .ok (.invokevirtual 62, 3) := by decide +kernel
theorem dX3_fill_140 : decode cX3_fill 140 = .ok (.iinc 3 1, 3) := by decide +kernel
theorem dX3_fill_143 : decode cX3_fill 143 = .ok (.goto (-34), 3) := by decide +kernel
theorem dX3_fill_146 : decode cX3_fill 146 = .ok (.iinc 2 1, 3) := by decide +kernel
theorem dX3_fill_149 : decode cX3_fill 149 = .ok (.goto (-66), 3) := by decide +kernel
theorem dX3_fill_152 : decode cX3_fill 152 = .ok (.return_, 1) := by decide +kernel
def s_X3_fill_109_b (k83 : Nat → Int32 → aH → aO) (k109 : Nat → Int32 → Int32 → aH → aO) (l0 : Nat) (l2 : Int32) (l3 : Int32) (h : aH) : aO :=
  (gO h (.ref l0) 3 0).bind fun x111 => (gI h (.ref x111) 2 13).bind fun x114 => if x114 ≤ l3 then (k83 l0 (l2 + 1) h) else ((gO h (.ref l0) 3 0).bind fun x121 => (gO h (.ref l0) 3 1).bind fun x128 => kO h x121 2 (cN (s_X2_spread x121 1 l3 0 x128 h) fun h131 => kO h131 l0 3 (cN (s_X3_fillCells l0 l3 l2 h131) fun h137 => k109 l0 l2 (l3 + 1) h137)))
def s_X3_fill_109 (k83 : Nat → Int32 → aH → aO) (n : Nat) : Nat → Int32 → Int32 → aH → aO := lpF (fun _ _ _ _ => none) (s_X3_fill_109_b k83) n
def s_X3_fill_83_b  (k83 : Nat → Int32 → aH → aO) (l0 : Nat) (l2 : Int32) (h : aH) : aO :=
  (gO h (.ref l0) 3 0).bind fun x85 => (gI h (.ref x85) 2 14).bind fun x88 => if x88 ≤ l2 then (some (.inl none, h)) else ((gO h (.ref l0) 3 0).bind fun x95 => (gO h (.ref l0) 3 1).bind fun x101 => kO h x95 2 (cN (s_X2_spreadWorld x95 l2 0 x101 h) fun h104 => s_X3_fill_109 k83 FU l0 l2 0 h104))
def s_X3_fill_83  (n : Nat) : Nat → Int32 → aH → aO := lpF (fun _ _ _ => none) (s_X3_fill_83_b ) n
def s_X3_fill (o : Nat) (h : aH) : aP :=
  (gI h (.ref o) 3 2).bind fun x1 => if x1 = 0 then ((pZ h (.ref o) 3 2 1).bind fun h10 => (gO h10 (.ref o) 3 0).bind fun x14 => (gI h10 (.ref x14) 2 12).bind fun x17 => (gO h10 (.ref o) 3 0).bind fun x21 => (gI h10 (.ref x21) 2 13).bind fun x24 => (gO h10 (.ref o) 3 4).bind fun x31 => (gO h10 (.ref o) 3 0).bind fun x36 => (gI h10 (.ref x36) 2 14).bind fun x39 => dR (s_X11_longEnough x31 ((x17 * x24) * x39) h10) fun x43 h43 n43 y43 => ck (0 + n43) (0 + y43) ((pF h43 (.ref o) 3 4 (.ref x43)).bind fun h46 => (gO h46 (.ref o) 3 5).bind fun x51 => (gI h46 (.ref o) 3 3).bind fun x56 => dR (s_X11_longEnough x51 ((x17 * x24) * x56) h46) fun x60 h60 n60 y60 => ck (0 + n43 + n60) (0 + y43 + y60) (wC (0 + n43 + n60) (0 + y43 + y60) ((pF h60 (.ref o) 3 5 (.ref x60)).bind fun h63 => (gO h63 (.ref o) 3 5).bind fun x67 => (gI h63 (.ref o) 3 3).bind fun x73 => cN (s_J7_fill_fda19 x67 0 ((x17 * x24) * x73) 0 h63) fun h78 => s_X3_fill_83 FU o 0 h78)))) else (wC 0 0 (some (.inl none, h)))
section
variable {p : Program} {l : Launch} {e : Env} {s : State} {m : MethodId} {args : Array Value} {below : List Frame} {meth : Method} {c : Code} {D : va_G} {B0 : Nat} {X : Nat → Nat} {ws0 : va_W} {r : aR} {h' : aH} {mc ms : Nat}
theorem t_X3_fill_109_b (C : Cx p l s m args meth c B0 X RX3 "fill" cX3_fill 4 none []) {k83 : Nat → Int32 → aH → aO} (K83 : ∀ (l0 : Nat) (l2 : Int32) (h : aH), k83 l0 l2 h = some (r, h') → Ev p l e { frames := 5, cells := mc, slots := ms, locals := 127 } s m args below meth c D B0 X ws0 r h' mc ms 4 mc ms 83 [some (.ref l0), none, some (.int l2), none] [] h) {k109 : Nat → Int32 → Int32 → aH → aO} (K109 : ∀ (l0 : Nat) (l2 : Int32) (l3 : Int32) (h : aH), k109 l0 l2 l3 h = some (r, h') → Ev p l e { frames := 5, cells := mc, slots := ms, locals := 127 } s m args below meth c D B0 X ws0 r h' mc ms 4 mc ms 109 [some (.ref l0), none, some (.int l2), some (.int l3)] [] h) {l0 : Nat} {l2 : Int32} {l3 : Int32} {h : aH} (hs : s_X3_fill_109_b k83 k109 l0 l2 l3 h = some (r, h')) : Ev p l e { frames := 5, cells := mc, slots := ms, locals := 127 } s m args below meth c D B0 X ws0 r h' mc ms 4 mc ms 109 [some (.ref l0), none, some (.int l2), some (.int l3)] [] h := by
  unfold s_X3_fill_109_b at hs
  refine ev_iload_n C rfl dX3_fill_109 ?_
  refine ev_aload_n C (x := .ref l0) rfl trivial dX3_fill_110 ?_
  obtain ⟨x111, e111, hs⟩ := aB hs
  refine ev_get C (ci := 3) (k := 0) rfl wu_3 (by decide) wf_X3_21 (gO_F e111) dX3_fill_111 ?_
  obtain ⟨x114, e114, hs⟩ := aB hs
  refine ev_getN C (ci := 2) (k := 13) rfl wu_2 (by decide) wg_X3_38 (gI_F e114) dX3_fill_114 ?_
  refine ev_icmp_ge C (tgt := 146) (by decide) dX3_fill_117 (fun q117 => ?_) (fun q117 => ?_)
  · replace hs := (if_pos q117).symm.trans hs
    refine ev_iinc C (i := 2) (n := 1) (x := l2) (v := l2 + 1) rfl (congrArg (fun z => l2 + z) (show Int32.ofInt 1 = 1 by decide)) (by decide) dX3_fill_146 ?_
    refine ev_goto C (tgt := 83) (by decide) dX3_fill_149 ?_
    exact Ev.keep [true, true, true, false] (K83 _ _ _ hs)
  · replace hs := (if_neg q117).symm.trans hs
    refine ev_aload_n C (x := .ref l0) rfl trivial dX3_fill_120 ?_
    obtain ⟨x121, e121, hs⟩ := aB hs
    refine ev_get C (ci := 3) (k := 0) rfl wu_3 (by decide) wf_X3_21 (gO_F e121) dX3_fill_121 ?_
    refine ev_iconst C (v := 1) dX3_fill_124 (by decide) ?_
    refine ev_iload_n C rfl dX3_fill_125 ?_
    refine ev_iconst C (v := 0) dX3_fill_126 (by decide) ?_
    refine ev_aload_n C (x := .ref l0) rfl trivial dX3_fill_127 ?_
    obtain ⟨x128, e128, hs⟩ := aB hs
    refine ev_get C (ci := 3) (k := 1) rfl wu_3 (by decide) wf_X3_9 (gO_F e128) dX3_fill_128 ?_
    obtain ⟨eo131, hs⟩ := kO_at hs
    obtain ⟨h131, e131, hs⟩ := cN_at hs
    refine ev_callVN C (T_X2_spread _ _ _ _ _ _ _ _ e131) (ci := 2) rfl eo131 wc_X2_spread wn_X3_58 wi_X2_spread ws_X2_spread wz_X2 hy_X2_spread ⟨(Nat.le_of_ble_eq_true rfl), (Nat.le_of_ble_eq_true rfl)⟩ ⟨(Nat.le_refl _), (Nat.le_refl _)⟩ (Nat.le_of_ble_eq_true rfl) rfl dX3_fill_131 ?_
    refine ev_aload_n C (x := .ref l0) rfl trivial dX3_fill_134 ?_
    refine ev_iload_n C rfl dX3_fill_135 ?_
    refine ev_iload_n C rfl dX3_fill_136 ?_
    obtain ⟨eo137, hs⟩ := kO_at hs
    obtain ⟨h137, e137, hs⟩ := cN_at hs
    refine ev_callV C (T_X3_fillCells _ _ _ _ _ _ e137) (ci := 3) rfl eo137 wc_X3_fillCells wm_X3_62 wi_X3_fillCells ws_X3_fillCells wz_X3 hy_X3_fillCells ⟨(Nat.le_of_ble_eq_true rfl), (Nat.le_of_ble_eq_true rfl)⟩ ⟨(Nat.le_refl _), (Nat.le_refl _)⟩ (Nat.le_of_ble_eq_true rfl) rfl dX3_fill_137 ?_
    refine ev_iinc C (i := 3) (n := 1) (x := l3) (v := l3 + 1) rfl (congrArg (fun z => l3 + z) (show Int32.ofInt 1 = 1 by decide)) (by decide) dX3_fill_140 ?_
    refine ev_goto C (tgt := 109) (by decide) dX3_fill_143 ?_
    exact (K109 _ _ _ _ hs)
theorem t_X3_fill_109 (C : Cx p l s m args meth c B0 X RX3 "fill" cX3_fill 4 none []) {k83 : Nat → Int32 → aH → aO} (K83 : ∀ (l0 : Nat) (l2 : Int32) (h : aH), k83 l0 l2 h = some (r, h') → Ev p l e { frames := 5, cells := mc, slots := ms, locals := 127 } s m args below meth c D B0 X ws0 r h' mc ms 4 mc ms 83 [some (.ref l0), none, some (.int l2), none] [] h) : ∀ (n : Nat) {l0 : Nat} {l2 : Int32} {l3 : Int32} {h : aH} (hs : s_X3_fill_109 k83 n l0 l2 l3 h = some (r, h')), Ev p l e { frames := 5, cells := mc, slots := ms, locals := 127 } s m args below meth c D B0 X ws0 r h' mc ms 4 mc ms 109 [some (.ref l0), none, some (.int l2), some (.int l3)] [] h
  | 0, _, _, _, _, hs => nomatch hs
  | n + 1, _, _, _, _, hs => t_X3_fill_109_b C K83 (k109 := s_X3_fill_109 k83 n) (fun _ _ _ _ hs => t_X3_fill_109 C K83 n hs) hs
theorem t_X3_fill_83_b (C : Cx p l s m args meth c B0 X RX3 "fill" cX3_fill 4 none [])   {k83 : Nat → Int32 → aH → aO} (K83 : ∀ (l0 : Nat) (l2 : Int32) (h : aH), k83 l0 l2 h = some (r, h') → Ev p l e { frames := 5, cells := mc, slots := ms, locals := 127 } s m args below meth c D B0 X ws0 r h' mc ms 4 mc ms 83 [some (.ref l0), none, some (.int l2), none] [] h) {l0 : Nat} {l2 : Int32} {h : aH} (hs : s_X3_fill_83_b  k83 l0 l2 h = some (r, h')) : Ev p l e { frames := 5, cells := mc, slots := ms, locals := 127 } s m args below meth c D B0 X ws0 r h' mc ms 4 mc ms 83 [some (.ref l0), none, some (.int l2), none] [] h := by
  unfold s_X3_fill_83_b at hs
  refine ev_iload_n C rfl dX3_fill_83 ?_
  refine ev_aload_n C (x := .ref l0) rfl trivial dX3_fill_84 ?_
  obtain ⟨x85, e85, hs⟩ := aB hs
  refine ev_get C (ci := 3) (k := 0) rfl wu_3 (by decide) wf_X3_21 (gO_F e85) dX3_fill_85 ?_
  obtain ⟨x88, e88, hs⟩ := aB hs
  refine ev_getN C (ci := 2) (k := 14) rfl wu_2 (by decide) wg_X3_41 (gI_F e88) dX3_fill_88 ?_
  refine ev_icmp_ge C (tgt := 152) (by decide) dX3_fill_91 (fun q91 => ?_) (fun q91 => ?_)
  · replace hs := (if_pos q91).symm.trans hs
    cases hs
    exact ev_vret C rfl rfl (Nat.le_refl _) (Nat.le_refl _) rfl dX3_fill_152
  · replace hs := (if_neg q91).symm.trans hs
    refine ev_aload_n C (x := .ref l0) rfl trivial dX3_fill_94 ?_
    obtain ⟨x95, e95, hs⟩ := aB hs
    refine ev_get C (ci := 3) (k := 0) rfl wu_3 (by decide) wf_X3_21 (gO_F e95) dX3_fill_95 ?_
    refine ev_iload_n C rfl dX3_fill_98 ?_
    refine ev_iconst C (v := 0) dX3_fill_99 (by decide) ?_
    refine ev_aload_n C (x := .ref l0) rfl trivial dX3_fill_100 ?_
    obtain ⟨x101, e101, hs⟩ := aB hs
    refine ev_get C (ci := 3) (k := 1) rfl wu_3 (by decide) wf_X3_9 (gO_F e101) dX3_fill_101 ?_
    obtain ⟨eo104, hs⟩ := kO_at hs
    obtain ⟨h104, e104, hs⟩ := cN_at hs
    refine ev_callVN C (T_X2_spreadWorld _ _ _ _ _ _ _ e104) (ci := 2) rfl eo104 wc_X2_spreadWorld wn_X3_54 wi_X2_spreadWorld ws_X2_spreadWorld wz_X2 hy_X2_spreadWorld ⟨(Nat.le_of_ble_eq_true rfl), (Nat.le_of_ble_eq_true rfl)⟩ ⟨(Nat.le_refl _), (Nat.le_refl _)⟩ (Nat.le_of_ble_eq_true rfl) rfl dX3_fill_104 ?_
    refine ev_iconst C (v := 0) dX3_fill_107 (by decide) ?_
    refine ev_istore_n C (by decide) dX3_fill_108 ?_
    exact (t_X3_fill_109 C K83 FU hs)
theorem t_X3_fill_83 (C : Cx p l s m args meth c B0 X RX3 "fill" cX3_fill 4 none [])   : ∀ (n : Nat) {l0 : Nat} {l2 : Int32} {h : aH} (hs : s_X3_fill_83  n l0 l2 h = some (r, h')), Ev p l e { frames := 5, cells := mc, slots := ms, locals := 127 } s m args below meth c D B0 X ws0 r h' mc ms 4 mc ms 83 [some (.ref l0), none, some (.int l2), none] [] h
  | 0, _, _, _, hs => nomatch hs
  | n + 1, _, _, _, hs => t_X3_fill_83_b C  (k83 := s_X3_fill_83  n) (fun _ _ _ hs => t_X3_fill_83 C  n hs) hs
theorem hy_X3_fill : yX3_fill.cls ≠ "java/lang/invoke/MethodHandle" ∧ yX3_fill.cls ≠ "java/lang/invoke/VarHandle" ∧ (parseMethodDescriptor yX3_fill.desc).map (fun d => d.parameters.length) = some 0 := by decide +kernel
theorem T_X3_fill (o : Nat) (h : aH) (r : aR) (h' : aH) (mc ms : Nat) (hs : s_X3_fill o h = some (r, h', mc, ms)) : Mt yX3_fill (Cond.code yX3_fill cX3_fill 4 none :: aTB) 5 127 mc ms [.ref o] h r h' := by
  unfold s_X3_fill at hs
  refine Mt_of (k := 3) (by decide) rfl (fun p l e s m args below meth c D B0 X ws0 C => ?_)
  show Ev p l e { frames := 5, cells := mc, slots := ms, locals := 127 } s m args below meth c D B0 X ws0 r h' mc ms 4 0 0 0 [some (.ref o), none, none, none] [] h
  refine ev_aload_n C (x := .ref o) rfl trivial dX3_fill_0 ?_
  obtain ⟨x1, e1, hs⟩ := aB hs
  refine ev_get C (ci := 3) (k := 2) rfl wu_3 (by decide) wf_X3_25 (gI_F e1) dX3_fill_1 ?_
  refine ev_if_eq C (tgt := 8) (by decide) dX3_fill_4 (fun q4 => ?_) (fun q4 => ?_)
  · replace hs := (if_pos q4).symm.trans hs
    refine ev_aload_n C (x := .ref o) rfl trivial dX3_fill_8 ?_
    refine ev_iconst C (v := 1) dX3_fill_9 (by decide) ?_
    obtain ⟨h10, e10, hs⟩ := aB hs
    refine ev_put C (ci := 3) (k := 2) rfl wu_3 (by decide) tyX3 tyX3_ok nmX3 wf_X3_25 rfl (pZ_F e10).2 (pZ_F e10).1 dX3_fill_10 ?_
    refine ev_aload_n C (x := .ref o) rfl trivial dX3_fill_13 ?_
    obtain ⟨x14, e14, hs⟩ := aB hs
    refine ev_get C (ci := 3) (k := 0) rfl wu_3 (by decide) wf_X3_21 (gO_F e14) dX3_fill_14 ?_
    obtain ⟨x17, e17, hs⟩ := aB hs
    refine ev_getN C (ci := 2) (k := 12) rfl wu_2 (by decide) wg_X3_29 (gI_F e17) dX3_fill_17 ?_
    refine ev_aload_n C (x := .ref o) rfl trivial dX3_fill_20 ?_
    obtain ⟨x21, e21, hs⟩ := aB hs
    refine ev_get C (ci := 3) (k := 0) rfl wu_3 (by decide) wf_X3_21 (gO_F e21) dX3_fill_21 ?_
    obtain ⟨x24, e24, hs⟩ := aB hs
    refine ev_getN C (ci := 2) (k := 13) rfl wu_2 (by decide) wg_X3_38 (gI_F e24) dX3_fill_24 ?_
    refine ev_imul C dX3_fill_27 ?_
    refine ev_istore_n C (by decide) dX3_fill_28 ?_
    refine ev_aload_n C (x := .ref o) rfl trivial dX3_fill_29 ?_
    refine ev_aload_n C (x := .ref o) rfl trivial dX3_fill_30 ?_
    obtain ⟨x31, e31, hs⟩ := aB hs
    refine ev_get C (ci := 3) (k := 4) rfl wu_3 (by decide) wf_X3_15 (gO_F e31) dX3_fill_31 ?_
    refine ev_iload_n C rfl dX3_fill_34 ?_
    refine ev_aload_n C (x := .ref o) rfl trivial dX3_fill_35 ?_
    obtain ⟨x36, e36, hs⟩ := aB hs
    refine ev_get C (ci := 3) (k := 0) rfl wu_3 (by decide) wf_X3_21 (gO_F e36) dX3_fill_36 ?_
    obtain ⟨x39, e39, hs⟩ := aB hs
    refine ev_getN C (ci := 2) (k := 14) rfl wu_2 (by decide) wg_X3_41 (gI_F e39) dX3_fill_39 ?_
    refine ev_imul C dX3_fill_42 ?_
    obtain ⟨x43, h43, n43, y43, e43, hs⟩ := dR_at hs
    obtain ⟨c43, z43, hs⟩ := ck_at hs
    refine ev_callSN C (T_X11_longEnough _ _ _ _ _ _ _ e43) wc_X11_longEnough wn_X3_44 wt_X11_longEnough wz_X11 hy_X11_longEnough ⟨(Nat.le_of_ble_eq_true rfl), (Nat.le_of_ble_eq_true rfl)⟩ ⟨c43, z43⟩ (Nat.le_of_ble_eq_true rfl) rfl dX3_fill_43 ?_
    obtain ⟨h46, e46, hs⟩ := aB hs
    refine ev_put C (ci := 3) (k := 4) rfl wu_3 (by decide) tyX3 tyX3_ok nmX3 wf_X3_15 rfl trivial e46 dX3_fill_46 ?_
    refine ev_aload_n C (x := .ref o) rfl trivial dX3_fill_49 ?_
    refine ev_aload_n C (x := .ref o) rfl trivial dX3_fill_50 ?_
    obtain ⟨x51, e51, hs⟩ := aB hs
    refine ev_get C (ci := 3) (k := 5) rfl wu_3 (by decide) wf_X3_18 (gO_F e51) dX3_fill_51 ?_
    refine ev_iload_n C rfl dX3_fill_54 ?_
    refine ev_aload_n C (x := .ref o) rfl trivial dX3_fill_55 ?_
    obtain ⟨x56, e56, hs⟩ := aB hs
    refine ev_get C (ci := 3) (k := 3) rfl wu_3 (by decide) wf_X3_35 (gI_F e56) dX3_fill_56 ?_
    refine ev_imul C dX3_fill_59 ?_
    obtain ⟨x60, h60, n60, y60, e60, hs⟩ := dR_at hs
    obtain ⟨c60, z60, hs⟩ := ck_at hs
    refine ev_callSN C (T_X11_longEnough _ _ _ _ _ _ _ e60) wc_X11_longEnough wn_X3_44 wt_X11_longEnough wz_X11 hy_X11_longEnough ⟨(Nat.le_of_ble_eq_true rfl), (Nat.le_of_ble_eq_true rfl)⟩ ⟨c60, z60⟩ (Nat.le_of_ble_eq_true rfl) rfl dX3_fill_60 ?_
    obtain ⟨hw9, rfl, rfl⟩ := wC_at hs
    have hs := hw9
    obtain ⟨h63, e63, hs⟩ := aB hs
    refine ev_put C (ci := 3) (k := 5) rfl wu_3 (by decide) tyX3 tyX3_ok nmX3 wf_X3_18 rfl trivial e63 dX3_fill_63 ?_
    refine ev_aload_n C (x := .ref o) rfl trivial dX3_fill_66 ?_
    obtain ⟨x67, e67, hs⟩ := aB hs
    refine ev_get C (ci := 3) (k := 5) rfl wu_3 (by decide) wf_X3_18 (gO_F e67) dX3_fill_67 ?_
    refine ev_iconst C (v := 0) dX3_fill_70 (by decide) ?_
    refine ev_iload_n C rfl dX3_fill_71 ?_
    refine ev_aload_n C (x := .ref o) rfl trivial dX3_fill_72 ?_
    obtain ⟨x73, e73, hs⟩ := aB hs
    refine ev_get C (ci := 3) (k := 3) rfl wu_3 (by decide) wf_X3_35 (gI_F e73) dX3_fill_73 ?_
    refine ev_imul C dX3_fill_76 ?_
    refine ev_iconst C (v := 0) dX3_fill_77 (by decide) ?_
    obtain ⟨h78, e78, hs⟩ := cN_at hs
    refine ev_callS C (T_J7_fill_fda19 _ _ _ _ _ _ _ e78) wc_J7_fill_fda19 wm_X3_48 wt_J7_fill_fda19 wz_J7 hy_J7_fill_fda19 ⟨(Nat.le_of_ble_eq_true rfl), (Nat.le_of_ble_eq_true rfl)⟩ ⟨(Nat.le_refl _), (Nat.le_refl _)⟩ (Nat.le_of_ble_eq_true rfl) rfl dX3_fill_78 ?_
    refine ev_iconst C (v := 0) dX3_fill_81 (by decide) ?_
    refine ev_istore_n C (by decide) dX3_fill_82 ?_
    exact Ev.keep [true, false, true, true] (t_X3_fill_83 C  FU hs)
  · replace hs := (if_neg q4).symm.trans hs
    obtain ⟨hw9, rfl, rfl⟩ := wC_at hs
    have hs := hw9
    cases hs
    exact ev_vret C rfl rfl (Nat.le_refl _) (Nat.le_refl _) rfl dX3_fill_7
end
-- X3_leadOf
theorem dX3_leadOf_0 : decode cX3_leadOf 0 = .ok (.aload_n 0, 1) := by decide +kernel
theorem dX3_leadOf_1 : decode cX3_leadOf 1 = .ok (.getfield 15, 3) := by decide +kernel
theorem dX3_leadOf_4 : decode cX3_leadOf 4 = .ok (.iload_n 1, 1) := by decide +kernel
theorem dX3_leadOf_5 : decode cX3_leadOf 5 = .ok (.aload_n 0, 1) := by decide +kernel
theorem dX3_leadOf_6 : decode cX3_leadOf 6 = .ok (.getfield 21, 3) := by decide +kernel
theorem dX3_leadOf_9 : decode cX3_leadOf 9 = .ok (.getfield 38, 3) := by decide +kernel
theorem dX3_leadOf_12 : decode cX3_leadOf 12 = .ok (.imul, 1) := by decide +kernel
theorem dX3_leadOf_13 : decode cX3_leadOf 13 = .ok (.iload_n 2, 1) := by decide +kernel
theorem dX3_leadOf_14 : decode cX3_leadOf 14 = .ok (.iadd, 1) := by decide +kernel
theorem dX3_leadOf_15 : decode cX3_leadOf 15 = .ok (.aload_n 0, 1) := by decide +kernel
theorem dX3_leadOf_16 : decode cX3_leadOf 16 = .ok (.getfield 21, 3) := by decide +kernel
theorem dX3_leadOf_19 : decode cX3_leadOf 19 = .ok (.getfield 41, 3) := by decide +kernel
theorem dX3_leadOf_22 : decode cX3_leadOf 22 = .ok (.imul, 1) := by decide +kernel
theorem dX3_leadOf_23 : decode cX3_leadOf 23 = .ok (.iload_n 3, 1) := by decide +kernel
theorem dX3_leadOf_24 : decode cX3_leadOf 24 = .ok (.iadd, 1) := by decide +kernel
theorem dX3_leadOf_25 : decode cX3_leadOf 25 = .ok (.iaload, 1) := by decide +kernel
theorem dX3_leadOf_26 : decode cX3_leadOf 26 = .ok (.ireturn, 1) := by decide +kernel
def s_X3_leadOf (o : Nat) (a1 : Int32) (a2 : Int32) (a3 : Int32) (h : aH) : aO :=
  (gO h (.ref o) 3 4).bind fun x1 => (gO h (.ref o) 3 0).bind fun x6 => (gI h (.ref x6) 2 13).bind fun x9 => (gO h (.ref o) 3 0).bind fun x16 => (gI h (.ref x16) 2 14).bind fun x19 => (ldI .int h (.ref x1) ((((a1 * x9) + a2) * x19) + a3)).bind fun x25 => some (.inl (some (.int x25)), h)
section
variable {p : Program} {l : Launch} {e : Env} {s : State} {m : MethodId} {args : Array Value} {below : List Frame} {meth : Method} {c : Code} {D : va_G} {B0 : Nat} {X : Nat → Nat} {ws0 : va_W} {r : aR} {h' : aH} {mc ms : Nat}
theorem hy_X3_leadOf : yX3_leadOf.cls ≠ "java/lang/invoke/MethodHandle" ∧ yX3_leadOf.cls ≠ "java/lang/invoke/VarHandle" ∧ (parseMethodDescriptor yX3_leadOf.desc).map (fun d => d.parameters.length) = some 3 := by decide +kernel
theorem T_X3_leadOf (o : Nat) (a1 : Int32) (a2 : Int32) (a3 : Int32) (h : aH) (r : aR) (h' : aH) (hs : s_X3_leadOf o a1 a2 a3 h = some (r, h')) : Mt yX3_leadOf (Cond.code yX3_leadOf cX3_leadOf 4 (some .int) :: aTB) 0 0 0 0 [.ref o, .int a1, .int a2, .int a3] h r h' := by
  unfold s_X3_leadOf at hs
  refine Mt_of (k := 0) (by decide) rfl (fun p l e s m args below meth c D B0 X ws0 C => ?_)
  show Ev p l e { frames := 0, cells := 0, slots := 0, locals := 0 } s m args below meth c D B0 X ws0 r h' 0 0 4 0 0 0 [some (.ref o), some (.int a1), some (.int a2), some (.int a3)] [] h
  refine ev_aload_n C (x := .ref o) rfl trivial dX3_leadOf_0 ?_
  obtain ⟨x1, e1, hs⟩ := aB hs
  refine ev_get C (ci := 3) (k := 4) rfl wu_3 (by decide) wf_X3_15 (gO_F e1) dX3_leadOf_1 ?_
  refine ev_iload_n C rfl dX3_leadOf_4 ?_
  refine ev_aload_n C (x := .ref o) rfl trivial dX3_leadOf_5 ?_
  obtain ⟨x6, e6, hs⟩ := aB hs
  refine ev_get C (ci := 3) (k := 0) rfl wu_3 (by decide) wf_X3_21 (gO_F e6) dX3_leadOf_6 ?_
  obtain ⟨x9, e9, hs⟩ := aB hs
  refine ev_getN C (ci := 2) (k := 13) rfl wu_2 (by decide) wg_X3_38 (gI_F e9) dX3_leadOf_9 ?_
  refine ev_imul C dX3_leadOf_12 ?_
  refine ev_iload_n C rfl dX3_leadOf_13 ?_
  refine ev_iadd C dX3_leadOf_14 ?_
  refine ev_aload_n C (x := .ref o) rfl trivial dX3_leadOf_15 ?_
  obtain ⟨x16, e16, hs⟩ := aB hs
  refine ev_get C (ci := 3) (k := 0) rfl wu_3 (by decide) wf_X3_21 (gO_F e16) dX3_leadOf_16 ?_
  obtain ⟨x19, e19, hs⟩ := aB hs
  refine ev_getN C (ci := 2) (k := 14) rfl wu_2 (by decide) wg_X3_41 (gI_F e19) dX3_leadOf_19 ?_
  refine ev_imul C dX3_leadOf_22 ?_
  refine ev_iload_n C rfl dX3_leadOf_23 ?_
  refine ev_iadd C dX3_leadOf_24 ?_
  obtain ⟨x25, e25, hs⟩ := aB hs
  refine ev_iald C e25 dX3_leadOf_25 ?_
  cases hs
  exact ev_iret C rfl rfl (Nat.le_refl _) (Nat.le_refl _) rfl dX3_leadOf_26
end
-- X4_init
theorem dX4_init_0 : decode cX4_init 0 = .ok (.aload_n 0, 1) := by decide +kernel
theorem dX4_init_1 : decode cX4_init 1 = .ok (.invokespecial 3, 3) := by decide +kernel
theorem dX4_init_4 : decode cX4_init 4 = .ok (.aload_n 0, 1) := by decide +kernel
theorem dX4_init_5 : decode cX4_init 5 = .ok (.iconst (-1), 1) := by decide +kernel
theorem dX4_init_6 : decode cX4_init 6 = .ok (.putfield 9, 3) := by decide +kernel
theorem dX4_init_9 : decode cX4_init 9 = .ok (.aload_n 0, 1) := by decide +kernel
theorem dX4_init_10 : decode cX4_init 10 = .ok (.iconst 0, 1) := by decide +kernel
theorem dX4_init_11 : decode cX4_init 11 = .ok (.newarray .int, 2) := by decide +kernel
theorem dX4_init_13 : decode cX4_init 13 = .ok (.putfield 15, 3) := by decide +kernel
theorem dX4_init_16 : decode cX4_init 16 = .ok (.aload_n 0, 1) := by decide +kernel
theorem dX4_init_17 : decode cX4_init 17 = .ok (.iconst 0, 1) := by decide +kernel
theorem dX4_init_18 : decode cX4_init 18 = .ok (.newarray .int, 2) := by decide +kernel
theorem dX4_init_20 : decode cX4_init 20 = .ok (.putfield 19, 3) := by decide +kernel
theorem dX4_init_23 : decode cX4_init 23 = .ok (.aload_n 0, 1) := by decide +kernel
theorem dX4_init_24 : decode cX4_init 24 = .ok (.aload_n 1, 1) := by decide +kernel
theorem dX4_init_25 : decode cX4_init 25 = .ok (.putfield 22, 3) := by decide +kernel
theorem dX4_init_28 : decode cX4_init 28 = .ok (.aload_n 0, 1) := by decide +kernel
theorem dX4_init_29 : decode cX4_init 29 = .ok (.aload_n 2, 1) := by decide +kernel
theorem dX4_init_30 : decode cX4_init 30 = .ok (.putfield 26, 3) := by decide +kernel
theorem dX4_init_33 : decode cX4_init 33 = .ok (.aload_n 0, 1) := by decide +kernel
theorem dX4_init_34 : decode cX4_init 34 = .ok (.aload_n 3, 1) := by decide +kernel
theorem dX4_init_35 : decode cX4_init 35 = .ok (.putfield 30, 3) := by decide +kernel
theorem dX4_init_38 : decode cX4_init 38 = .ok (.return_, 1) := by decide +kernel
def s_X4_init (o : Nat) (a1 : Nat) (a2 : Nat) (a3 : Nat) (h : aH) : aP :=
  (pF h (.ref o) 4 3 (.int (-1))).bind fun h6 => bP (nwA .int h6 0) fun o11 h11 => ck (0 + 1) (0 + Int32.toNatClampNeg 0) ((pF h11 (.ref o) 4 4 (.ref o11)).bind fun h13 => bP (nwA .int h13 0) fun o18 h18 => ck (0 + 1 + 1) (0 + Int32.toNatClampNeg 0 + Int32.toNatClampNeg 0) (wC (0 + 1 + 1) (0 + Int32.toNatClampNeg 0 + Int32.toNatClampNeg 0) ((pF h18 (.ref o) 4 5 (.ref o18)).bind fun h20 => (pF h20 (.ref o) 4 0 (.ref a1)).bind fun h25 => (pF h25 (.ref o) 4 1 (.ref a2)).bind fun h30 => (pF h30 (.ref o) 4 2 (.ref a3)).bind fun h35 => some (.inl none, h35))))
section
variable {p : Program} {l : Launch} {e : Env} {s : State} {m : MethodId} {args : Array Value} {below : List Frame} {meth : Method} {c : Code} {D : va_G} {B0 : Nat} {X : Nat → Nat} {ws0 : va_W} {r : aR} {h' : aH} {mc ms : Nat}
theorem hy_X4_init : yX4_init.cls ≠ "java/lang/invoke/MethodHandle" ∧ yX4_init.cls ≠ "java/lang/invoke/VarHandle" ∧ (parseMethodDescriptor yX4_init.desc).map (fun d => d.parameters.length) = some 3 := by decide +kernel
theorem T_X4_init (o : Nat) (a1 : Nat) (a2 : Nat) (a3 : Nat) (h : aH) (r : aR) (h' : aH) (mc ms : Nat) (hs : s_X4_init o a1 a2 a3 h = some (r, h', mc, ms)) : Mt yX4_init (Cond.code yX4_init cX4_init 4 none :: aTB) 1 20 mc ms [.ref o, .ref a1, .ref a2, .ref a3] h r h' := by
  unfold s_X4_init at hs
  refine Mt_of (k := 0) (by decide) rfl (fun p l e s m args below meth c D B0 X ws0 C => ?_)
  show Ev p l e { frames := 1, cells := mc, slots := ms, locals := 20 } s m args below meth c D B0 X ws0 r h' mc ms 4 0 0 0 [some (.ref o), some (.ref a1), some (.ref a2), some (.ref a3)] [] h
  refine ev_aload_n C (x := .ref o) rfl trivial dX4_init_0 ?_
  refine ev_objInit C wm_X4_3 wi_oinit wc_oinit (Nat.le_of_ble_eq_true rfl) (Nat.le_of_ble_eq_true rfl) dX4_init_1 ?_
  refine ev_aload_n C (x := .ref o) rfl trivial dX4_init_4 ?_
  refine ev_iconst C (v := (-1)) dX4_init_5 (by decide) ?_
  obtain ⟨h6, e6, hs⟩ := aB hs
  refine ev_put C (ci := 4) (k := 3) rfl wu_4 (by decide) tyX4 tyX4_ok nmX4 wf_X4_9 rfl trivial e6 dX4_init_6 ?_
  refine ev_aload_n C (x := .ref o) rfl trivial dX4_init_9 ?_
  refine ev_iconst C (v := 0) dX4_init_10 (by decide) ?_
  obtain ⟨o11, h11, e11, hs⟩ := bP_at hs
  obtain ⟨c11, z11, hs⟩ := ck_at hs
  refine ev_newa C (atype := .int) (ty := .int) rfl wa_int (fun _ _ => rfl) e11 c11 z11 dX4_init_11 ?_
  obtain ⟨h13, e13, hs⟩ := aB hs
  refine ev_put C (ci := 4) (k := 4) rfl wu_4 (by decide) tyX4 tyX4_ok nmX4 wf_X4_15 rfl trivial e13 dX4_init_13 ?_
  refine ev_aload_n C (x := .ref o) rfl trivial dX4_init_16 ?_
  refine ev_iconst C (v := 0) dX4_init_17 (by decide) ?_
  obtain ⟨o18, h18, e18, hs⟩ := bP_at hs
  obtain ⟨c18, z18, hs⟩ := ck_at hs
  refine ev_newa C (atype := .int) (ty := .int) rfl wa_int (fun _ _ => rfl) e18 c18 z18 dX4_init_18 ?_
  obtain ⟨hw9, rfl, rfl⟩ := wC_at hs
  have hs := hw9
  obtain ⟨h20, e20, hs⟩ := aB hs
  refine ev_put C (ci := 4) (k := 5) rfl wu_4 (by decide) tyX4 tyX4_ok nmX4 wf_X4_19 rfl trivial e20 dX4_init_20 ?_
  refine ev_aload_n C (x := .ref o) rfl trivial dX4_init_23 ?_
  refine ev_aload_n C (x := .ref a1) rfl trivial dX4_init_24 ?_
  obtain ⟨h25, e25, hs⟩ := aB hs
  refine ev_putF C (ci := 4) (k := 0) rfl wu_4 (by decide) tyX4 tyX4_ok nmX4 wf_X4_22 rfl rfl rfl trivial e25 dX4_init_25 ?_
  refine ev_aload_n C (x := .ref o) rfl trivial dX4_init_28 ?_
  refine ev_aload_n C (x := .ref a2) rfl trivial dX4_init_29 ?_
  obtain ⟨h30, e30, hs⟩ := aB hs
  refine ev_putF C (ci := 4) (k := 1) rfl wu_4 (by decide) tyX4 tyX4_ok nmX4 wf_X4_26 rfl rfl rfl trivial e30 dX4_init_30 ?_
  refine ev_aload_n C (x := .ref o) rfl trivial dX4_init_33 ?_
  refine ev_aload_n C (x := .ref a3) rfl trivial dX4_init_34 ?_
  obtain ⟨h35, e35, hs⟩ := aB hs
  refine ev_putF C (ci := 4) (k := 2) rfl wu_4 (by decide) tyX4 tyX4_ok nmX4 wf_X4_30 rfl rfl rfl trivial e35 dX4_init_35 ?_
  cases hs
  exact ev_vret C rfl rfl (Nat.le_refl _) (Nat.le_refl _) rfl dX4_init_38
end
-- X4_forget
theorem dX4_forget_0 : decode cX4_forget 0 = .ok (.aload_n 0, 1) := by decide +kernel
theorem dX4_forget_1 : decode cX4_forget 1 = .ok (.iconst (-1), 1) := by decide +kernel
theorem dX4_forget_2 : decode cX4_forget 2 = .ok (.putfield 9, 3) := by decide +kernel
theorem dX4_forget_5 : decode cX4_forget 5 = .ok (.return_, 1) := by decide +kernel
def s_X4_forget (o : Nat) (h : aH) : aO :=
  (pF h (.ref o) 4 3 (.int (-1))).bind fun h2 => some (.inl none, h2)
section
variable {p : Program} {l : Launch} {e : Env} {s : State} {m : MethodId} {args : Array Value} {below : List Frame} {meth : Method} {c : Code} {D : va_G} {B0 : Nat} {X : Nat → Nat} {ws0 : va_W} {r : aR} {h' : aH} {mc ms : Nat}
theorem hy_X4_forget : yX4_forget.cls ≠ "java/lang/invoke/MethodHandle" ∧ yX4_forget.cls ≠ "java/lang/invoke/VarHandle" ∧ (parseMethodDescriptor yX4_forget.desc).map (fun d => d.parameters.length) = some 0 := by decide +kernel
theorem T_X4_forget (o : Nat) (h : aH) (r : aR) (h' : aH) (hs : s_X4_forget o h = some (r, h')) : Mt yX4_forget (Cond.code yX4_forget cX4_forget 1 none :: aTB) 0 0 0 0 [.ref o] h r h' := by
  unfold s_X4_forget at hs
  refine Mt_of (k := 0) (by decide) rfl (fun p l e s m args below meth c D B0 X ws0 C => ?_)
  show Ev p l e { frames := 0, cells := 0, slots := 0, locals := 0 } s m args below meth c D B0 X ws0 r h' 0 0 1 0 0 0 [some (.ref o)] [] h
  refine ev_aload_n C (x := .ref o) rfl trivial dX4_forget_0 ?_
  refine ev_iconst C (v := (-1)) dX4_forget_1 (by decide) ?_
  obtain ⟨h2, e2, hs⟩ := aB hs
  refine ev_put C (ci := 4) (k := 3) rfl wu_4 (by decide) tyX4 tyX4_ok nmX4 wf_X4_9 rfl trivial e2 dX4_forget_2 ?_
  cases hs
  exact ev_vret C rfl rfl (Nat.le_refl _) (Nat.le_refl _) rfl dX4_forget_5
end
-- X10_isGood
theorem dX10_isGood_0 : decode cX10_isGood 0 = .ok (.aload_n 0, 1) := by decide +kernel
theorem dX10_isGood_1 : decode cX10_isGood 1 = .ok (.getfield 15, 3) := by decide +kernel
theorem dX10_isGood_4 : decode cX10_isGood 4 = .ok (.iload_n 1, 1) := by decide +kernel
theorem dX10_isGood_5 : decode cX10_isGood 5 = .ok (.iconst 5, 1) := by decide +kernel
theorem dX10_isGood_6 : decode cX10_isGood 6 = .ok (.ishr, 1) := by decide +kernel
theorem dX10_isGood_7 : decode cX10_isGood 7 = .ok (.iaload, 1) := by decide +kernel
theorem dX10_isGood_8 : decode cX10_isGood 8 = .ok (.iload_n 1, 1) := by decide +kernel
theorem dX10_isGood_9 : decode cX10_isGood 9 = .ok (.bipush 31, 2) := by decide +kernel
theorem dX10_isGood_11 : decode cX10_isGood 11 = .ok (.iand, 1) := by decide +kernel
theorem dX10_isGood_12 : decode cX10_isGood 12 = .ok (.ishr, 1) := by decide +kernel
theorem dX10_isGood_13 : decode cX10_isGood 13 = .ok (.iconst 1, 1) := by decide +kernel
theorem dX10_isGood_14 : decode cX10_isGood 14 = .ok (.iand, 1) := by decide +kernel
theorem dX10_isGood_15 : decode cX10_isGood 15 = .ok (.ifCond .eq 7, 3) := by decide +kernel
theorem dX10_isGood_18 : decode cX10_isGood 18 = .ok (.iconst 1, 1) := by decide +kernel
theorem dX10_isGood_19 : decode cX10_isGood 19 = .ok (.goto 4, 3) := by decide +kernel
theorem dX10_isGood_22 : decode cX10_isGood 22 = .ok (.iconst 0, 1) := by decide +kernel
theorem dX10_isGood_23 : decode cX10_isGood 23 = .ok (.ireturn, 1) := by decide +kernel
def s_X10_isGood (o : Nat) (a1 : Int32) (h : aH) : aO :=
  (gO h (.ref o) 10 4).bind fun x1 => (ldI .int h (.ref x1) (a1 >>> (5 &&& 31))).bind fun x7 => if ((x7 >>> ((a1 &&& 31) &&& 31)) &&& 1) = 0 then (rtZ 0 h) else (rtZ 1 h)
section
variable {p : Program} {l : Launch} {e : Env} {s : State} {m : MethodId} {args : Array Value} {below : List Frame} {meth : Method} {c : Code} {D : va_G} {B0 : Nat} {X : Nat → Nat} {ws0 : va_W} {r : aR} {h' : aH} {mc ms : Nat}
theorem hy_X10_isGood : yX10_isGood.cls ≠ "java/lang/invoke/MethodHandle" ∧ yX10_isGood.cls ≠ "java/lang/invoke/VarHandle" ∧ (parseMethodDescriptor yX10_isGood.desc).map (fun d => d.parameters.length) = some 1 := by decide +kernel
theorem T_X10_isGood (o : Nat) (a1 : Int32) (h : aH) (r : aR) (h' : aH) (hs : s_X10_isGood o a1 h = some (r, h')) : Mt yX10_isGood (Cond.code yX10_isGood cX10_isGood 2 (some .boolean) :: aTB) 0 0 0 0 [.ref o, .int a1] h r h' := by
  unfold s_X10_isGood at hs
  refine Mt_of (k := 0) (by decide) rfl (fun p l e s m args below meth c D B0 X ws0 C => ?_)
  show Ev p l e { frames := 0, cells := 0, slots := 0, locals := 0 } s m args below meth c D B0 X ws0 r h' 0 0 2 0 0 0 [some (.ref o), some (.int a1)] [] h
  refine ev_aload_n C (x := .ref o) rfl trivial dX10_isGood_0 ?_
  obtain ⟨x1, e1, hs⟩ := aB hs
  refine ev_get C (ci := 10) (k := 4) rfl wu_10 (by decide) wf_X10_15 (gO_F e1) dX10_isGood_1 ?_
  refine ev_iload_n C rfl dX10_isGood_4 ?_
  refine ev_iconst C (v := 5) dX10_isGood_5 (by decide) ?_
  refine ev_ishr C dX10_isGood_6 ?_
  obtain ⟨x7, e7, hs⟩ := aB hs
  refine ev_iald C e7 dX10_isGood_7 ?_
  refine ev_iload_n C rfl dX10_isGood_8 ?_
  refine ev_bipush C (v := 31) dX10_isGood_9 (by decide) ?_
  refine ev_iand C dX10_isGood_11 ?_
  refine ev_ishr C dX10_isGood_12 ?_
  refine ev_iconst C (v := 1) dX10_isGood_13 (by decide) ?_
  refine ev_iand C dX10_isGood_14 ?_
  refine ev_if_eq C (tgt := 22) (by decide) dX10_isGood_15 (fun q15 => ?_) (fun q15 => ?_)
  · replace hs := (if_pos q15).symm.trans hs
    refine ev_iconst C (v := 0) dX10_isGood_22 (by decide) ?_
    obtain ⟨hz, rfl, rfl⟩ := rtZ_at hs
    exact ev_zret C rfl hz rfl (Nat.le_refl _) (Nat.le_refl _) rfl dX10_isGood_23
  · replace hs := (if_neg q15).symm.trans hs
    refine ev_iconst C (v := 1) dX10_isGood_18 (by decide) ?_
    refine ev_goto C (tgt := 23) (by decide) dX10_isGood_19 ?_
    obtain ⟨hz, rfl, rfl⟩ := rtZ_at hs
    exact ev_zret C rfl hz rfl (Nat.le_refl _) (Nat.le_refl _) rfl dX10_isGood_23
end
-- X4_behind
theorem dX4_behind_0 : decode cX4_behind 0 = .ok (.aload_n 0, 1) := by decide +kernel
theorem dX4_behind_1 : decode cX4_behind 1 = .ok (.getfield 26, 3) := by decide +kernel
theorem dX4_behind_4 : decode cX4_behind 4 = .ok (.iload_n 1, 1) := by decide +kernel
theorem dX4_behind_5 : decode cX4_behind 5 = .ok (.iload_n 2, 1) := by decide +kernel
theorem dX4_behind_6 : decode cX4_behind 6 = .ok (.iload_n 3, 1) := by decide +kernel
theorem dX4_behind_7 : decode cX4_behind 7 = .ok (.invokevirtual 81, 3) := by decide +kernel
theorem dX4_behind_10 : decode cX4_behind 10 = .ok (.istore 5, 2) := by decide +kernel
theorem dX4_behind_12 : decode cX4_behind 12 = .ok (.iload 5, 2) := by decide +kernel
theorem dX4_behind_14 : decode cX4_behind 14 = .ok (.ifCond .ge 8, 3) := by decide +kernel
theorem dX4_behind_17 : decode cX4_behind 17 = .ok (.ldc 49, 2) := by decide +kernel
theorem dX4_behind_19 : decode cX4_behind 19 = .ok (.goto 23, 3) := by decide +kernel
theorem dX4_behind_22 : decode cX4_behind 22 = .ok (.aload_n 0, 1) := by decide +kernel
theorem dX4_behind_23 : decode cX4_behind 23 = .ok (.getfield 15, 3) := by decide +kernel
theorem dX4_behind_26 : decode cX4_behind 26 = .ok (.iload 4, 2) := by decide +kernel
theorem dX4_behind_28 : decode cX4_behind 28 = .ok (.iconst 1, 1) := by decide +kernel
theorem dX4_behind_29 : decode cX4_behind 29 = .ok (.isub, 1) := by decide +kernel
theorem dX4_behind_30 : decode cX4_behind 30 = .ok (.aload_n 0, 1) := by decide +kernel
theorem dX4_behind_31 : decode cX4_behind 31 = .ok (.getfield 22, 3) := by decide +kernel
theorem dX4_behind_34 : decode cX4_behind 34 = .ok (.getfield 34, 3) := by decide +kernel
theorem dX4_behind_37 : decode cX4_behind 37 = .ok (.imul, 1) := by decide +kernel
theorem dX4_behind_38 : decode cX4_behind 38 = .ok (.iload 5, 2) := by decide +kernel
theorem dX4_behind_40 : decode cX4_behind 40 = .ok (.iadd, 1) := by decide +kernel
theorem dX4_behind_41 : decode cX4_behind 41 = .ok (.iaload, 1) := by decide +kernel
theorem dX4_behind_42 : decode cX4_behind 42 = .ok (.ireturn, 1) := by decide +kernel
def s_X4_behind (o : Nat) (a1 : Int32) (a2 : Int32) (a3 : Int32) (a4 : Int32) (h : aH) : aO :=
  (gO h (.ref o) 4 1).bind fun x1 => kO h x1 3 (cI (s_X3_leadOf x1 a1 a2 a3 h) fun x7 h7 => if 0 ≤ x7 then ((gO h7 (.ref o) 4 4).bind fun x23 => (gO h7 (.ref o) 4 0).bind fun x31 => (gI h7 (.ref x31) 2 12).bind fun x34 => (ldI .int h7 (.ref x23) (((a4 - 1) * x34) + x7)).bind fun x41 => some (.inl (some (.int x41)), h7)) else (some (.inl (some (.int 1000000)), h7)))
section
variable {p : Program} {l : Launch} {e : Env} {s : State} {m : MethodId} {args : Array Value} {below : List Frame} {meth : Method} {c : Code} {D : va_G} {B0 : Nat} {X : Nat → Nat} {ws0 : va_W} {r : aR} {h' : aH} {mc ms : Nat}
theorem hy_X4_behind : yX4_behind.cls ≠ "java/lang/invoke/MethodHandle" ∧ yX4_behind.cls ≠ "java/lang/invoke/VarHandle" ∧ (parseMethodDescriptor yX4_behind.desc).map (fun d => d.parameters.length) = some 4 := by decide +kernel
theorem T_X4_behind (o : Nat) (a1 : Int32) (a2 : Int32) (a3 : Int32) (a4 : Int32) (h : aH) (r : aR) (h' : aH) (hs : s_X4_behind o a1 a2 a3 a4 h = some (r, h')) : Mt yX4_behind (Cond.code yX4_behind cX4_behind 6 (some .int) :: aTB) 1 23 0 0 [.ref o, .int a1, .int a2, .int a3, .int a4] h r h' := by
  unfold s_X4_behind at hs
  refine Mt_of (k := 1) (by decide) rfl (fun p l e s m args below meth c D B0 X ws0 C => ?_)
  show Ev p l e { frames := 1, cells := 0, slots := 0, locals := 23 } s m args below meth c D B0 X ws0 r h' 0 0 6 0 0 0 [some (.ref o), some (.int a1), some (.int a2), some (.int a3), some (.int a4), none] [] h
  refine ev_aload_n C (x := .ref o) rfl trivial dX4_behind_0 ?_
  obtain ⟨x1, e1, hs⟩ := aB hs
  refine ev_get C (ci := 4) (k := 1) rfl wu_4 (by decide) wf_X4_26 (gO_F e1) dX4_behind_1 ?_
  refine ev_iload_n C rfl dX4_behind_4 ?_
  refine ev_iload_n C rfl dX4_behind_5 ?_
  refine ev_iload_n C rfl dX4_behind_6 ?_
  obtain ⟨eo7, hs⟩ := kO_at hs
  obtain ⟨x7, h7, e7, hs⟩ := cI_at hs
  refine ev_callVN C (T_X3_leadOf _ _ _ _ _ _ _ e7) (ci := 3) rfl eo7 wc_X3_leadOf wn_X4_81 wi_X3_leadOf ws_X3_leadOf wz_X3 hy_X3_leadOf ⟨(Nat.le_of_ble_eq_true rfl), (Nat.le_of_ble_eq_true rfl)⟩ ⟨(Nat.le_refl _), (Nat.le_refl _)⟩ (Nat.le_of_ble_eq_true rfl) rfl dX4_behind_7 ?_
  refine ev_istore C (by decide) dX4_behind_10 ?_
  refine ev_iload C rfl dX4_behind_12 ?_
  refine ev_if_ge C (tgt := 22) (by decide) dX4_behind_14 (fun q14 => ?_) (fun q14 => ?_)
  · replace hs := (if_pos q14).symm.trans hs
    refine ev_aload_n C (x := .ref o) rfl trivial dX4_behind_22 ?_
    obtain ⟨x23, e23, hs⟩ := aB hs
    refine ev_get C (ci := 4) (k := 4) rfl wu_4 (by decide) wf_X4_15 (gO_F e23) dX4_behind_23 ?_
    refine ev_iload C rfl dX4_behind_26 ?_
    refine ev_iconst C (v := 1) dX4_behind_28 (by decide) ?_
    refine ev_isub C dX4_behind_29 ?_
    refine ev_aload_n C (x := .ref o) rfl trivial dX4_behind_30 ?_
    obtain ⟨x31, e31, hs⟩ := aB hs
    refine ev_get C (ci := 4) (k := 0) rfl wu_4 (by decide) wf_X4_22 (gO_F e31) dX4_behind_31 ?_
    obtain ⟨x34, e34, hs⟩ := aB hs
    refine ev_getN C (ci := 2) (k := 12) rfl wu_2 (by decide) wg_X4_34 (gI_F e34) dX4_behind_34 ?_
    refine ev_imul C dX4_behind_37 ?_
    refine ev_iload C rfl dX4_behind_38 ?_
    refine ev_iadd C dX4_behind_40 ?_
    obtain ⟨x41, e41, hs⟩ := aB hs
    refine ev_iald C e41 dX4_behind_41 ?_
    cases hs
    exact ev_iret C rfl rfl (Nat.le_refl _) (Nat.le_refl _) rfl dX4_behind_42
  · replace hs := (if_neg q14).symm.trans hs
    refine ev_ldc C wv_X4_49 dX4_behind_17 ?_
    refine ev_goto C (tgt := 42) (by decide) dX4_behind_19 ?_
    cases hs
    exact ev_iret C rfl rfl (Nat.le_refl _) (Nat.le_refl _) rfl dX4_behind_42
end
-- X4_mostBehind
theorem dX4_mostBehind_0 : decode cX4_mostBehind 0 = .ok (.iconst 0, 1) := by decide +kernel
theorem dX4_mostBehind_1 : decode cX4_mostBehind 1 = .ok (.istore 4, 2) := by decide +kernel
theorem dX4_mostBehind_3 : decode cX4_mostBehind 3 = .ok (.iconst 0, 1) := by decide +kernel
theorem dX4_mostBehind_4 : decode cX4_mostBehind 4 = .ok (.istore 5, 2) := by decide +kernel
theorem dX4_mostBehind_6 : decode cX4_mostBehind 6 = .ok (.iload 5, 2) := by decide +kernel
theorem dX4_mostBehind_8 : decode cX4_mostBehind 8 = .ok (.aload_n 0, 1) := by decide +kernel
theorem dX4_mostBehind_9 : decode cX4_mostBehind 9 = .ok (.getfield 22, 3) := by decide +kernel
theorem dX4_mostBehind_12 : decode cX4_mostBehind 12 = .ok (.getfield 71, 3) := by decide +kernel
theorem dX4_mostBehind_15 : decode cX4_mostBehind 15 = .ok (.if_icmp .ge 32, 3) := by decide +kernel
theorem dX4_mostBehind_18 : decode cX4_mostBehind 18 = .ok (.iload 4, 2) := by decide +kernel
theorem dX4_mostBehind_20 : decode cX4_mostBehind 20 = .ok (.ldc 49, 2) := by decide +kernel
theorem dX4_mostBehind_22 : decode cX4_mostBehind 22 = .ok (.if_icmp .ge 25, 3) := by decide +kernel
theorem dX4_mostBehind_25 : decode cX4_mostBehind 25 = .ok (.iload 4, 2) := by decide +kernel
theorem dX4_mostBehind_27 : decode cX4_mostBehind 27 = .ok (.aload_n 0, 1) := by decide +kernel
theorem dX4_mostBehind_28 : decode cX4_mostBehind 28 = .ok (.iload_n 1, 1) := by decide +kernel
theorem dX4_mostBehind_29 : decode cX4_mostBehind 29 = .ok (.iload_n 2, 1) := by decide +kernel
theorem dX4_mostBehind_30 : decode cX4_mostBehind 30 = .ok (.iload 5, 2) := by decide +kernel
theorem dX4_mostBehind_32 : decode cX4_mostBehind 32 = .ok (.iload_n 3, 1) := by decide +kernel
theorem dX4_mostBehind_33 : decode cX4_mostBehind 33 = .ok (.invokevirtual 74, 3) := by decide +kernel
theorem dX4_mostBehind_36 : decode cX4_mostBehind 36 = .ok (.invokestatic 78, 3) := by decide +kernel
theorem dX4_mostBehind_39 : decode cX4_mostBehind 39 = .ok (.istore 4, 2) := by decide +kernel
theorem dX4_mostBehind_41 : decode cX4_mostBehind 41 = .ok (.iinc 5 1, 3) := by decide +kernel
theorem dX4_mostBehind_44 : decode cX4_mostBehind 44 = .ok (.goto (-38), 3) := by decide +kernel
theorem dX4_mostBehind_47 : decode cX4_mostBehind 47 = .ok (.iload 4, 2) := by decide +kernel
theorem dX4_mostBehind_49 : decode cX4_mostBehind 49 = .ok (.ireturn, 1) := by decide +kernel
def s_X4_mostBehind_6_b  (k6 : Nat → Int32 → Int32 → Int32 → Int32 → Int32 → aH → aO) (l0 : Nat) (l1 : Int32) (l2 : Int32) (l3 : Int32) (l4 : Int32) (l5 : Int32) (h : aH) : aO :=
  (gO h (.ref l0) 4 0).bind fun x9 => (gI h (.ref x9) 2 14).bind fun x12 => if x12 ≤ l5 then (some (.inl (some (.int l4)), h)) else (if 1000000 ≤ l4 then (some (.inl (some (.int l4)), h)) else (kO h l0 4 (cI (s_X4_behind l0 l1 l2 l5 l3 h) fun x33 h33 => k6 l0 l1 l2 l3 (jmax l4 x33) (l5 + 1) h33)))
def s_X4_mostBehind_6  (n : Nat) : Nat → Int32 → Int32 → Int32 → Int32 → Int32 → aH → aO := lpF (fun _ _ _ _ _ _ _ => none) (s_X4_mostBehind_6_b ) n
def s_X4_mostBehind (o : Nat) (a1 : Int32) (a2 : Int32) (a3 : Int32) (h : aH) : aO :=
  s_X4_mostBehind_6 FU o a1 a2 a3 0 0 h
section
variable {p : Program} {l : Launch} {e : Env} {s : State} {m : MethodId} {args : Array Value} {below : List Frame} {meth : Method} {c : Code} {D : va_G} {B0 : Nat} {X : Nat → Nat} {ws0 : va_W} {r : aR} {h' : aH} {mc ms : Nat}
theorem t_X4_mostBehind_6_b (C : Cx p l s m args meth c B0 X RX4 "mostBehind" cX4_mostBehind 6 (some .int) [])   {k6 : Nat → Int32 → Int32 → Int32 → Int32 → Int32 → aH → aO} (K6 : ∀ (l0 : Nat) (l1 : Int32) (l2 : Int32) (l3 : Int32) (l4 : Int32) (l5 : Int32) (h : aH), k6 l0 l1 l2 l3 l4 l5 h = some (r, h') → Ev p l e { frames := 2, cells := mc, slots := ms, locals := 48 } s m args below meth c D B0 X ws0 r h' mc ms 6 mc ms 6 [some (.ref l0), some (.int l1), some (.int l2), some (.int l3), some (.int l4), some (.int l5)] [] h) {l0 : Nat} {l1 : Int32} {l2 : Int32} {l3 : Int32} {l4 : Int32} {l5 : Int32} {h : aH} (hs : s_X4_mostBehind_6_b  k6 l0 l1 l2 l3 l4 l5 h = some (r, h')) : Ev p l e { frames := 2, cells := mc, slots := ms, locals := 48 } s m args below meth c D B0 X ws0 r h' mc ms 6 mc ms 6 [some (.ref l0), some (.int l1), some (.int l2), some (.int l3), some (.int l4), some (.int l5)] [] h := by
  unfold s_X4_mostBehind_6_b at hs
  refine ev_iload C rfl dX4_mostBehind_6 ?_
  refine ev_aload_n C (x := .ref l0) rfl trivial dX4_mostBehind_8 ?_
  obtain ⟨x9, e9, hs⟩ := aB hs
  refine ev_get C (ci := 4) (k := 0) rfl wu_4 (by decide) wf_X4_22 (gO_F e9) dX4_mostBehind_9 ?_
  obtain ⟨x12, e12, hs⟩ := aB hs
  refine ev_getN C (ci := 2) (k := 14) rfl wu_2 (by decide) wg_X4_71 (gI_F e12) dX4_mostBehind_12 ?_
  refine ev_icmp_ge C (tgt := 47) (by decide) dX4_mostBehind_15 (fun q15 => ?_) (fun q15 => ?_)
  · replace hs := (if_pos q15).symm.trans hs
    refine ev_iload C rfl dX4_mostBehind_47 ?_
    cases hs
    exact ev_iret C rfl rfl (Nat.le_refl _) (Nat.le_refl _) rfl dX4_mostBehind_49
  · replace hs := (if_neg q15).symm.trans hs
    refine ev_iload C rfl dX4_mostBehind_18 ?_
    refine ev_ldc C wv_X4_49 dX4_mostBehind_20 ?_
    refine ev_icmp_ge C (tgt := 47) (by decide) dX4_mostBehind_22 (fun q22 => ?_) (fun q22 => ?_)
    · replace hs := (if_pos q22).symm.trans hs
      refine ev_iload C rfl dX4_mostBehind_47 ?_
      cases hs
      exact ev_iret C rfl rfl (Nat.le_refl _) (Nat.le_refl _) rfl dX4_mostBehind_49
    · replace hs := (if_neg q22).symm.trans hs
      refine ev_iload C rfl dX4_mostBehind_25 ?_
      refine ev_aload_n C (x := .ref l0) rfl trivial dX4_mostBehind_27 ?_
      refine ev_iload_n C rfl dX4_mostBehind_28 ?_
      refine ev_iload_n C rfl dX4_mostBehind_29 ?_
      refine ev_iload C rfl dX4_mostBehind_30 ?_
      refine ev_iload_n C rfl dX4_mostBehind_32 ?_
      obtain ⟨eo33, hs⟩ := kO_at hs
      obtain ⟨x33, h33, e33, hs⟩ := cI_at hs
      refine ev_callV C (T_X4_behind _ _ _ _ _ _ _ _ e33) (ci := 4) rfl eo33 wc_X4_behind wm_X4_74 wi_X4_behind ws_X4_behind wz_X4 hy_X4_behind ⟨(Nat.le_of_ble_eq_true rfl), (Nat.le_of_ble_eq_true rfl)⟩ ⟨(Nat.le_refl _), (Nat.le_refl _)⟩ (Nat.le_of_ble_eq_true rfl) rfl dX4_mostBehind_33 ?_
      refine ev_mmax C wm_X4_78 wt_mmax wz_J9 wc_mmax (Nat.le_of_ble_eq_true rfl) (Nat.le_of_ble_eq_true rfl) (Nat.le_refl _) (Nat.le_refl _) dX4_mostBehind_36 ?_
      refine ev_istore C (by decide) dX4_mostBehind_39 ?_
      refine ev_iinc C (i := 5) (n := 1) (x := l5) (v := l5 + 1) rfl (congrArg (fun z => l5 + z) (show Int32.ofInt 1 = 1 by decide)) (by decide) dX4_mostBehind_41 ?_
      refine ev_goto C (tgt := 6) (by decide) dX4_mostBehind_44 ?_
      exact (K6 _ _ _ _ _ _ _ hs)
theorem t_X4_mostBehind_6 (C : Cx p l s m args meth c B0 X RX4 "mostBehind" cX4_mostBehind 6 (some .int) [])   : ∀ (n : Nat) {l0 : Nat} {l1 : Int32} {l2 : Int32} {l3 : Int32} {l4 : Int32} {l5 : Int32} {h : aH} (hs : s_X4_mostBehind_6  n l0 l1 l2 l3 l4 l5 h = some (r, h')), Ev p l e { frames := 2, cells := mc, slots := ms, locals := 48 } s m args below meth c D B0 X ws0 r h' mc ms 6 mc ms 6 [some (.ref l0), some (.int l1), some (.int l2), some (.int l3), some (.int l4), some (.int l5)] [] h
  | 0, _, _, _, _, _, _, _, hs => nomatch hs
  | n + 1, _, _, _, _, _, _, _, hs => t_X4_mostBehind_6_b C  (k6 := s_X4_mostBehind_6  n) (fun _ _ _ _ _ _ _ hs => t_X4_mostBehind_6 C  n hs) hs
theorem hy_X4_mostBehind : yX4_mostBehind.cls ≠ "java/lang/invoke/MethodHandle" ∧ yX4_mostBehind.cls ≠ "java/lang/invoke/VarHandle" ∧ (parseMethodDescriptor yX4_mostBehind.desc).map (fun d => d.parameters.length) = some 3 := by decide +kernel
theorem T_X4_mostBehind (o : Nat) (a1 : Int32) (a2 : Int32) (a3 : Int32) (h : aH) (r : aR) (h' : aH) (hs : s_X4_mostBehind o a1 a2 a3 h = some (r, h')) : Mt yX4_mostBehind (Cond.code yX4_mostBehind cX4_mostBehind 6 (some .int) :: aTB) 2 48 0 0 [.ref o, .int a1, .int a2, .int a3] h r h' := by
  unfold s_X4_mostBehind at hs
  refine Mt_of (k := 2) (by decide) rfl (fun p l e s m args below meth c D B0 X ws0 C => ?_)
  show Ev p l e { frames := 2, cells := 0, slots := 0, locals := 48 } s m args below meth c D B0 X ws0 r h' 0 0 6 0 0 0 [some (.ref o), some (.int a1), some (.int a2), some (.int a3), none, none] [] h
  refine ev_iconst C (v := 0) dX4_mostBehind_0 (by decide) ?_
  refine ev_istore C (by decide) dX4_mostBehind_1 ?_
  refine ev_iconst C (v := 0) dX4_mostBehind_3 (by decide) ?_
  refine ev_istore C (by decide) dX4_mostBehind_4 ?_
  exact (t_X4_mostBehind_6 C  FU hs)
end
-- X4_choose
theorem dX4_choose_0 : decode cX4_choose 0 = .ok (.ldc 54, 2) := by decide +kernel
theorem dX4_choose_2 : decode cX4_choose 2 = .ok (.istore_n 3, 1) := by decide +kernel
theorem dX4_choose_3 : decode cX4_choose 3 = .ok (.iconst 0, 1) := by decide +kernel
theorem dX4_choose_4 : decode cX4_choose 4 = .ok (.istore 4, 2) := by decide +kernel
theorem dX4_choose_6 : decode cX4_choose 6 = .ok (.iconst 0, 1) := by decide +kernel
theorem dX4_choose_7 : decode cX4_choose 7 = .ok (.istore 5, 2) := by decide +kernel
theorem dX4_choose_9 : decode cX4_choose 9 = .ok (.iload 5, 2) := by decide +kernel
theorem dX4_choose_11 : decode cX4_choose 11 = .ok (.aload_n 0, 1) := by decide +kernel
theorem dX4_choose_12 : decode cX4_choose 12 = .ok (.getfield 22, 3) := by decide +kernel
theorem dX4_choose_15 : decode cX4_choose 15 = .ok (.getfield 55, 3) := by decide +kernel
theorem dX4_choose_18 : decode cX4_choose 18 = .ok (.if_icmp .ge 62, 3) := by decide +kernel
theorem dX4_choose_21 : decode cX4_choose 21 = .ok (.aload_n 0, 1) := by decide +kernel
theorem dX4_choose_22 : decode cX4_choose 22 = .ok (.getfield 30, 3) := by decide +kernel
theorem dX4_choose_25 : decode cX4_choose 25 = .ok (.getfield 58, 3) := by decide +kernel
theorem dX4_choose_28 : decode cX4_choose 28 = .ok (.iload_n 1, 1) := by decide +kernel
theorem dX4_choose_29 : decode cX4_choose 29 = .ok (.aload_n 0, 1) := by decide +kernel
theorem dX4_choose_30 : decode cX4_choose 30 = .ok (.getfield 22, 3) := by decide +kernel
theorem dX4_choose_33 : decode cX4_choose 33 = .ok (.getfield 55, 3) := by decide +kernel
theorem dX4_choose_36 : decode cX4_choose 36 = .ok (.imul, 1) := by decide +kernel
theorem dX4_choose_37 : decode cX4_choose 37 = .ok (.iload 5, 2) := by decide +kernel
theorem dX4_choose_39 : decode cX4_choose 39 = .ok (.iadd, 1) := by decide +kernel
theorem dX4_choose_40 : decode cX4_choose 40 = .ok (.iaload, 1) := by decide +kernel
theorem dX4_choose_41 : decode cX4_choose 41 = .ok (.istore 6, 2) := by decide +kernel
theorem dX4_choose_43 : decode cX4_choose 43 = .ok (.ldc 49, 2) := by decide +kernel
theorem dX4_choose_45 : decode cX4_choose 45 = .ok (.iload 6, 2) := by decide +kernel
theorem dX4_choose_47 : decode cX4_choose 47 = .ok (.aload_n 0, 1) := by decide +kernel
theorem dX4_choose_48 : decode cX4_choose 48 = .ok (.iload_n 1, 1) := by decide +kernel
theorem dX4_choose_49 : decode cX4_choose 49 = .ok (.iload 5, 2) := by decide +kernel
theorem dX4_choose_51 : decode cX4_choose 51 = .ok (.iload_n 2, 1) := by decide +kernel
theorem dX4_choose_52 : decode cX4_choose 52 = .ok (.invokevirtual 61, 3) := by decide +kernel
theorem dX4_choose_55 : decode cX4_choose 55 = .ok (.iadd, 1) := by decide +kernel
theorem dX4_choose_56 : decode cX4_choose 56 = .ok (.invokestatic 65, 3) := by decide +kernel
theorem dX4_choose_59 : decode cX4_choose 59 = .ok (.istore 6, 2) := by decide +kernel
theorem dX4_choose_61 : decode cX4_choose 61 = .ok (.iload 6, 2) := by decide +kernel
theorem dX4_choose_63 : decode cX4_choose 63 = .ok (.iload_n 3, 1) := by decide +kernel
theorem dX4_choose_64 : decode cX4_choose 64 = .ok (.if_icmp .ge 10, 3) := by decide +kernel
theorem dX4_choose_67 : decode cX4_choose 67 = .ok (.iload 6, 2) := by decide +kernel
theorem dX4_choose_69 : decode cX4_choose 69 = .ok (.istore_n 3, 1) := by decide +kernel
theorem dX4_choose_70 : decode cX4_choose 70 = .ok (.iload 5, 2) := by decide +kernel
theorem dX4_choose_72 : decode cX4_choose 72 = .ok (.istore 4, 2) := by decide +kernel
theorem dX4_choose_74 : decode cX4_choose 74 = .ok (.iinc 5 1, 3) := by decide +kernel
theorem dX4_choose_77 : decode cX4_choose 77 = .ok (.goto (-68), 3) := by decide +kernel
theorem dX4_choose_80 : decode cX4_choose 80 = .ok (.aload_n 0, 1) := by decide +kernel
theorem dX4_choose_81 : decode cX4_choose 81 = .ok (.getfield 15, 3) := by decide +kernel
theorem dX4_choose_84 : decode cX4_choose 84 = .ok (.iload_n 2, 1) := by decide +kernel
theorem dX4_choose_85 : decode cX4_choose 85 = .ok (.aload_n 0, 1) := by decide +kernel
theorem dX4_choose_86 : decode cX4_choose 86 = .ok (.getfield 22, 3) := by decide +kernel
theorem dX4_choose_89 : decode cX4_choose 89 = .ok (.getfield 34, 3) := by decide +kernel
theorem dX4_choose_92 : decode cX4_choose 92 = .ok (.imul, 1) := by decide +kernel
theorem dX4_choose_93 : decode cX4_choose 93 = .ok (.iload_n 1, 1) := by decide +kernel
theorem dX4_choose_94 : decode cX4_choose 94 = .ok (.iadd, 1) := by decide +kernel
theorem dX4_choose_95 : decode cX4_choose 95 = .ok (.iload_n 3, 1) := by decide +kernel
theorem dX4_choose_96 : decode cX4_choose 96 = .ok (.iastore, 1) := by decide +kernel
theorem dX4_choose_97 : decode cX4_choose 97 = .ok (.aload_n 0, 1) := by decide +kernel
theorem dX4_choose_98 : decode cX4_choose 98 = .ok (.getfield 19, 3) := by decide +kernel
theorem dX4_choose_101 : decode cX4_choose 101 = .ok (.iload_n 2, 1) := by decide +kernel
theorem dX4_choose_102 : decode cX4_choose 102 = .ok (.aload_n 0, 1) := by decide +kernel
theorem dX4_choose_103 : decode cX4_choose 103 = .ok (.getfield 22, 3) := by decide +kernel
theorem dX4_choose_106 : decode cX4_choose 106 = .ok (.getfield 34, 3) := by decide +kernel
theorem dX4_choose_109 : decode cX4_choose 109 = .ok (.imul, 1) := by decide +kernel
theorem dX4_choose_110 : decode cX4_choose 110 = .ok (.iload_n 1, 1) := by decide +kernel
theorem dX4_choose_111 : decode cX4_choose 111 = .ok (.iadd, 1) := by decide +kernel
theorem dX4_choose_112 : decode cX4_choose 112 = .ok (.iload 4, 2) := by decide +kernel
theorem dX4_choose_114 : decode cX4_choose 114 = .ok (.iastore, 1) := by decide +kernel
theorem dX4_choose_115 : decode cX4_choose 115 = .ok (.return_, 1) := by decide +kernel
def s_X4_choose_9_b  (k9 : Nat → Int32 → Int32 → Int32 → Int32 → Int32 → aH → aO) (l0 : Nat) (l1 : Int32) (l2 : Int32) (l3 : Int32) (l4 : Int32) (l5 : Int32) (h : aH) : aO :=
  (gO h (.ref l0) 4 0).bind fun x12 => (gI h (.ref x12) 2 13).bind fun x15 => if x15 ≤ l5 then ((gO h (.ref l0) 4 4).bind fun x81 => (gO h (.ref l0) 4 0).bind fun x86 => (gI h (.ref x86) 2 12).bind fun x89 => (stI h (.ref x81) ((l2 * x89) + l1) l3).bind fun h96 => (gO h96 (.ref l0) 4 5).bind fun x98 => (gO h96 (.ref l0) 4 0).bind fun x103 => (gI h96 (.ref x103) 2 12).bind fun x106 => (stI h96 (.ref x98) ((l2 * x106) + l1) l4).bind fun h114 => some (.inl none, h114)) else ((gO h (.ref l0) 4 2).bind fun x22 => (gO h (.ref x22) 10 6).bind fun x25 => (gO h (.ref l0) 4 0).bind fun x30 => (gI h (.ref x30) 2 13).bind fun x33 => (ldI .int h (.ref x25) ((l1 * x33) + l5)).bind fun x40 => kO h l0 4 (cI (s_X4_mostBehind l0 l1 l5 l2 h) fun x52 h52 => if l3 ≤ (jmin 1000000 (x40 + x52)) then (k9 l0 l1 l2 l3 l4 (l5 + 1) h52) else (k9 l0 l1 l2 (jmin 1000000 (x40 + x52)) l5 (l5 + 1) h52)))
def s_X4_choose_9  (n : Nat) : Nat → Int32 → Int32 → Int32 → Int32 → Int32 → aH → aO := lpF (fun _ _ _ _ _ _ _ => none) (s_X4_choose_9_b ) n
def s_X4_choose (o : Nat) (a1 : Int32) (a2 : Int32) (h : aH) : aO :=
  s_X4_choose_9 FU o a1 a2 1000001 0 0 h
section
variable {p : Program} {l : Launch} {e : Env} {s : State} {m : MethodId} {args : Array Value} {below : List Frame} {meth : Method} {c : Code} {D : va_G} {B0 : Nat} {X : Nat → Nat} {ws0 : va_W} {r : aR} {h' : aH} {mc ms : Nat}
theorem t_X4_choose_9_b (C : Cx p l s m args meth c B0 X RX4 "choose" cX4_choose 7 none [])   {k9 : Nat → Int32 → Int32 → Int32 → Int32 → Int32 → aH → aO} (K9 : ∀ (l0 : Nat) (l1 : Int32) (l2 : Int32) (l3 : Int32) (l4 : Int32) (l5 : Int32) (h : aH), k9 l0 l1 l2 l3 l4 l5 h = some (r, h') → Ev p l e { frames := 3, cells := mc, slots := ms, locals := 73 } s m args below meth c D B0 X ws0 r h' mc ms 7 mc ms 9 [some (.ref l0), some (.int l1), some (.int l2), some (.int l3), some (.int l4), some (.int l5), none] [] h) {l0 : Nat} {l1 : Int32} {l2 : Int32} {l3 : Int32} {l4 : Int32} {l5 : Int32} {h : aH} (hs : s_X4_choose_9_b  k9 l0 l1 l2 l3 l4 l5 h = some (r, h')) : Ev p l e { frames := 3, cells := mc, slots := ms, locals := 73 } s m args below meth c D B0 X ws0 r h' mc ms 7 mc ms 9 [some (.ref l0), some (.int l1), some (.int l2), some (.int l3), some (.int l4), some (.int l5), none] [] h := by
  unfold s_X4_choose_9_b at hs
  refine ev_iload C rfl dX4_choose_9 ?_
  refine ev_aload_n C (x := .ref l0) rfl trivial dX4_choose_11 ?_
  obtain ⟨x12, e12, hs⟩ := aB hs
  refine ev_get C (ci := 4) (k := 0) rfl wu_4 (by decide) wf_X4_22 (gO_F e12) dX4_choose_12 ?_
  obtain ⟨x15, e15, hs⟩ := aB hs
  refine ev_getN C (ci := 2) (k := 13) rfl wu_2 (by decide) wg_X4_55 (gI_F e15) dX4_choose_15 ?_
  refine ev_icmp_ge C (tgt := 80) (by decide) dX4_choose_18 (fun q18 => ?_) (fun q18 => ?_)
  · replace hs := (if_pos q18).symm.trans hs
    refine ev_aload_n C (x := .ref l0) rfl trivial dX4_choose_80 ?_
    obtain ⟨x81, e81, hs⟩ := aB hs
    refine ev_get C (ci := 4) (k := 4) rfl wu_4 (by decide) wf_X4_15 (gO_F e81) dX4_choose_81 ?_
    refine ev_iload_n C rfl dX4_choose_84 ?_
    refine ev_aload_n C (x := .ref l0) rfl trivial dX4_choose_85 ?_
    obtain ⟨x86, e86, hs⟩ := aB hs
    refine ev_get C (ci := 4) (k := 0) rfl wu_4 (by decide) wf_X4_22 (gO_F e86) dX4_choose_86 ?_
    obtain ⟨x89, e89, hs⟩ := aB hs
    refine ev_getN C (ci := 2) (k := 12) rfl wu_2 (by decide) wg_X4_34 (gI_F e89) dX4_choose_89 ?_
    refine ev_imul C dX4_choose_92 ?_
    refine ev_iload_n C rfl dX4_choose_93 ?_
    refine ev_iadd C dX4_choose_94 ?_
    refine ev_iload_n C rfl dX4_choose_95 ?_
    obtain ⟨h96, e96, hs⟩ := aB hs
    refine ev_iast C e96 dX4_choose_96 ?_
    refine ev_aload_n C (x := .ref l0) rfl trivial dX4_choose_97 ?_
    obtain ⟨x98, e98, hs⟩ := aB hs
    refine ev_get C (ci := 4) (k := 5) rfl wu_4 (by decide) wf_X4_19 (gO_F e98) dX4_choose_98 ?_
    refine ev_iload_n C rfl dX4_choose_101 ?_
    refine ev_aload_n C (x := .ref l0) rfl trivial dX4_choose_102 ?_
    obtain ⟨x103, e103, hs⟩ := aB hs
    refine ev_get C (ci := 4) (k := 0) rfl wu_4 (by decide) wf_X4_22 (gO_F e103) dX4_choose_103 ?_
    obtain ⟨x106, e106, hs⟩ := aB hs
    refine ev_getN C (ci := 2) (k := 12) rfl wu_2 (by decide) wg_X4_34 (gI_F e106) dX4_choose_106 ?_
    refine ev_imul C dX4_choose_109 ?_
    refine ev_iload_n C rfl dX4_choose_110 ?_
    refine ev_iadd C dX4_choose_111 ?_
    refine ev_iload C rfl dX4_choose_112 ?_
    obtain ⟨h114, e114, hs⟩ := aB hs
    refine ev_iast C e114 dX4_choose_114 ?_
    cases hs
    exact ev_vret C rfl rfl (Nat.le_refl _) (Nat.le_refl _) rfl dX4_choose_115
  · replace hs := (if_neg q18).symm.trans hs
    refine ev_aload_n C (x := .ref l0) rfl trivial dX4_choose_21 ?_
    obtain ⟨x22, e22, hs⟩ := aB hs
    refine ev_get C (ci := 4) (k := 2) rfl wu_4 (by decide) wf_X4_30 (gO_F e22) dX4_choose_22 ?_
    obtain ⟨x25, e25, hs⟩ := aB hs
    refine ev_getN C (ci := 10) (k := 6) rfl wu_10 (by decide) wg_X4_58 (gO_F e25) dX4_choose_25 ?_
    refine ev_iload_n C rfl dX4_choose_28 ?_
    refine ev_aload_n C (x := .ref l0) rfl trivial dX4_choose_29 ?_
    obtain ⟨x30, e30, hs⟩ := aB hs
    refine ev_get C (ci := 4) (k := 0) rfl wu_4 (by decide) wf_X4_22 (gO_F e30) dX4_choose_30 ?_
    obtain ⟨x33, e33, hs⟩ := aB hs
    refine ev_getN C (ci := 2) (k := 13) rfl wu_2 (by decide) wg_X4_55 (gI_F e33) dX4_choose_33 ?_
    refine ev_imul C dX4_choose_36 ?_
    refine ev_iload C rfl dX4_choose_37 ?_
    refine ev_iadd C dX4_choose_39 ?_
    obtain ⟨x40, e40, hs⟩ := aB hs
    refine ev_iald C e40 dX4_choose_40 ?_
    refine ev_istore C (by decide) dX4_choose_41 ?_
    refine ev_ldc C wv_X4_49 dX4_choose_43 ?_
    refine ev_iload C rfl dX4_choose_45 ?_
    refine ev_aload_n C (x := .ref l0) rfl trivial dX4_choose_47 ?_
    refine ev_iload_n C rfl dX4_choose_48 ?_
    refine ev_iload C rfl dX4_choose_49 ?_
    refine ev_iload_n C rfl dX4_choose_51 ?_
    obtain ⟨eo52, hs⟩ := kO_at hs
    obtain ⟨x52, h52, e52, hs⟩ := cI_at hs
    refine ev_callV C (T_X4_mostBehind _ _ _ _ _ _ _ e52) (ci := 4) rfl eo52 wc_X4_mostBehind wm_X4_61 wi_X4_mostBehind ws_X4_mostBehind wz_X4 hy_X4_mostBehind ⟨(Nat.le_of_ble_eq_true rfl), (Nat.le_of_ble_eq_true rfl)⟩ ⟨(Nat.le_refl _), (Nat.le_refl _)⟩ (Nat.le_of_ble_eq_true rfl) rfl dX4_choose_52 ?_
    refine ev_iadd C dX4_choose_55 ?_
    refine ev_mmin C wm_X4_65 wt_mmin wz_J9 wc_mmin (Nat.le_of_ble_eq_true rfl) (Nat.le_of_ble_eq_true rfl) (Nat.le_refl _) (Nat.le_refl _) dX4_choose_56 ?_
    refine ev_istore C (by decide) dX4_choose_59 ?_
    refine ev_iload C rfl dX4_choose_61 ?_
    refine ev_iload_n C rfl dX4_choose_63 ?_
    refine ev_icmp_ge C (tgt := 74) (by decide) dX4_choose_64 (fun q64 => ?_) (fun q64 => ?_)
    · replace hs := (if_pos q64).symm.trans hs
      refine ev_iinc C (i := 5) (n := 1) (x := l5) (v := l5 + 1) rfl (congrArg (fun z => l5 + z) (show Int32.ofInt 1 = 1 by decide)) (by decide) dX4_choose_74 ?_
      refine ev_goto C (tgt := 9) (by decide) dX4_choose_77 ?_
      exact Ev.keep [true, true, true, true, true, true, false] (K9 _ _ _ _ _ _ _ hs)
    · replace hs := (if_neg q64).symm.trans hs
      refine ev_iload C rfl dX4_choose_67 ?_
      refine ev_istore_n C (by decide) dX4_choose_69 ?_
      refine ev_iload C rfl dX4_choose_70 ?_
      refine ev_istore C (by decide) dX4_choose_72 ?_
      refine ev_iinc C (i := 5) (n := 1) (x := l5) (v := l5 + 1) rfl (congrArg (fun z => l5 + z) (show Int32.ofInt 1 = 1 by decide)) (by decide) dX4_choose_74 ?_
      refine ev_goto C (tgt := 9) (by decide) dX4_choose_77 ?_
      exact Ev.keep [true, true, true, true, true, true, false] (K9 _ _ _ _ _ _ _ hs)
theorem t_X4_choose_9 (C : Cx p l s m args meth c B0 X RX4 "choose" cX4_choose 7 none [])   : ∀ (n : Nat) {l0 : Nat} {l1 : Int32} {l2 : Int32} {l3 : Int32} {l4 : Int32} {l5 : Int32} {h : aH} (hs : s_X4_choose_9  n l0 l1 l2 l3 l4 l5 h = some (r, h')), Ev p l e { frames := 3, cells := mc, slots := ms, locals := 73 } s m args below meth c D B0 X ws0 r h' mc ms 7 mc ms 9 [some (.ref l0), some (.int l1), some (.int l2), some (.int l3), some (.int l4), some (.int l5), none] [] h
  | 0, _, _, _, _, _, _, _, hs => nomatch hs
  | n + 1, _, _, _, _, _, _, _, hs => t_X4_choose_9_b C  (k9 := s_X4_choose_9  n) (fun _ _ _ _ _ _ _ hs => t_X4_choose_9 C  n hs) hs
theorem hy_X4_choose : yX4_choose.cls ≠ "java/lang/invoke/MethodHandle" ∧ yX4_choose.cls ≠ "java/lang/invoke/VarHandle" ∧ (parseMethodDescriptor yX4_choose.desc).map (fun d => d.parameters.length) = some 2 := by decide +kernel
theorem T_X4_choose (o : Nat) (a1 : Int32) (a2 : Int32) (h : aH) (r : aR) (h' : aH) (hs : s_X4_choose o a1 a2 h = some (r, h')) : Mt yX4_choose (Cond.code yX4_choose cX4_choose 7 none :: aTB) 3 73 0 0 [.ref o, .int a1, .int a2] h r h' := by
  unfold s_X4_choose at hs
  refine Mt_of (k := 4) (by decide) rfl (fun p l e s m args below meth c D B0 X ws0 C => ?_)
  show Ev p l e { frames := 3, cells := 0, slots := 0, locals := 73 } s m args below meth c D B0 X ws0 r h' 0 0 7 0 0 0 [some (.ref o), some (.int a1), some (.int a2), none, none, none, none] [] h
  refine ev_ldc C wv_X4_54 dX4_choose_0 ?_
  refine ev_istore_n C (by decide) dX4_choose_2 ?_
  refine ev_iconst C (v := 0) dX4_choose_3 (by decide) ?_
  refine ev_istore C (by decide) dX4_choose_4 ?_
  refine ev_iconst C (v := 0) dX4_choose_6 (by decide) ?_
  refine ev_istore C (by decide) dX4_choose_7 ?_
  exact (t_X4_choose_9 C  FU hs)
end
-- X4_settle
theorem dX4_settle_0 : decode cX4_settle 0 = .ok (.aload_n 0, 1) := by decide +kernel
theorem dX4_settle_1 : decode cX4_settle 1 = .ok (.aload_n 0, 1) := by decide +kernel
theorem dX4_settle_2 : decode cX4_settle 2 = .ok (.getfield 15, 3) := by decide +kernel
theorem dX4_settle_5 : decode cX4_settle 5 = .ok (.bipush 21, 2) := by decide +kernel
theorem dX4_settle_7 : decode cX4_settle 7 = .ok (.aload_n 0, 1) := by decide +kernel
theorem dX4_settle_8 : decode cX4_settle 8 = .ok (.getfield 22, 3) := by decide +kernel
theorem dX4_settle_11 : decode cX4_settle 11 = .ok (.getfield 34, 3) := by decide +kernel
theorem dX4_settle_14 : decode cX4_settle 14 = .ok (.imul, 1) := by decide +kernel
theorem dX4_settle_15 : decode cX4_settle 15 = .ok (.invokestatic 39, 3) := by decide +kernel
theorem dX4_settle_18 : decode cX4_settle 18 = .ok (.putfield 15, 3) := by decide +kernel
theorem dX4_settle_21 : decode cX4_settle 21 = .ok (.aload_n 0, 1) := by decide +kernel
theorem dX4_settle_22 : decode cX4_settle 22 = .ok (.aload_n 0, 1) := by decide +kernel
theorem dX4_settle_23 : decode cX4_settle 23 = .ok (.getfield 19, 3) := by decide +kernel
theorem dX4_settle_26 : decode cX4_settle 26 = .ok (.bipush 21, 2) := by decide +kernel
theorem dX4_settle_28 : decode cX4_settle 28 = .ok (.aload_n 0, 1) := by decide +kernel
theorem dX4_settle_29 : decode cX4_settle 29 = .ok (.getfield 22, 3) := by decide +kernel
theorem dX4_settle_32 : decode cX4_settle 32 = .ok (.getfield 34, 3) := by decide +kernel
theorem dX4_settle_35 : decode cX4_settle 35 = .ok (.imul, 1) := by decide +kernel
theorem dX4_settle_36 : decode cX4_settle 36 = .ok (.invokestatic 39, 3) := by decide +kernel
theorem dX4_settle_39 : decode cX4_settle 39 = .ok (.putfield 19, 3) := by decide +kernel
theorem dX4_settle_42 : decode cX4_settle 42 = .ok (.aload_n 0, 1) := by decide +kernel
theorem dX4_settle_43 : decode cX4_settle 43 = .ok (.getfield 9, 3) := by decide +kernel
theorem dX4_settle_46 : decode cX4_settle 46 = .ok (.iconst 1, 1) := by decide +kernel
theorem dX4_settle_47 : decode cX4_settle 47 = .ok (.iadd, 1) := by decide +kernel
theorem dX4_settle_48 : decode cX4_settle 48 = .ok (.istore_n 2, 1) := by decide +kernel
theorem dX4_settle_49 : decode cX4_settle 49 = .ok (.iload_n 2, 1) := by decide +kernel
theorem dX4_settle_50 : decode cX4_settle 50 = .ok (.iload_n 1, 1) := by decide +kernel
theorem dX4_settle_51 : decode cX4_settle 51 = .ok (.if_icmp .gt 100, 3) := by decide +kernel
theorem dX4_settle_54 : decode cX4_settle 54 = .ok (.iconst 0, 1) := by decide +kernel
theorem dX4_settle_55 : decode cX4_settle 55 = .ok (.istore_n 3, 1) := by decide +kernel
theorem dX4_settle_56 : decode cX4_settle 56 = .ok (.iload_n 3, 1) := by decide +kernel
theorem dX4_settle_57 : decode cX4_settle 57 = .ok (.aload_n 0, 1) := by decide +kernel
theorem dX4_settle_58 : decode cX4_settle 58 = .ok (.getfield 22, 3) := by decide +kernel
theorem dX4_settle_61 : decode cX4_settle 61 = .ok (.getfield 34, 3) := by decide +kernel
theorem dX4_settle_64 : decode cX4_settle 64 = .ok (.if_icmp .ge 76, 3) := by decide +kernel
theorem dX4_settle_67 : decode cX4_settle 67 = .ok (.iload_n 2, 1) := by decide +kernel
theorem dX4_settle_68 : decode cX4_settle 68 = .ok (.aload_n 0, 1) := by decide +kernel
theorem dX4_settle_69 : decode cX4_settle 69 = .ok (.getfield 22, 3) := by decide +kernel
theorem dX4_settle_72 : decode cX4_settle 72 = .ok (.getfield 34, 3) := by decide +kernel
theorem dX4_settle_75 : decode cX4_settle 75 = .ok (.imul, 1) := by decide +kernel
theorem dX4_settle_76 : decode cX4_settle 76 = .ok (.iload_n 3, 1) := by decide +kernel
theorem dX4_settle_77 : decode cX4_settle 77 = .ok (.iadd, 1) := by decide +kernel
theorem dX4_settle_78 : decode cX4_settle 78 = .ok (.istore 4, 2) := by decide +kernel
theorem dX4_settle_80 : decode cX4_settle 80 = .ok (.aload_n 0, 1) := by decide +kernel
theorem dX4_settle_81 : decode cX4_settle 81 = .ok (.getfield 19, 3) := by decide +kernel
theorem dX4_settle_84 : decode cX4_settle 84 = .ok (.iload 4, 2) := by decide +kernel
theorem dX4_settle_86 : decode cX4_settle 86 = .ok (.bipush (-2), 2) := by decide +kernel
theorem dX4_settle_88 : decode cX4_settle 88 = .ok (.iastore, 1) := by decide +kernel
theorem dX4_settle_89 : decode cX4_settle 89 = .ok (.aload_n 0, 1) := by decide +kernel
theorem dX4_settle_90 : decode cX4_settle 90 = .ok (.getfield 15, 3) := by decide +kernel
theorem dX4_settle_93 : decode cX4_settle 93 = .ok (.iload 4, 2) := by decide +kernel
theorem dX4_settle_95 : decode cX4_settle 95 = .ok (.aload_n 0, 1) := by decide +kernel
theorem dX4_settle_96 : decode cX4_settle 96 = .ok (.getfield 30, 3) := by decide +kernel
theorem dX4_settle_99 : decode cX4_settle 99 = .ok (.iload_n 3, 1) := by decide +kernel
theorem dX4_settle_100 : decode cX4_settle 100 = .ok (.invokevirtual 43, 3) := by decide +kernel
theorem dX4_settle_103 : decode cX4_settle 103 = .ok (.ifCond .eq 7, 3) := by decide +kernel
theorem dX4_settle_106 : decode cX4_settle 106 = .ok (.iconst 0, 1) := by decide +kernel
theorem dX4_settle_107 : decode cX4_settle 107 = .ok (.goto 5, 3) := by decide +kernel
theorem dX4_settle_110 : decode cX4_settle 110 = .ok (.ldc 49, 2) := by decide +kernel
theorem dX4_settle_112 : decode cX4_settle 112 = .ok (.iastore, 1) := by decide +kernel
theorem dX4_settle_113 : decode cX4_settle 113 = .ok (.iload_n 2, 1) := by decide +kernel
theorem dX4_settle_114 : decode cX4_settle 114 = .ok (.ifCond .le 20, 3) := by decide +kernel
theorem dX4_settle_117 : decode cX4_settle 117 = .ok (.aload_n 0, 1) := by decide +kernel
theorem dX4_settle_118 : decode cX4_settle 118 = .ok (.getfield 30, 3) := by decide +kernel
theorem dX4_settle_121 : decode cX4_settle 121 = .ok (.iload_n 3, 1) := by decide +kernel
theorem dX4_settle_122 : decode cX4_settle 122 = .ok (.invokevirtual 43, 3) := by decide +kernel
theorem dX4_settle_125 : decode cX4_settle 125 = .ok (.ifCond .eq 9, 3) := by decide +kernel
theorem dX4_settle_128 : decode cX4_settle 128 = .ok (.aload_n 0, 1) := by decide +kernel
theorem dX4_settle_129 : decode cX4_settle 129 = .ok (.iload_n 3, 1) := by decide +kernel
theorem dX4_settle_130 : decode cX4_settle 130 = .ok (.iload_n 2, 1) := by decide +kernel
theorem dX4_settle_131 : decode cX4_settle 131 = .ok (.invokevirtual 50, 3) := by decide +kernel
theorem dX4_settle_134 : decode cX4_settle 134 = .ok (.iinc 3 1, 3) := by decide +kernel
theorem dX4_settle_137 : decode cX4_settle 137 = .ok (.goto (-81), 3) := by decide +kernel
theorem dX4_settle_140 : decode cX4_settle 140 = .ok (.aload_n 0, 1) := by decide +kernel
theorem dX4_settle_141 : decode cX4_settle 141 = .ok (.iload_n 2, 1) := by decide +kernel
theorem dX4_settle_142 : decode cX4_settle 142 = .ok (.putfield 9, 3) := by decide +kernel
theorem dX4_settle_145 : decode cX4_settle 145 = .ok (.iinc 2 1, 3) := by decide +kernel
theorem dX4_settle_148 : decode cX4_settle 148 = .ok (.goto (-99), 3) := by decide +kernel
theorem dX4_settle_151 : decode cX4_settle 151 = .ok (.return_, 1) := by decide +kernel
def s_X4_settle_112 (k49 : Nat → Int32 → Int32 → aH → aO) (k56 : Nat → Int32 → Int32 → Int32 → aH → aO) (l0 : Nat) (l1 : Int32) (l2 : Int32) (l3 : Int32) (s0 : Int32) (s1 : Int32) (s2 : Nat) (h : aH) : aO :=
  (stI h (.ref s2) s1 s0).bind fun h112 => if l2 ≤ 0 then (k56 l0 l1 l2 (l3 + 1) h112) else ((gO h112 (.ref l0) 4 2).bind fun x118 => kO h112 x118 10 (cI (s_X10_isGood x118 l3 h112) fun x122 h122 => if x122 = 0 then (k56 l0 l1 l2 (l3 + 1) h122) else (kO h122 l0 4 (cN (s_X4_choose l0 l3 l2 h122) fun h131 => k56 l0 l1 l2 (l3 + 1) h131))))
def s_X4_settle_56_b (k49 : Nat → Int32 → Int32 → aH → aO) (k56 : Nat → Int32 → Int32 → Int32 → aH → aO) (l0 : Nat) (l1 : Int32) (l2 : Int32) (l3 : Int32) (h : aH) : aO :=
  (gO h (.ref l0) 4 0).bind fun x58 => (gI h (.ref x58) 2 12).bind fun x61 => if x61 ≤ l3 then ((pF h (.ref l0) 4 3 (.int l2)).bind fun h142 => k49 l0 l1 (l2 + 1) h142) else ((gO h (.ref l0) 4 0).bind fun x69 => (gI h (.ref x69) 2 12).bind fun x72 => (gO h (.ref l0) 4 5).bind fun x81 => (stI h (.ref x81) ((l2 * x72) + l3) (-2)).bind fun h88 => (gO h88 (.ref l0) 4 4).bind fun x90 => (gO h88 (.ref l0) 4 2).bind fun x96 => kO h88 x96 10 (cI (s_X10_isGood x96 l3 h88) fun x100 h100 => if x100 = 0 then (s_X4_settle_112 k49 k56 l0 l1 l2 l3 1000000 ((l2 * x72) + l3) x90 h100) else (s_X4_settle_112 k49 k56 l0 l1 l2 l3 0 ((l2 * x72) + l3) x90 h100)))
def s_X4_settle_56 (k49 : Nat → Int32 → Int32 → aH → aO) (n : Nat) : Nat → Int32 → Int32 → Int32 → aH → aO := lpF (fun _ _ _ _ _ => none) (s_X4_settle_56_b k49) n
def s_X4_settle_49_b  (k49 : Nat → Int32 → Int32 → aH → aO) (l0 : Nat) (l1 : Int32) (l2 : Int32) (h : aH) : aO :=
  if l1 < l2 then (some (.inl none, h)) else (s_X4_settle_56 k49 FU l0 l1 l2 0 h)
def s_X4_settle_49  (n : Nat) : Nat → Int32 → Int32 → aH → aO := lpF (fun _ _ _ _ => none) (s_X4_settle_49_b ) n
def s_X4_settle (o : Nat) (a1 : Int32) (h : aH) : aP :=
  (gO h (.ref o) 4 4).bind fun x2 => (gO h (.ref o) 4 0).bind fun x8 => (gI h (.ref x8) 2 12).bind fun x11 => dR (s_X11_longEnough x2 (21 * x11) h) fun x15 h15 n15 y15 => ck (0 + n15) (0 + y15) ((pF h15 (.ref o) 4 4 (.ref x15)).bind fun h18 => (gO h18 (.ref o) 4 5).bind fun x23 => (gO h18 (.ref o) 4 0).bind fun x29 => (gI h18 (.ref x29) 2 12).bind fun x32 => dR (s_X11_longEnough x23 (21 * x32) h18) fun x36 h36 n36 y36 => ck (0 + n15 + n36) (0 + y15 + y36) (wC (0 + n15 + n36) (0 + y15 + y36) ((pF h36 (.ref o) 4 5 (.ref x36)).bind fun h39 => (gI h39 (.ref o) 4 3).bind fun x43 => s_X4_settle_49 FU o a1 (x43 + 1) h39)))
section
variable {p : Program} {l : Launch} {e : Env} {s : State} {m : MethodId} {args : Array Value} {below : List Frame} {meth : Method} {c : Code} {D : va_G} {B0 : Nat} {X : Nat → Nat} {ws0 : va_W} {r : aR} {h' : aH} {mc ms : Nat}
theorem t_X4_settle_112 (C : Cx p l s m args meth c B0 X RX4 "settle" cX4_settle 5 none []) {k49 : Nat → Int32 → Int32 → aH → aO} {k56 : Nat → Int32 → Int32 → Int32 → aH → aO} (K49 : ∀ (l0 : Nat) (l1 : Int32) (l2 : Int32) (h : aH), k49 l0 l1 l2 h = some (r, h') → Ev p l e { frames := 4, cells := mc, slots := ms, locals := 99 } s m args below meth c D B0 X ws0 r h' mc ms 5 mc ms 49 [some (.ref l0), some (.int l1), some (.int l2), none, none] [] h) (K56 : ∀ (l0 : Nat) (l1 : Int32) (l2 : Int32) (l3 : Int32) (h : aH), k56 l0 l1 l2 l3 h = some (r, h') → Ev p l e { frames := 4, cells := mc, slots := ms, locals := 99 } s m args below meth c D B0 X ws0 r h' mc ms 5 mc ms 56 [some (.ref l0), some (.int l1), some (.int l2), some (.int l3), none] [] h) {l0 : Nat} {l1 : Int32} {l2 : Int32} {l3 : Int32} {s0 : Int32} {s1 : Int32} {s2 : Nat} {h : aH} (hs : s_X4_settle_112 k49 k56 l0 l1 l2 l3 s0 s1 s2 h = some (r, h')) : Ev p l e { frames := 4, cells := mc, slots := ms, locals := 99 } s m args below meth c D B0 X ws0 r h' mc ms 5 mc ms 112 [some (.ref l0), some (.int l1), some (.int l2), some (.int l3), none] [.int s0, .int s1, .ref s2] h := by
  unfold s_X4_settle_112 at hs
  obtain ⟨h112, e112, hs⟩ := aB hs
  refine ev_iast C e112 dX4_settle_112 ?_
  refine ev_iload_n C rfl dX4_settle_113 ?_
  refine ev_if_le C (tgt := 134) (by decide) dX4_settle_114 (fun q114 => ?_) (fun q114 => ?_)
  · replace hs := (if_pos q114).symm.trans hs
    refine ev_iinc C (i := 3) (n := 1) (x := l3) (v := l3 + 1) rfl (congrArg (fun z => l3 + z) (show Int32.ofInt 1 = 1 by decide)) (by decide) dX4_settle_134 ?_
    refine ev_goto C (tgt := 56) (by decide) dX4_settle_137 ?_
    exact (K56 _ _ _ _ _ hs)
  · replace hs := (if_neg q114).symm.trans hs
    refine ev_aload_n C (x := .ref l0) rfl trivial dX4_settle_117 ?_
    obtain ⟨x118, e118, hs⟩ := aB hs
    refine ev_get C (ci := 4) (k := 2) rfl wu_4 (by decide) wf_X4_30 (gO_F e118) dX4_settle_118 ?_
    refine ev_iload_n C rfl dX4_settle_121 ?_
    obtain ⟨eo122, hs⟩ := kO_at hs
    obtain ⟨x122, h122, e122, hs⟩ := cI_at hs
    refine ev_callVN C (T_X10_isGood _ _ _ _ _ e122) (ci := 10) rfl eo122 wc_X10_isGood wn_X4_43 wi_X10_isGood ws_X10_isGood wz_X10 hy_X10_isGood ⟨(Nat.le_of_ble_eq_true rfl), (Nat.le_of_ble_eq_true rfl)⟩ ⟨(Nat.le_refl _), (Nat.le_refl _)⟩ (Nat.le_of_ble_eq_true rfl) rfl dX4_settle_122 ?_
    refine ev_if_eq C (tgt := 134) (by decide) dX4_settle_125 (fun q125 => ?_) (fun q125 => ?_)
    · replace hs := (if_pos q125).symm.trans hs
      refine ev_iinc C (i := 3) (n := 1) (x := l3) (v := l3 + 1) rfl (congrArg (fun z => l3 + z) (show Int32.ofInt 1 = 1 by decide)) (by decide) dX4_settle_134 ?_
      refine ev_goto C (tgt := 56) (by decide) dX4_settle_137 ?_
      exact (K56 _ _ _ _ _ hs)
    · replace hs := (if_neg q125).symm.trans hs
      refine ev_aload_n C (x := .ref l0) rfl trivial dX4_settle_128 ?_
      refine ev_iload_n C rfl dX4_settle_129 ?_
      refine ev_iload_n C rfl dX4_settle_130 ?_
      obtain ⟨eo131, hs⟩ := kO_at hs
      obtain ⟨h131, e131, hs⟩ := cN_at hs
      refine ev_callV C (T_X4_choose _ _ _ _ _ _ e131) (ci := 4) rfl eo131 wc_X4_choose wm_X4_50 wi_X4_choose ws_X4_choose wz_X4 hy_X4_choose ⟨(Nat.le_of_ble_eq_true rfl), (Nat.le_of_ble_eq_true rfl)⟩ ⟨(Nat.le_refl _), (Nat.le_refl _)⟩ (Nat.le_of_ble_eq_true rfl) rfl dX4_settle_131 ?_
      refine ev_iinc C (i := 3) (n := 1) (x := l3) (v := l3 + 1) rfl (congrArg (fun z => l3 + z) (show Int32.ofInt 1 = 1 by decide)) (by decide) dX4_settle_134 ?_
      refine ev_goto C (tgt := 56) (by decide) dX4_settle_137 ?_
      exact (K56 _ _ _ _ _ hs)
theorem t_X4_settle_56_b (C : Cx p l s m args meth c B0 X RX4 "settle" cX4_settle 5 none []) {k49 : Nat → Int32 → Int32 → aH → aO} (K49 : ∀ (l0 : Nat) (l1 : Int32) (l2 : Int32) (h : aH), k49 l0 l1 l2 h = some (r, h') → Ev p l e { frames := 4, cells := mc, slots := ms, locals := 99 } s m args below meth c D B0 X ws0 r h' mc ms 5 mc ms 49 [some (.ref l0), some (.int l1), some (.int l2), none, none] [] h) {k56 : Nat → Int32 → Int32 → Int32 → aH → aO} (K56 : ∀ (l0 : Nat) (l1 : Int32) (l2 : Int32) (l3 : Int32) (h : aH), k56 l0 l1 l2 l3 h = some (r, h') → Ev p l e { frames := 4, cells := mc, slots := ms, locals := 99 } s m args below meth c D B0 X ws0 r h' mc ms 5 mc ms 56 [some (.ref l0), some (.int l1), some (.int l2), some (.int l3), none] [] h) {l0 : Nat} {l1 : Int32} {l2 : Int32} {l3 : Int32} {h : aH} (hs : s_X4_settle_56_b k49 k56 l0 l1 l2 l3 h = some (r, h')) : Ev p l e { frames := 4, cells := mc, slots := ms, locals := 99 } s m args below meth c D B0 X ws0 r h' mc ms 5 mc ms 56 [some (.ref l0), some (.int l1), some (.int l2), some (.int l3), none] [] h := by
  unfold s_X4_settle_56_b at hs
  refine ev_iload_n C rfl dX4_settle_56 ?_
  refine ev_aload_n C (x := .ref l0) rfl trivial dX4_settle_57 ?_
  obtain ⟨x58, e58, hs⟩ := aB hs
  refine ev_get C (ci := 4) (k := 0) rfl wu_4 (by decide) wf_X4_22 (gO_F e58) dX4_settle_58 ?_
  obtain ⟨x61, e61, hs⟩ := aB hs
  refine ev_getN C (ci := 2) (k := 12) rfl wu_2 (by decide) wg_X4_34 (gI_F e61) dX4_settle_61 ?_
  refine ev_icmp_ge C (tgt := 140) (by decide) dX4_settle_64 (fun q64 => ?_) (fun q64 => ?_)
  · replace hs := (if_pos q64).symm.trans hs
    refine ev_aload_n C (x := .ref l0) rfl trivial dX4_settle_140 ?_
    refine ev_iload_n C rfl dX4_settle_141 ?_
    obtain ⟨h142, e142, hs⟩ := aB hs
    refine ev_put C (ci := 4) (k := 3) rfl wu_4 (by decide) tyX4 tyX4_ok nmX4 wf_X4_9 rfl trivial e142 dX4_settle_142 ?_
    refine ev_iinc C (i := 2) (n := 1) (x := l2) (v := l2 + 1) rfl (congrArg (fun z => l2 + z) (show Int32.ofInt 1 = 1 by decide)) (by decide) dX4_settle_145 ?_
    refine ev_goto C (tgt := 49) (by decide) dX4_settle_148 ?_
    exact Ev.keep [true, true, true, false, true] (K49 _ _ _ _ hs)
  · replace hs := (if_neg q64).symm.trans hs
    refine ev_iload_n C rfl dX4_settle_67 ?_
    refine ev_aload_n C (x := .ref l0) rfl trivial dX4_settle_68 ?_
    obtain ⟨x69, e69, hs⟩ := aB hs
    refine ev_get C (ci := 4) (k := 0) rfl wu_4 (by decide) wf_X4_22 (gO_F e69) dX4_settle_69 ?_
    obtain ⟨x72, e72, hs⟩ := aB hs
    refine ev_getN C (ci := 2) (k := 12) rfl wu_2 (by decide) wg_X4_34 (gI_F e72) dX4_settle_72 ?_
    refine ev_imul C dX4_settle_75 ?_
    refine ev_iload_n C rfl dX4_settle_76 ?_
    refine ev_iadd C dX4_settle_77 ?_
    refine ev_istore C (by decide) dX4_settle_78 ?_
    refine ev_aload_n C (x := .ref l0) rfl trivial dX4_settle_80 ?_
    obtain ⟨x81, e81, hs⟩ := aB hs
    refine ev_get C (ci := 4) (k := 5) rfl wu_4 (by decide) wf_X4_19 (gO_F e81) dX4_settle_81 ?_
    refine ev_iload C rfl dX4_settle_84 ?_
    refine ev_bipush C (v := (-2)) dX4_settle_86 (by decide) ?_
    obtain ⟨h88, e88, hs⟩ := aB hs
    refine ev_iast C e88 dX4_settle_88 ?_
    refine ev_aload_n C (x := .ref l0) rfl trivial dX4_settle_89 ?_
    obtain ⟨x90, e90, hs⟩ := aB hs
    refine ev_get C (ci := 4) (k := 4) rfl wu_4 (by decide) wf_X4_15 (gO_F e90) dX4_settle_90 ?_
    refine ev_iload C rfl dX4_settle_93 ?_
    refine ev_aload_n C (x := .ref l0) rfl trivial dX4_settle_95 ?_
    obtain ⟨x96, e96, hs⟩ := aB hs
    refine ev_get C (ci := 4) (k := 2) rfl wu_4 (by decide) wf_X4_30 (gO_F e96) dX4_settle_96 ?_
    refine ev_iload_n C rfl dX4_settle_99 ?_
    obtain ⟨eo100, hs⟩ := kO_at hs
    obtain ⟨x100, h100, e100, hs⟩ := cI_at hs
    refine ev_callVN C (T_X10_isGood _ _ _ _ _ e100) (ci := 10) rfl eo100 wc_X10_isGood wn_X4_43 wi_X10_isGood ws_X10_isGood wz_X10 hy_X10_isGood ⟨(Nat.le_of_ble_eq_true rfl), (Nat.le_of_ble_eq_true rfl)⟩ ⟨(Nat.le_refl _), (Nat.le_refl _)⟩ (Nat.le_of_ble_eq_true rfl) rfl dX4_settle_100 ?_
    refine ev_if_eq C (tgt := 110) (by decide) dX4_settle_103 (fun q103 => ?_) (fun q103 => ?_)
    · replace hs := (if_pos q103).symm.trans hs
      refine ev_ldc C wv_X4_49 dX4_settle_110 ?_
      exact Ev.keep [true, true, true, true, false] (t_X4_settle_112 C K49 K56 hs)
    · replace hs := (if_neg q103).symm.trans hs
      refine ev_iconst C (v := 0) dX4_settle_106 (by decide) ?_
      refine ev_goto C (tgt := 112) (by decide) dX4_settle_107 ?_
      exact Ev.keep [true, true, true, true, false] (t_X4_settle_112 C K49 K56 hs)
theorem t_X4_settle_56 (C : Cx p l s m args meth c B0 X RX4 "settle" cX4_settle 5 none []) {k49 : Nat → Int32 → Int32 → aH → aO} (K49 : ∀ (l0 : Nat) (l1 : Int32) (l2 : Int32) (h : aH), k49 l0 l1 l2 h = some (r, h') → Ev p l e { frames := 4, cells := mc, slots := ms, locals := 99 } s m args below meth c D B0 X ws0 r h' mc ms 5 mc ms 49 [some (.ref l0), some (.int l1), some (.int l2), none, none] [] h) : ∀ (n : Nat) {l0 : Nat} {l1 : Int32} {l2 : Int32} {l3 : Int32} {h : aH} (hs : s_X4_settle_56 k49 n l0 l1 l2 l3 h = some (r, h')), Ev p l e { frames := 4, cells := mc, slots := ms, locals := 99 } s m args below meth c D B0 X ws0 r h' mc ms 5 mc ms 56 [some (.ref l0), some (.int l1), some (.int l2), some (.int l3), none] [] h
  | 0, _, _, _, _, _, hs => nomatch hs
  | n + 1, _, _, _, _, _, hs => t_X4_settle_56_b C K49 (k56 := s_X4_settle_56 k49 n) (fun _ _ _ _ _ hs => t_X4_settle_56 C K49 n hs) hs
theorem t_X4_settle_49_b (C : Cx p l s m args meth c B0 X RX4 "settle" cX4_settle 5 none [])   {k49 : Nat → Int32 → Int32 → aH → aO} (K49 : ∀ (l0 : Nat) (l1 : Int32) (l2 : Int32) (h : aH), k49 l0 l1 l2 h = some (r, h') → Ev p l e { frames := 4, cells := mc, slots := ms, locals := 99 } s m args below meth c D B0 X ws0 r h' mc ms 5 mc ms 49 [some (.ref l0), some (.int l1), some (.int l2), none, none] [] h) {l0 : Nat} {l1 : Int32} {l2 : Int32} {h : aH} (hs : s_X4_settle_49_b  k49 l0 l1 l2 h = some (r, h')) : Ev p l e { frames := 4, cells := mc, slots := ms, locals := 99 } s m args below meth c D B0 X ws0 r h' mc ms 5 mc ms 49 [some (.ref l0), some (.int l1), some (.int l2), none, none] [] h := by
  unfold s_X4_settle_49_b at hs
  refine ev_iload_n C rfl dX4_settle_49 ?_
  refine ev_iload_n C rfl dX4_settle_50 ?_
  refine ev_icmp_gt C (tgt := 151) (by decide) dX4_settle_51 (fun q51 => ?_) (fun q51 => ?_)
  · replace hs := (if_pos q51).symm.trans hs
    cases hs
    exact ev_vret C rfl rfl (Nat.le_refl _) (Nat.le_refl _) rfl dX4_settle_151
  · replace hs := (if_neg q51).symm.trans hs
    refine ev_iconst C (v := 0) dX4_settle_54 (by decide) ?_
    refine ev_istore_n C (by decide) dX4_settle_55 ?_
    exact (t_X4_settle_56 C K49 FU hs)
theorem t_X4_settle_49 (C : Cx p l s m args meth c B0 X RX4 "settle" cX4_settle 5 none [])   : ∀ (n : Nat) {l0 : Nat} {l1 : Int32} {l2 : Int32} {h : aH} (hs : s_X4_settle_49  n l0 l1 l2 h = some (r, h')), Ev p l e { frames := 4, cells := mc, slots := ms, locals := 99 } s m args below meth c D B0 X ws0 r h' mc ms 5 mc ms 49 [some (.ref l0), some (.int l1), some (.int l2), none, none] [] h
  | 0, _, _, _, _, hs => nomatch hs
  | n + 1, _, _, _, _, hs => t_X4_settle_49_b C  (k49 := s_X4_settle_49  n) (fun _ _ _ _ hs => t_X4_settle_49 C  n hs) hs
theorem hy_X4_settle : yX4_settle.cls ≠ "java/lang/invoke/MethodHandle" ∧ yX4_settle.cls ≠ "java/lang/invoke/VarHandle" ∧ (parseMethodDescriptor yX4_settle.desc).map (fun d => d.parameters.length) = some 1 := by decide +kernel
theorem T_X4_settle (o : Nat) (a1 : Int32) (h : aH) (r : aR) (h' : aH) (mc ms : Nat) (hs : s_X4_settle o a1 h = some (r, h', mc, ms)) : Mt yX4_settle (Cond.code yX4_settle cX4_settle 5 none :: aTB) 4 99 mc ms [.ref o, .int a1] h r h' := by
  unfold s_X4_settle at hs
  refine Mt_of (k := 3) (by decide) rfl (fun p l e s m args below meth c D B0 X ws0 C => ?_)
  show Ev p l e { frames := 4, cells := mc, slots := ms, locals := 99 } s m args below meth c D B0 X ws0 r h' mc ms 5 0 0 0 [some (.ref o), some (.int a1), none, none, none] [] h
  refine ev_aload_n C (x := .ref o) rfl trivial dX4_settle_0 ?_
  refine ev_aload_n C (x := .ref o) rfl trivial dX4_settle_1 ?_
  obtain ⟨x2, e2, hs⟩ := aB hs
  refine ev_get C (ci := 4) (k := 4) rfl wu_4 (by decide) wf_X4_15 (gO_F e2) dX4_settle_2 ?_
  refine ev_bipush C (v := 21) dX4_settle_5 (by decide) ?_
  refine ev_aload_n C (x := .ref o) rfl trivial dX4_settle_7 ?_
  obtain ⟨x8, e8, hs⟩ := aB hs
  refine ev_get C (ci := 4) (k := 0) rfl wu_4 (by decide) wf_X4_22 (gO_F e8) dX4_settle_8 ?_
  obtain ⟨x11, e11, hs⟩ := aB hs
  refine ev_getN C (ci := 2) (k := 12) rfl wu_2 (by decide) wg_X4_34 (gI_F e11) dX4_settle_11 ?_
  refine ev_imul C dX4_settle_14 ?_
  obtain ⟨x15, h15, n15, y15, e15, hs⟩ := dR_at hs
  obtain ⟨c15, z15, hs⟩ := ck_at hs
  refine ev_callSN C (T_X11_longEnough _ _ _ _ _ _ _ e15) wc_X11_longEnough wn_X4_39 wt_X11_longEnough wz_X11 hy_X11_longEnough ⟨(Nat.le_of_ble_eq_true rfl), (Nat.le_of_ble_eq_true rfl)⟩ ⟨c15, z15⟩ (Nat.le_of_ble_eq_true rfl) rfl dX4_settle_15 ?_
  obtain ⟨h18, e18, hs⟩ := aB hs
  refine ev_put C (ci := 4) (k := 4) rfl wu_4 (by decide) tyX4 tyX4_ok nmX4 wf_X4_15 rfl trivial e18 dX4_settle_18 ?_
  refine ev_aload_n C (x := .ref o) rfl trivial dX4_settle_21 ?_
  refine ev_aload_n C (x := .ref o) rfl trivial dX4_settle_22 ?_
  obtain ⟨x23, e23, hs⟩ := aB hs
  refine ev_get C (ci := 4) (k := 5) rfl wu_4 (by decide) wf_X4_19 (gO_F e23) dX4_settle_23 ?_
  refine ev_bipush C (v := 21) dX4_settle_26 (by decide) ?_
  refine ev_aload_n C (x := .ref o) rfl trivial dX4_settle_28 ?_
  obtain ⟨x29, e29, hs⟩ := aB hs
  refine ev_get C (ci := 4) (k := 0) rfl wu_4 (by decide) wf_X4_22 (gO_F e29) dX4_settle_29 ?_
  obtain ⟨x32, e32, hs⟩ := aB hs
  refine ev_getN C (ci := 2) (k := 12) rfl wu_2 (by decide) wg_X4_34 (gI_F e32) dX4_settle_32 ?_
  refine ev_imul C dX4_settle_35 ?_
  obtain ⟨x36, h36, n36, y36, e36, hs⟩ := dR_at hs
  obtain ⟨c36, z36, hs⟩ := ck_at hs
  refine ev_callSN C (T_X11_longEnough _ _ _ _ _ _ _ e36) wc_X11_longEnough wn_X4_39 wt_X11_longEnough wz_X11 hy_X11_longEnough ⟨(Nat.le_of_ble_eq_true rfl), (Nat.le_of_ble_eq_true rfl)⟩ ⟨c36, z36⟩ (Nat.le_of_ble_eq_true rfl) rfl dX4_settle_36 ?_
  obtain ⟨hw9, rfl, rfl⟩ := wC_at hs
  have hs := hw9
  obtain ⟨h39, e39, hs⟩ := aB hs
  refine ev_put C (ci := 4) (k := 5) rfl wu_4 (by decide) tyX4 tyX4_ok nmX4 wf_X4_19 rfl trivial e39 dX4_settle_39 ?_
  refine ev_aload_n C (x := .ref o) rfl trivial dX4_settle_42 ?_
  obtain ⟨x43, e43, hs⟩ := aB hs
  refine ev_get C (ci := 4) (k := 3) rfl wu_4 (by decide) wf_X4_9 (gI_F e43) dX4_settle_43 ?_
  refine ev_iconst C (v := 1) dX4_settle_46 (by decide) ?_
  refine ev_iadd C dX4_settle_47 ?_
  refine ev_istore_n C (by decide) dX4_settle_48 ?_
  exact (t_X4_settle_49 C  FU hs)
end
