def yRE : MethodName := ⟨"java/lang/RuntimeException", "<init>", "(Ljava/lang/String;Ljava/lang/Throwable;ZZ)V"⟩
theorem wc_RE : Cond.code yRE prog_20_method_5_code 5 none ∈ aTB := aTB_of (wi_7 _ (List.mem_of_getElem? (i := 170) rfl)) rfl
theorem wi_RE : Cond.instanceMethod yRE ∈ aTB := aTB_of (wi_7 _ (List.mem_of_getElem? (i := 169) rfl)) rfl
theorem wz_RE_ : Cond.initialized "java/lang/RuntimeException" ∈ aTB := aTB_of (wi_1 _ (List.mem_of_getElem? (i := 17) rfl)) rfl
theorem hy_RE : yRE.cls ≠ "java/lang/invoke/MethodHandle" ∧ yRE.cls ≠ "java/lang/invoke/VarHandle" ∧ (parseMethodDescriptor yRE.desc).map (fun d => d.parameters.length) = some 4 := by decide +kernel
def yEX : MethodName := ⟨"java/lang/Exception", "<init>", "(Ljava/lang/String;Ljava/lang/Throwable;ZZ)V"⟩
theorem wc_EX : Cond.code yEX prog_17_method_5_code 5 none ∈ aTB := aTB_of (wi_7 _ (List.mem_of_getElem? (i := 173) rfl)) rfl
theorem wi_EX : Cond.instanceMethod yEX ∈ aTB := aTB_of (wi_7 _ (List.mem_of_getElem? (i := 172) rfl)) rfl
theorem wz_EX_ : Cond.initialized "java/lang/Exception" ∈ aTB := aTB_of (wi_1 _ (List.mem_of_getElem? (i := 16) rfl)) rfl
theorem hy_EX : yEX.cls ≠ "java/lang/invoke/MethodHandle" ∧ yEX.cls ≠ "java/lang/invoke/VarHandle" ∧ (parseMethodDescriptor yEX.desc).map (fun d => d.parameters.length) = some 4 := by decide +kernel
def yTH : MethodName := ⟨"java/lang/Throwable", "<init>", "(Ljava/lang/String;Ljava/lang/Throwable;ZZ)V"⟩
theorem wc_TH : Cond.code yTH prog_25_method_5_code 5 none ∈ aTB := aTB_of (wi_7 _ (List.mem_of_getElem? (i := 176) rfl)) rfl
theorem wi_TH : Cond.instanceMethod yTH ∈ aTB := aTB_of (wi_7 _ (List.mem_of_getElem? (i := 175) rfl)) rfl
theorem wz_TH_ : Cond.initialized "java/lang/Throwable" ∈ aTB := aTB_of (wi_1 _ (List.mem_of_getElem? (i := 15) rfl)) rfl
theorem hy_TH : yTH.cls ≠ "java/lang/invoke/MethodHandle" ∧ yTH.cls ≠ "java/lang/invoke/VarHandle" ∧ (parseMethodDescriptor yTH.desc).map (fun d => d.parameters.length) = some 4 := by decide +kernel
theorem wm_X12_1_ : Cond.methodLink RX12 1 yRE ∈ aTB := aTB_of (wi_7 _ (List.mem_of_getElem? (i := 168) rfl)) rfl
theorem wm_RE_16 : Cond.methodLink "java/lang/RuntimeException" 16 yEX ∈ aTB := aTB_of (wi_7 _ (List.mem_of_getElem? (i := 171) rfl)) rfl
theorem wm_EX_16 : Cond.methodLink "java/lang/Exception" 16 yTH ∈ aTB := aTB_of (wi_7 _ (List.mem_of_getElem? (i := 174) rfl)) rfl
theorem wm_TH_1 : Cond.methodLink "java/lang/Throwable" 1 Lib.objectInit ∈ aTB := aTB_of (wi_7 _ (List.mem_of_getElem? (i := 36) rfl)) rfl
theorem ev_getsU {p : Program} {l : Launch} {e : Env} {R : Room} {s : State} {m : MethodId} {args : Array Value} {below : List Frame} {meth : Method} {c : Code} {D : va_G} {B0 : Nat} {X : Nat → Nat} {ws0 : va_W} {r : aR} {h' : aH} {mc ms nL cells slots pc : Nat} {L : List (Option Value)} {st : List Value} {h : aH} {own nm : String} {cc : ByteArray} {ret : Option FieldType} {hh : List (Nat × Nat × Nat × Nat)} (C : Cx p l s m args meth c B0 X own nm cc nL ret hh) {index : Nat} {cl n d : String} (hz : va_Zq cl n d (aA B0) s s.heap) (hlk : Cond.fieldLink own index cl n d ∈ aTB) (hd : decode cc pc = .ok (.getstatic index, 3))
    (kk : ∀ x : Value, aRf x → Ev p l e R s m args below meth c D B0 X ws0 r h' mc ms nL cells slots (pc + 3) L (x :: st) h) : Ev p l e R s m args below meth c D B0 X ws0 r h' mc ms nL cells slots pc L st h := by
  intro ws H locs ls mst hx hw hS hl hs
  rcases hz with hz | ⟨t, hz⟩
  · exact va_gets C.1 C.2.1 hz hS C.2.2.2.1 (C.2.2.2.2.1 _ hlk) (fun _ q => q) hd (kk .null trivial ws H locs ls _ hx hw hS hl ⟨_, _, rfl, rfl, hs⟩)
  · exact va_gets C.1 C.2.1 hz hS C.2.2.2.1 (C.2.2.2.2.1 _ hlk) (fun _ q => q) hd (kk (.ref aE) trivial ws H locs ls _ hx hw hS hl ⟨_, _, rfl, Or.inr (Or.inr ⟨rfl, t, rfl⟩), hs⟩)
theorem pF_G {h : aH} {o ci k : Nat} {fs : List Value} {x : Value} (ho : o < aE) (hl : o < h.length) (hk : k < fs.length) : pF (h.set o (.inr (ci, fs))) (.ref o) ci k x = some (h.set o (.inr (ci, fs.set k x))) := by
  unfold pF
  simp [ho, hl, hk]
def s_X12_init (o : Nat) (h : aH) : aO := match h[o]? with
  | some (.inr (c, fs)) => if o < aE ∧ c = 12 ∧ fs = dfX12 then some (.inl none, h) else none
  | _ => none
theorem s_X12_at {o : Nat} {h h' : aH} {r : aR} (hs : s_X12_init o h = some (r, h')) : o < aE ∧ h[o]? = some (.inr (12, dfX12)) ∧ r = .inl none ∧ h' = h := by
  unfold s_X12_init at hs
  split at hs
  · rename_i c fs hc
    split at hs
    · rename_i hq
      obtain ⟨q1, rfl, rfl⟩ := hq
      cases hs
      exact ⟨q1, hc, rfl, rfl⟩
    · cases hs
  · cases hs
theorem dTH_0 : decode prog_25_method_5_code 0 = .ok (.aload_n 0, 1) := by decide +kernel
theorem dTH_1 : decode prog_25_method_5_code 1 = .ok (.invokespecial 1, 3) := by decide +kernel
theorem dTH_4 : decode prog_25_method_5_code 4 = .ok (.aload_n 0, 1) := by decide +kernel
theorem dTH_5 : decode prog_25_method_5_code 5 = .ok (.aload_n 0, 1) := by decide +kernel
theorem dTH_6 : decode prog_25_method_5_code 6 = .ok (.putfield 7, 3) := by decide +kernel
theorem dTH_9 : decode prog_25_method_5_code 9 = .ok (.aload_n 0, 1) := by decide +kernel
theorem dTH_10 : decode prog_25_method_5_code 10 = .ok (.getstatic 13, 3) := by decide +kernel
theorem dTH_13 : decode prog_25_method_5_code 13 = .ok (.putfield 17, 3) := by decide +kernel
theorem dTH_16 : decode prog_25_method_5_code 16 = .ok (.aload_n 0, 1) := by decide +kernel
theorem dTH_17 : decode prog_25_method_5_code 17 = .ok (.getstatic 20, 3) := by decide +kernel
theorem dTH_20 : decode prog_25_method_5_code 20 = .ok (.putfield 24, 3) := by decide +kernel
theorem dTH_23 : decode prog_25_method_5_code 23 = .ok (.iload 4, 2) := by decide +kernel
theorem dTH_25 : decode prog_25_method_5_code 25 = .ok (.ifCond .eq 11, 3) := by decide +kernel
theorem dTH_36 : decode prog_25_method_5_code 36 = .ok (.aload_n 0, 1) := by decide +kernel
theorem dTH_37 : decode prog_25_method_5_code 37 = .ok (.aconst_null, 1) := by decide +kernel
theorem dTH_38 : decode prog_25_method_5_code 38 = .ok (.putfield 17, 3) := by decide +kernel
theorem dTH_41 : decode prog_25_method_5_code 41 = .ok (.aload_n 0, 1) := by decide +kernel
theorem dTH_42 : decode prog_25_method_5_code 42 = .ok (.aload_n 1, 1) := by decide +kernel
theorem dTH_43 : decode prog_25_method_5_code 43 = .ok (.putfield 31, 3) := by decide +kernel
theorem dTH_46 : decode prog_25_method_5_code 46 = .ok (.aload_n 0, 1) := by decide +kernel
theorem dTH_47 : decode prog_25_method_5_code 47 = .ok (.aload_n 2, 1) := by decide +kernel
theorem dTH_48 : decode prog_25_method_5_code 48 = .ok (.putfield 7, 3) := by decide +kernel
theorem dTH_51 : decode prog_25_method_5_code 51 = .ok (.iload_n 3, 1) := by decide +kernel
theorem dTH_52 : decode prog_25_method_5_code 52 = .ok (.ifCond .ne 8, 3) := by decide +kernel
theorem dTH_55 : decode prog_25_method_5_code 55 = .ok (.aload_n 0, 1) := by decide +kernel
theorem dTH_56 : decode prog_25_method_5_code 56 = .ok (.aconst_null, 1) := by decide +kernel
theorem dTH_57 : decode prog_25_method_5_code 57 = .ok (.putfield 24, 3) := by decide +kernel
theorem dTH_60 : decode prog_25_method_5_code 60 = .ok (.return_, 1) := by decide +kernel
theorem dRE_0 : decode prog_20_method_5_code 0 = .ok (.aload_n 0, 1) := by decide +kernel
theorem dRE_1 : decode prog_20_method_5_code 1 = .ok (.aload_n 1, 1) := by decide +kernel
theorem dRE_2 : decode prog_20_method_5_code 2 = .ok (.aload_n 2, 1) := by decide +kernel
theorem dRE_3 : decode prog_20_method_5_code 3 = .ok (.iload_n 3, 1) := by decide +kernel
theorem dRE_4 : decode prog_20_method_5_code 4 = .ok (.iload 4, 2) := by decide +kernel
theorem dRE_6 : decode prog_20_method_5_code 6 = .ok (.invokespecial 16, 3) := by decide +kernel
theorem dRE_9 : decode prog_20_method_5_code 9 = .ok (.return_, 1) := by decide +kernel
theorem dEX_0 : decode prog_17_method_5_code 0 = .ok (.aload_n 0, 1) := by decide +kernel
theorem dEX_1 : decode prog_17_method_5_code 1 = .ok (.aload_n 1, 1) := by decide +kernel
theorem dEX_2 : decode prog_17_method_5_code 2 = .ok (.aload_n 2, 1) := by decide +kernel
theorem dEX_3 : decode prog_17_method_5_code 3 = .ok (.iload_n 3, 1) := by decide +kernel
theorem dEX_4 : decode prog_17_method_5_code 4 = .ok (.iload 4, 2) := by decide +kernel
theorem dEX_6 : decode prog_17_method_5_code 6 = .ok (.invokespecial 16, 3) := by decide +kernel
theorem dEX_9 : decode prog_17_method_5_code 9 = .ok (.return_, 1) := by decide +kernel
theorem T_TH {o : Nat} {h : aH} (ho : o < aE) (hl : o < h.length) : Mt yTH (Cond.code yTH prog_25_method_5_code 5 none :: aTB) 1 20 0 0 [.ref o, .null, .null, .int 0, .int 0] (h.set o (.inr (12, dfX12))) (.inl none) (h.set o (.inr (12, dfX12))) := by
  refine Mt_of (k := 0) (by decide) rfl (fun p l e s m args below meth c D B0 X ws0 C => ?_)
  show Ev p l e { frames := 1, cells := 0, slots := 0, locals := 20 } s m args below meth c D B0 X ws0 (.inl none) (h.set o (.inr (12, dfX12))) 0 0 5 0 0 0 [some (.ref o), some .null, some .null, some (.int 0), some (.int 0)] [] (h.set o (.inr (12, dfX12)))
  refine ev_aload_n C (x := .ref o) rfl trivial dTH_0 ?_
  refine ev_objInit C wm_TH_1 wi_oinit wc_oinit (Nat.le_of_ble_eq_true rfl) (Nat.le_of_ble_eq_true rfl) dTH_1 ?_
  refine ev_aload_n C (x := .ref o) rfl trivial dTH_4 ?_
  refine ev_aload_n C (x := .ref o) rfl trivial dTH_5 ?_
  refine ev_put C (ci := 12) (k := 0) rfl wu_12 (by decide) tyX12 tyX12_ok nmX12 wf_TH_7 rfl (x := .ref o) trivial (pF_G ho hl (Nat.le_of_ble_eq_true rfl)) dTH_6 ?_
  refine ev_aload_n C (x := .ref o) rfl trivial dTH_9 ?_
  refine ev_getsU C C.2.2.2.2.2.2.2.2.1.2.2.2.2.1.1.1 wf_TH_13 dTH_10 (fun u hu => ?_)
  refine ev_put C (ci := 12) (k := 1) rfl wu_12 (by decide) tyX12 tyX12_ok nmX12 wf_TH_17 rfl (x := u) hu (pF_G ho hl (Nat.le_of_ble_eq_true rfl)) dTH_13 ?_
  refine ev_aload_n C (x := .ref o) rfl trivial dTH_16 ?_
  refine ev_getsU C C.2.2.2.2.2.2.2.2.1.2.2.2.2.1.2.1 wf_TH_20 dTH_17 (fun v hv => ?_)
  refine ev_put C (ci := 12) (k := 2) rfl wu_12 (by decide) tyX12 tyX12_ok nmX12 wf_TH_24 rfl (x := v) hv (pF_G ho hl (Nat.le_of_ble_eq_true rfl)) dTH_20 ?_
  refine ev_iload C rfl dTH_23 ?_
  refine ev_if_eq C (tgt := 36) (by decide) dTH_25 (fun _ => ?_) (fun q => absurd rfl q)
  refine ev_aload_n C (x := .ref o) rfl trivial dTH_36 ?_
  refine ev_null C dTH_37 ?_
  refine ev_put C (ci := 12) (k := 1) rfl wu_12 (by decide) tyX12 tyX12_ok nmX12 wf_TH_17 rfl (x := .null) trivial (pF_G ho hl (Nat.le_of_ble_eq_true rfl)) dTH_38 ?_
  refine ev_aload_n C (x := .ref o) rfl trivial dTH_41 ?_
  refine ev_aload_n C (x := .null) rfl trivial dTH_42 ?_
  refine ev_put C (ci := 12) (k := 3) rfl wu_12 (by decide) tyX12 tyX12_ok nmX12 wf_TH_31 rfl (x := .null) trivial (pF_G ho hl (Nat.le_of_ble_eq_true rfl)) dTH_43 ?_
  refine ev_aload_n C (x := .ref o) rfl trivial dTH_46 ?_
  refine ev_aload_n C (x := .null) rfl trivial dTH_47 ?_
  refine ev_put C (ci := 12) (k := 0) rfl wu_12 (by decide) tyX12 tyX12_ok nmX12 wf_TH_7 rfl (x := .null) trivial (pF_G ho hl (Nat.le_of_ble_eq_true rfl)) dTH_48 ?_
  refine ev_iload_n C rfl dTH_51 ?_
  refine ev_if_ne C (tgt := 60) (by decide) dTH_52 (fun q => absurd rfl q) (fun _ => ?_)
  refine ev_aload_n C (x := .ref o) rfl trivial dTH_55 ?_
  refine ev_null C dTH_56 ?_
  refine ev_put C (ci := 12) (k := 2) rfl wu_12 (by decide) tyX12 tyX12_ok nmX12 wf_TH_24 rfl (x := .null) trivial (pF_G ho hl (Nat.le_of_ble_eq_true rfl)) dTH_57 ?_
  exact ev_vret C rfl rfl (Nat.le_refl _) (Nat.le_refl _) rfl dTH_60
theorem T_EX {o : Nat} {h : aH} (ho : o < aE) (hl : o < h.length) : Mt yEX (Cond.code yEX prog_17_method_5_code 5 none :: aTB) 2 44 0 0 [.ref o, .null, .null, .int 0, .int 0] (h.set o (.inr (12, dfX12))) (.inl none) (h.set o (.inr (12, dfX12))) := by
  refine Mt_of (k := 0) (by decide) rfl (fun p l e s m args below meth c D B0 X ws0 C => ?_)
  show Ev p l e { frames := 2, cells := 0, slots := 0, locals := 44 } s m args below meth c D B0 X ws0 (.inl none) (h.set o (.inr (12, dfX12))) 0 0 5 0 0 0 [some (.ref o), some .null, some .null, some (.int 0), some (.int 0)] [] (h.set o (.inr (12, dfX12)))
  refine ev_aload_n C (x := .ref o) rfl trivial dEX_0 ?_
  refine ev_aload_n C (x := .null) rfl trivial dEX_1 ?_
  refine ev_aload_n C (x := .null) rfl trivial dEX_2 ?_
  refine ev_iload_n C rfl dEX_3 ?_
  refine ev_iload C rfl dEX_4 ?_
  refine ev_callI C (T_TH ho hl) wc_TH wm_EX_16 wi_TH wz_TH_ rfl hy_TH ⟨Nat.le_of_ble_eq_true rfl, Nat.le_of_ble_eq_true rfl⟩ ⟨Nat.le_refl _, Nat.le_refl _⟩ (Nat.le_of_ble_eq_true rfl) rfl dEX_6 ?_
  exact ev_vret C rfl rfl (Nat.le_refl _) (Nat.le_refl _) rfl dEX_9
theorem T_RE {o : Nat} {h : aH} (ho : o < aE) (hl : o < h.length) : Mt yRE (Cond.code yRE prog_20_method_5_code 5 none :: aTB) 3 68 0 0 [.ref o, .null, .null, .int 0, .int 0] (h.set o (.inr (12, dfX12))) (.inl none) (h.set o (.inr (12, dfX12))) := by
  refine Mt_of (k := 0) (by decide) rfl (fun p l e s m args below meth c D B0 X ws0 C => ?_)
  show Ev p l e { frames := 3, cells := 0, slots := 0, locals := 68 } s m args below meth c D B0 X ws0 (.inl none) (h.set o (.inr (12, dfX12))) 0 0 5 0 0 0 [some (.ref o), some .null, some .null, some (.int 0), some (.int 0)] [] (h.set o (.inr (12, dfX12)))
  refine ev_aload_n C (x := .ref o) rfl trivial dRE_0 ?_
  refine ev_aload_n C (x := .null) rfl trivial dRE_1 ?_
  refine ev_aload_n C (x := .null) rfl trivial dRE_2 ?_
  refine ev_iload_n C rfl dRE_3 ?_
  refine ev_iload C rfl dRE_4 ?_
  refine ev_callI C (T_EX ho hl) wc_EX wm_RE_16 wi_EX wz_EX_ rfl hy_EX ⟨Nat.le_of_ble_eq_true rfl, Nat.le_of_ble_eq_true rfl⟩ ⟨Nat.le_refl _, Nat.le_refl _⟩ (Nat.le_of_ble_eq_true rfl) rfl dRE_6 ?_
  exact ev_vret C rfl rfl (Nat.le_refl _) (Nat.le_refl _) rfl dRE_9
theorem dX12_init_0 : decode cX12_init 0 = .ok (.aload_n 0, 1) := by decide +kernel
theorem dX12_init_1 : decode cX12_init 1 = .ok (.aconst_null, 1) := by decide +kernel
theorem dX12_init_2 : decode cX12_init 2 = .ok (.aconst_null, 1) := by decide +kernel
theorem dX12_init_3 : decode cX12_init 3 = .ok (.iconst 0, 1) := by decide +kernel
theorem dX12_init_4 : decode cX12_init 4 = .ok (.iconst 0, 1) := by decide +kernel
theorem dX12_init_5 : decode cX12_init 5 = .ok (.invokespecial 1, 3) := by decide +kernel
theorem dX12_init_8 : decode cX12_init 8 = .ok (.return_, 1) := by decide +kernel
theorem hy_X12_init : yX12_init.cls ≠ "java/lang/invoke/MethodHandle" ∧ yX12_init.cls ≠ "java/lang/invoke/VarHandle" ∧ (parseMethodDescriptor yX12_init.desc).map (fun d => d.parameters.length) = some 0 := by decide +kernel
theorem T_X12_init (o : Nat) (h : aH) (r : aR) (h' : aH) (hs : s_X12_init o h = some (r, h')) : Mt yX12_init (Cond.code yX12_init cX12_init 1 none :: aTB) 4 92 0 0 [.ref o] h r h' := by
  obtain ⟨ho, hc, rfl, rfl⟩ := s_X12_at hs
  have hl : o < h'.length := (List.getElem?_eq_some_iff.mp hc).1
  have hG : h'.set o (.inr (12, dfX12)) = h' := by
    apply List.ext_getElem?
    intro i
    by_cases q : o = i
    · subst q
      rw [List.getElem?_set_self hl, hc]
    · rw [List.getElem?_set_ne q]
  have hM := T_RE (h := h') ho hl
  rw [hG] at hM
  refine Mt_of (k := 0) (by decide) rfl (fun p l e s m args below meth c D B0 X ws0 C => ?_)
  show Ev p l e { frames := 4, cells := 0, slots := 0, locals := 92 } s m args below meth c D B0 X ws0 (.inl none) h' 0 0 1 0 0 0 [some (.ref o)] [] h'
  refine ev_aload_n C (x := .ref o) rfl trivial dX12_init_0 ?_
  refine ev_null C dX12_init_1 ?_
  refine ev_null C dX12_init_2 ?_
  refine ev_iconst C (v := 0) dX12_init_3 (by decide) ?_
  refine ev_iconst C (v := 0) dX12_init_4 (by decide) ?_
  refine ev_callI C hM wc_RE wm_X12_1_ wi_RE wz_RE_ rfl hy_RE ⟨Nat.le_of_ble_eq_true rfl, Nat.le_of_ble_eq_true rfl⟩ ⟨Nat.le_refl _, Nat.le_refl _⟩ (Nat.le_of_ble_eq_true rfl) rfl dX12_init_5 ?_
  exact ev_vret C rfl rfl (Nat.le_refl _) (Nat.le_refl _) rfl dX12_init_8
theorem dJ3_checkIndex_8e157_0 : decode cJ3_checkIndex_8e157 0 = .ok (.iload_n 0, 1) := by decide +kernel
theorem dJ3_checkIndex_8e157_1 : decode cJ3_checkIndex_8e157 1 = .ok (.ifCond .lt 8, 3) := by decide +kernel
theorem dJ3_checkIndex_8e157_4 : decode cJ3_checkIndex_8e157 4 = .ok (.iload_n 0, 1) := by decide +kernel
theorem dJ3_checkIndex_8e157_5 : decode cJ3_checkIndex_8e157 5 = .ok (.iload_n 1, 1) := by decide +kernel
theorem dJ3_checkIndex_8e157_6 : decode cJ3_checkIndex_8e157 6 = .ok (.if_icmp .lt 10, 3) := by decide +kernel
theorem dJ3_checkIndex_8e157_9 : decode cJ3_checkIndex_8e157 9 = .ok (.aload_n 2, 1) := by decide +kernel
theorem dJ3_checkIndex_8e157_10 : decode cJ3_checkIndex_8e157 10 = .ok (.iload_n 0, 1) := by decide +kernel
theorem dJ3_checkIndex_8e157_11 : decode cJ3_checkIndex_8e157 11 = .ok (.iload_n 1, 1) := by decide +kernel
theorem dJ3_checkIndex_8e157_12 : decode cJ3_checkIndex_8e157 12 = .ok (.invokestatic 95, 3) := by decide +kernel
theorem dJ3_checkIndex_8e157_15 : decode cJ3_checkIndex_8e157 15 = .ok (.athrow, 1) := by decide +kernel
theorem dJ3_checkIndex_8e157_16 : decode cJ3_checkIndex_8e157 16 = .ok (.iload_n 0, 1) := by decide +kernel
theorem dJ3_checkIndex_8e157_17 : decode cJ3_checkIndex_8e157 17 = .ok (.ireturn, 1) := by decide +kernel
theorem hy_J3_checkIndex_8e157 : yJ3_checkIndex_8e157.cls ≠ "java/lang/invoke/MethodHandle" ∧ yJ3_checkIndex_8e157.cls ≠ "java/lang/invoke/VarHandle" ∧ (parseMethodDescriptor yJ3_checkIndex_8e157.desc).map (fun d => d.parameters.length) = some 3 := by decide +kernel
theorem dJ0_checkIndex_df160_0 : decode cJ0_checkIndex_df160 0 = .ok (.iload_n 0, 1) := by decide +kernel
theorem dJ0_checkIndex_df160_1 : decode cJ0_checkIndex_df160 1 = .ok (.iload_n 1, 1) := by decide +kernel
theorem dJ0_checkIndex_df160_2 : decode cJ0_checkIndex_df160 2 = .ok (.getstatic 1053, 3) := by decide +kernel
theorem dJ0_checkIndex_df160_5 : decode cJ0_checkIndex_df160 5 = .ok (.invokestatic 1059, 3) := by decide +kernel
theorem dJ0_checkIndex_df160_8 : decode cJ0_checkIndex_df160 8 = .ok (.pop, 1) := by decide +kernel
theorem dJ0_checkIndex_df160_9 : decode cJ0_checkIndex_df160 9 = .ok (.return_, 1) := by decide +kernel
theorem hy_J0_checkIndex_df160 : yJ0_checkIndex_df160.cls ≠ "java/lang/invoke/MethodHandle" ∧ yJ0_checkIndex_df160.cls ≠ "java/lang/invoke/VarHandle" ∧ (parseMethodDescriptor yJ0_checkIndex_df160.desc).map (fun d => d.parameters.length) = some 2 := by decide +kernel
theorem T_J3_checkIndex_8e157 {i n : Int32} {x : Value} {h : aH} (hx : aRf x) (h0 : ¬ i < 0) (h1 : i < n) : Mt yJ3_checkIndex_8e157 (Cond.code yJ3_checkIndex_8e157 cJ3_checkIndex_8e157 3 (some .int) :: aTB) 0 0 0 0 [.int i, .int n, x] h (.inl (some (.int i))) h := by
  have hA : aArgs [.int i, .int n, x] = [some (.int i), some (.int n), some x] := by
    cases x <;> first | rfl | exact hx.elim
  refine Mt_of (k := 0) (by decide) (by rw [hA]; rfl) (fun p l e s m args below meth c D B0 X ws0 C => ?_)
  rw [hA]
  refine ev_iload_n C rfl dJ3_checkIndex_8e157_0 ?_
  refine ev_if_lt C (tgt := 9) (by decide) dJ3_checkIndex_8e157_1 (fun q => absurd q h0) (fun _ => ?_)
  refine ev_iload_n C rfl dJ3_checkIndex_8e157_4 ?_
  refine ev_iload_n C rfl dJ3_checkIndex_8e157_5 ?_
  refine ev_icmp_lt C (tgt := 16) (by decide) dJ3_checkIndex_8e157_6 (fun _ => ?_) (fun q => absurd h1 q)
  refine ev_iload_n C rfl dJ3_checkIndex_8e157_16 ?_
  exact ev_iret C rfl rfl (Nat.le_refl _) (Nat.le_refl _) rfl dJ3_checkIndex_8e157_17
def s_J0_checkIndex_df160 (a1 a2 : Int32) (h : aH) : aO := if ¬ a1 < 0 ∧ a1 < a2 then some (.inl none, h) else none
theorem T_J0_checkIndex_df160 (a1 a2 : Int32) (h : aH) (r : aR) (h' : aH) (hs : s_J0_checkIndex_df160 a1 a2 h = some (r, h')) : Mt yJ0_checkIndex_df160 (Cond.code yJ0_checkIndex_df160 cJ0_checkIndex_df160 2 none :: aTB) 1 30 0 0 [.int a1, .int a2] h r h' := by
  unfold s_J0_checkIndex_df160 at hs
  split at hs
  · rename_i hq
    cases hs
    refine Mt_of (k := 0) (by decide) rfl (fun p l e s m args below meth c D B0 X ws0 C => ?_)
    show Ev p l e { frames := 1, cells := 0, slots := 0, locals := 30 } s m args below meth c D B0 X ws0 (.inl none) h 0 0 2 0 0 0 [some (.int a1), some (.int a2)] [] h
    refine ev_iload_n C rfl dJ0_checkIndex_df160_0 ?_
    refine ev_iload_n C rfl dJ0_checkIndex_df160_1 ?_
    refine ev_getsU C C.2.2.2.2.2.2.2.2.1.2.2.2.2.2.2.2.2.1 wf_J0_1053 dJ0_checkIndex_df160_2 (fun x hx => ?_)
    refine ev_callS C (T_J3_checkIndex_8e157 hx hq.1 hq.2) wc_J3_checkIndex_8e157 wm_J0_1059 wt_J3_checkIndex_8e157 wz_J3 hy_J3_checkIndex_8e157 ⟨Nat.le_of_ble_eq_true rfl, Nat.le_of_ble_eq_true rfl⟩ ⟨Nat.le_refl _, Nat.le_refl _⟩ (Nat.le_of_ble_eq_true rfl) rfl dJ0_checkIndex_df160_5 ?_
    refine ev_pop C rfl dJ0_checkIndex_df160_8 ?_
    exact ev_vret C rfl rfl (Nat.le_refl _) (Nat.le_refl _) rfl dJ0_checkIndex_df160_9
  · cases hs
