-- X14_need
theorem dX14_need_0 : decode cX14_need 0 = .ok (.aload_n 0, 1) := by decide +kernel
theorem dX14_need_1 : decode cX14_need 1 = .ok (.iload_n 1, 1) := by decide +kernel
theorem dX14_need_2 : decode cX14_need 2 = .ok (.invokevirtual 260, 3) := by decide +kernel
theorem dX14_need_5 : decode cX14_need 5 = .ok (.ifCond .ne 9, 3) := by decide +kernel
theorem dX14_need_8 : decode cX14_need 8 = .ok (.aload_n 0, 1) := by decide +kernel
theorem dX14_need_9 : decode cX14_need 9 = .ok (.iconst 1, 1) := by decide +kernel
theorem dX14_need_10 : decode cX14_need 10 = .ok (.invokevirtual 266, 3) := by decide +kernel
theorem dX14_need_13 : decode cX14_need 13 = .ok (.athrow, 1) := by decide +kernel
theorem dX14_need_14 : decode cX14_need 14 = .ok (.aload_n 0, 1) := by decide +kernel
theorem dX14_need_15 : decode cX14_need 15 = .ok (.invokevirtual 263, 3) := by decide +kernel
theorem dX14_need_18 : decode cX14_need 18 = .ok (.return_, 1) := by decide +kernel
def s_X14_need (o : Nat) (a1 : Int32) (h : aH) : aO :=
  kO h o 14 (cI (s_X14_is o a1 h) fun x2 h2 => if x2 = 0 then (kO h2 o 14 (cR (s_X14_stop o 1 h2) fun x10 h10 => kO h10 x10 12 (some (.inr (RX12, x10), h10)))) else (kO h2 o 14 (cN (s_X14_next o h2) fun h15 => some (.inl none, h15))))
section
variable {p : Program} {l : Launch} {e : Env} {s : State} {m : MethodId} {args : Array Value} {below : List Frame} {meth : Method} {c : Code} {D : va_G} {B0 : Nat} {X : Nat → Nat} {ws0 : va_W} {r : aR} {h' : aH} {mc ms : Nat}
theorem hy_X14_need : yX14_need.cls ≠ "java/lang/invoke/MethodHandle" ∧ yX14_need.cls ≠ "java/lang/invoke/VarHandle" ∧ (parseMethodDescriptor yX14_need.desc).map (fun d => d.parameters.length) = some 1 := by decide +kernel
theorem T_X14_need (o : Nat) (a1 : Int32) (h : aH) (r : aR) (h' : aH) (hs : s_X14_need o a1 h = some (r, h')) : Mt yX14_need (Cond.code yX14_need cX14_need 2 none :: aTB) 2 43 0 0 [.ref o, .int a1] h r h' := by
  unfold s_X14_need at hs
  refine Mt_of (k := 0) (by decide) rfl (fun p l e s m args below meth c D B0 X ws0 C => ?_)
  show Ev p l e { frames := 2, cells := 0, slots := 0, locals := 43 } s m args below meth c D B0 X ws0 r h' 0 0 2 0 0 0 [some (.ref o), some (.int a1)] [] h
  refine ev_aload_n C (x := .ref o) rfl trivial dX14_need_0 ?_
  refine ev_iload_n C rfl dX14_need_1 ?_
  obtain ⟨eo2, hs⟩ := kO_at hs
  obtain ⟨x2, h2, e2, hs⟩ := cI_at hs
  refine ev_callV C (T_X14_is _ _ _ _ _ e2) (ci := 14) rfl eo2 wc_X14_is wm_X14_260 wi_X14_is ws_X14_is wz_X14 hy_X14_is ⟨(Nat.le_of_ble_eq_true rfl), (Nat.le_of_ble_eq_true rfl)⟩ ⟨(Nat.le_refl _), (Nat.le_refl _)⟩ (Nat.le_of_ble_eq_true rfl) rfl dX14_need_2 ?_
  refine ev_if_ne C (tgt := 14) (by decide) dX14_need_5 (fun q5 => ?_) (fun q5 => ?_)
  · replace hs := (if_neg q5).symm.trans hs
    refine ev_aload_n C (x := .ref o) rfl trivial dX14_need_14 ?_
    obtain ⟨eo15, hs⟩ := kO_at hs
    obtain ⟨h15, e15, hs⟩ := cN_at hs
    refine ev_callV C (T_X14_next _ _ _ _ e15) (ci := 14) rfl eo15 wc_X14_next wm_X14_263 wi_X14_next ws_X14_next wz_X14 hy_X14_next ⟨(Nat.le_of_ble_eq_true rfl), (Nat.le_of_ble_eq_true rfl)⟩ ⟨(Nat.le_refl _), (Nat.le_refl _)⟩ (Nat.le_of_ble_eq_true rfl) rfl dX14_need_15 ?_
    cases hs
    exact ev_vret C rfl rfl (Nat.le_refl _) (Nat.le_refl _) rfl dX14_need_18
  · replace hs := (if_pos q5).symm.trans hs
    refine ev_aload_n C (x := .ref o) rfl trivial dX14_need_8 ?_
    refine ev_iconst C (v := 1) dX14_need_9 (by decide) ?_
    obtain ⟨eo10, hs⟩ := kO_at hs
    obtain ⟨x10, h10, e10, hs⟩ := cR_at hs
    refine ev_callV C (T_X14_stop _ _ _ _ _ e10) (ci := 14) rfl eo10 wc_X14_stop wm_X14_266 wi_X14_stop ws_X14_stop wz_X14 hy_X14_stop ⟨(Nat.le_of_ble_eq_true rfl), (Nat.le_of_ble_eq_true rfl)⟩ ⟨(Nat.le_refl _), (Nat.le_refl _)⟩ (Nat.le_of_ble_eq_true rfl) rfl dX14_need_10 ?_
    obtain ⟨e13, hs⟩ := kO_at hs
    cases hs
    exact ev_athrow C (ci := 12) rfl e13 dX14_need_13 (ex_out C (by decide) rfl rfl (Nat.le_refl _) (Nat.le_refl _))
end
-- X14_readFactor
theorem dX14_readFactor_0 : decode cX14_readFactor 0 = .ok (.aload_n 0, 1) := by decide +kernel
theorem dX14_readFactor_1 : decode cX14_readFactor 1 = .ok (.getfield 196, 3) := by decide +kernel
theorem dX14_readFactor_4 : decode cX14_readFactor 4 = .ok (.iconst 3, 1) := by decide +kernel
theorem dX14_readFactor_5 : decode cX14_readFactor 5 = .ok (.if_icmp .eq 11, 3) := by decide +kernel
theorem dX14_readFactor_8 : decode cX14_readFactor 8 = .ok (.aload_n 0, 1) := by decide +kernel
theorem dX14_readFactor_9 : decode cX14_readFactor 9 = .ok (.getfield 196, 3) := by decide +kernel
theorem dX14_readFactor_12 : decode cX14_readFactor 12 = .ok (.iconst 2, 1) := by decide +kernel
theorem dX14_readFactor_13 : decode cX14_readFactor 13 = .ok (.if_icmp .ne 10, 3) := by decide +kernel
theorem dX14_readFactor_16 : decode cX14_readFactor 16 = .ok (.aload_n 0, 1) := by decide +kernel
theorem dX14_readFactor_17 : decode cX14_readFactor 17 = .ok (.invokevirtual 278, 3) := by decide +kernel
theorem dX14_readFactor_20 : decode cX14_readFactor 20 = .ok (.ifCond .eq 9, 3) := by decide +kernel
theorem dX14_readFactor_23 : decode cX14_readFactor 23 = .ok (.aload_n 0, 1) := by decide +kernel
theorem dX14_readFactor_24 : decode cX14_readFactor 24 = .ok (.iconst 1, 1) := by decide +kernel
theorem dX14_readFactor_25 : decode cX14_readFactor 25 = .ok (.invokevirtual 266, 3) := by decide +kernel
theorem dX14_readFactor_28 : decode cX14_readFactor 28 = .ok (.athrow, 1) := by decide +kernel
theorem dX14_readFactor_29 : decode cX14_readFactor 29 = .ok (.aload_n 0, 1) := by decide +kernel
theorem dX14_readFactor_30 : decode cX14_readFactor 30 = .ok (.getfield 196, 3) := by decide +kernel
theorem dX14_readFactor_33 : decode cX14_readFactor 33 = .ok (.iconst 2, 1) := by decide +kernel
theorem dX14_readFactor_34 : decode cX14_readFactor 34 = .ok (.if_icmp .ne 10, 3) := by decide +kernel
theorem dX14_readFactor_37 : decode cX14_readFactor 37 = .ok (.aload_n 0, 1) := by decide +kernel
theorem dX14_readFactor_38 : decode cX14_readFactor 38 = .ok (.invokevirtual 282, 3) := by decide +kernel
theorem dX14_readFactor_41 : decode cX14_readFactor 41 = .ok (.goto 4, 3) := by decide +kernel
theorem dX14_readFactor_44 : decode cX14_readFactor 44 = .ok (.iconst (-1), 1) := by decide +kernel
theorem dX14_readFactor_45 : decode cX14_readFactor 45 = .ok (.istore_n 1, 1) := by decide +kernel
theorem dX14_readFactor_46 : decode cX14_readFactor 46 = .ok (.aload_n 0, 1) := by decide +kernel
theorem dX14_readFactor_47 : decode cX14_readFactor 47 = .ok (.getfield 196, 3) := by decide +kernel
theorem dX14_readFactor_50 : decode cX14_readFactor 50 = .ok (.iconst 2, 1) := by decide +kernel
theorem dX14_readFactor_51 : decode cX14_readFactor 51 = .ok (.if_icmp .ne 27, 3) := by decide +kernel
theorem dX14_readFactor_54 : decode cX14_readFactor 54 = .ok (.iload_n 1, 1) := by decide +kernel
theorem dX14_readFactor_55 : decode cX14_readFactor 55 = .ok (.iconst (-1), 1) := by decide +kernel
theorem dX14_readFactor_56 : decode cX14_readFactor 56 = .ok (.if_icmp .eq 16, 3) := by decide +kernel
theorem dX14_readFactor_59 : decode cX14_readFactor 59 = .ok (.iload_n 1, 1) := by decide +kernel
theorem dX14_readFactor_60 : decode cX14_readFactor 60 = .ok (.aload_n 0, 1) := by decide +kernel
theorem dX14_readFactor_61 : decode cX14_readFactor 61 = .ok (.getfield 289, 3) := by decide +kernel
theorem dX14_readFactor_64 : decode cX14_readFactor 64 = .ok (.iconst 1, 1) := by decide +kernel
theorem dX14_readFactor_65 : decode cX14_readFactor 65 = .ok (.iadd, 1) := by decide +kernel
theorem dX14_readFactor_66 : decode cX14_readFactor 66 = .ok (.invokestatic 246, 3) := by decide +kernel
theorem dX14_readFactor_69 : decode cX14_readFactor 69 = .ok (.if_icmp .lt 9, 3) := by decide +kernel
theorem dX14_readFactor_72 : decode cX14_readFactor 72 = .ok (.aload_n 0, 1) := by decide +kernel
theorem dX14_readFactor_73 : decode cX14_readFactor 73 = .ok (.iconst 2, 1) := by decide +kernel
theorem dX14_readFactor_74 : decode cX14_readFactor 74 = .ok (.invokevirtual 266, 3) := by decide +kernel
theorem dX14_readFactor_77 : decode cX14_readFactor 77 = .ok (.athrow, 1) := by decide +kernel
theorem dX14_readFactor_78 : decode cX14_readFactor 78 = .ok (.aload_n 0, 1) := by decide +kernel
theorem dX14_readFactor_79 : decode cX14_readFactor 79 = .ok (.getfield 351, 3) := by decide +kernel
theorem dX14_readFactor_82 : decode cX14_readFactor 82 = .ok (.bipush 60, 2) := by decide +kernel
theorem dX14_readFactor_84 : decode cX14_readFactor 84 = .ok (.if_icmp .ne 9, 3) := by decide +kernel
theorem dX14_readFactor_87 : decode cX14_readFactor 87 = .ok (.aload_n 0, 1) := by decide +kernel
theorem dX14_readFactor_88 : decode cX14_readFactor 88 = .ok (.iconst 5, 1) := by decide +kernel
theorem dX14_readFactor_89 : decode cX14_readFactor 89 = .ok (.invokevirtual 266, 3) := by decide +kernel
theorem dX14_readFactor_92 : decode cX14_readFactor 92 = .ok (.athrow, 1) := by decide +kernel
theorem dX14_readFactor_93 : decode cX14_readFactor 93 = .ok (.aload_n 0, 1) := by decide +kernel
theorem dX14_readFactor_94 : decode cX14_readFactor 94 = .ok (.dup, 1) := by decide +kernel
theorem dX14_readFactor_95 : decode cX14_readFactor 95 = .ok (.getfield 351, 3) := by decide +kernel
theorem dX14_readFactor_98 : decode cX14_readFactor 98 = .ok (.iconst 1, 1) := by decide +kernel
theorem dX14_readFactor_99 : decode cX14_readFactor 99 = .ok (.iadd, 1) := by decide +kernel
theorem dX14_readFactor_100 : decode cX14_readFactor 100 = .ok (.putfield 351, 3) := by decide +kernel
theorem dX14_readFactor_103 : decode cX14_readFactor 103 = .ok (.aload_n 0, 1) := by decide +kernel
theorem dX14_readFactor_104 : decode cX14_readFactor 104 = .ok (.getfield 249, 3) := by decide +kernel
theorem dX14_readFactor_107 : decode cX14_readFactor 107 = .ok (.aload_n 0, 1) := by decide +kernel
theorem dX14_readFactor_108 : decode cX14_readFactor 108 = .ok (.getfield 196, 3) := by decide +kernel
theorem dX14_readFactor_111 : decode cX14_readFactor 111 = .ok (.iconst 3, 1) := by decide +kernel
theorem dX14_readFactor_112 : decode cX14_readFactor 112 = .ok (.if_icmp .ne 7, 3) := by decide +kernel
theorem dX14_readFactor_115 : decode cX14_readFactor 115 = .ok (.iconst 0, 1) := by decide +kernel
theorem dX14_readFactor_116 : decode cX14_readFactor 116 = .ok (.goto 4, 3) := by decide +kernel
theorem dX14_readFactor_119 : decode cX14_readFactor 119 = .ok (.iconst 1, 1) := by decide +kernel
theorem dX14_readFactor_120 : decode cX14_readFactor 120 = .ok (.aload_n 0, 1) := by decide +kernel
theorem dX14_readFactor_121 : decode cX14_readFactor 121 = .ok (.getfield 196, 3) := by decide +kernel
theorem dX14_readFactor_124 : decode cX14_readFactor 124 = .ok (.iconst 3, 1) := by decide +kernel
theorem dX14_readFactor_125 : decode cX14_readFactor 125 = .ok (.if_icmp .ne 10, 3) := by decide +kernel
theorem dX14_readFactor_128 : decode cX14_readFactor 128 = .ok (.aload_n 0, 1) := by decide +kernel
theorem dX14_readFactor_129 : decode cX14_readFactor 129 = .ok (.getfield 213, 3) := by decide +kernel
theorem dX14_readFactor_132 : decode cX14_readFactor 132 = .ok (.goto 4, 3) := by decide +kernel
theorem dX14_readFactor_135 : decode cX14_readFactor 135 = .ok (.iload_n 1, 1) := by decide +kernel
theorem dX14_readFactor_136 : decode cX14_readFactor 136 = .ok (.invokevirtual 341, 3) := by decide +kernel
theorem dX14_readFactor_139 : decode cX14_readFactor 139 = .ok (.aload_n 0, 1) := by decide +kernel
theorem dX14_readFactor_140 : decode cX14_readFactor 140 = .ok (.invokevirtual 263, 3) := by decide +kernel
theorem dX14_readFactor_143 : decode cX14_readFactor 143 = .ok (.return_, 1) := by decide +kernel
def s_X14_readFactor_136  (l0 : Nat) (s0 : Int32) (s1 : Int32) (s2 : Nat) (h : aH) : aO :=
  kO h s2 13 (cN (s_X13_put s2 s1 s0 h) fun h136 => kO h136 l0 14 (cN (s_X14_next l0 h136) fun h140 => some (.inl none, h140)))
def s_X14_readFactor_120  (l0 : Nat) (l1 : Int32) (s0 : Int32) (s1 : Nat) (h : aH) : aO :=
  (gI h (.ref l0) 14 12).bind fun x121 => if x121 = 3 then ((gI h (.ref l0) 14 15).bind fun x129 => s_X14_readFactor_136 l0 x129 s0 s1 h) else (s_X14_readFactor_136 l0 l1 s0 s1 h)
def s_X14_readFactor_78  (l0 : Nat) (l1 : Int32) (h : aH) : aO :=
  (gI h (.ref l0) 14 16).bind fun x79 => if x79 = 60 then (kO h l0 14 (cR (s_X14_stop l0 5 h) fun x89 h89 => kO h89 x89 12 (some (.inr (RX12, x89), h89)))) else ((gI h (.ref l0) 14 16).bind fun x95 => (pF h (.ref l0) 14 16 (.int (x95 + 1))).bind fun h100 => (gO h100 (.ref l0) 14 6).bind fun x104 => (gI h100 (.ref l0) 14 12).bind fun x108 => if x108 = 3 then (s_X14_readFactor_120 l0 l1 0 x104 h100) else (s_X14_readFactor_120 l0 l1 1 x104 h100))
def s_X14_readFactor_72  (l0 : Nat) (h : aH) : aO :=
  kO h l0 14 (cR (s_X14_stop l0 2 h) fun x74 h74 => kO h74 x74 12 (some (.inr (RX12, x74), h74)))
def s_X14_readFactor_45  (l0 : Nat) (s0 : Int32) (h : aH) : aO :=
  (gI h (.ref l0) 14 12).bind fun x47 => if x47 = 2 then (if s0 = (-1) then (s_X14_readFactor_72 l0 h) else ((gI h (.ref l0) 14 17).bind fun x61 => cI (s_X14_slotOf (x61 + 1) h) fun x66 h66 => if s0 < x66 then (s_X14_readFactor_78 l0 s0 h66) else (s_X14_readFactor_72 l0 h66))) else (s_X14_readFactor_78 l0 s0 h)
def s_X14_readFactor_23  (l0 : Nat) (h : aH) : aO :=
  kO h l0 14 (cR (s_X14_stop l0 1 h) fun x25 h25 => kO h25 x25 12 (some (.inr (RX12, x25), h25)))
def s_X14_readFactor_16  (l0 : Nat) (h : aH) : aO :=
  kO h l0 14 (cI (s_X14_isKept l0 h) fun x17 h17 => if x17 = 0 then ((gI h17 (.ref l0) 14 12).bind fun x30 => if x30 = 2 then (kO h17 l0 14 (cI (s_X14_slotHere l0 h17) fun x38 h38 => s_X14_readFactor_45 l0 x38 h38)) else (s_X14_readFactor_45 l0 (-1) h17)) else (s_X14_readFactor_23 l0 h17))
def s_X14_readFactor (o : Nat) (h : aH) : aO :=
  (gI h (.ref o) 14 12).bind fun x1 => if x1 = 3 then (s_X14_readFactor_16 o h) else ((gI h (.ref o) 14 12).bind fun x9 => if x9 = 2 then (s_X14_readFactor_16 o h) else (s_X14_readFactor_23 o h))
section
variable {p : Program} {l : Launch} {e : Env} {s : State} {m : MethodId} {args : Array Value} {below : List Frame} {meth : Method} {c : Code} {D : va_G} {B0 : Nat} {X : Nat → Nat} {ws0 : va_W} {r : aR} {h' : aH} {mc ms : Nat}
theorem t_X14_readFactor_136 (C : Cx p l s m args meth c B0 X RX14 "readFactor" cX14_readFactor 2 none [])   {l0 : Nat} {s0 : Int32} {s1 : Int32} {s2 : Nat} {h : aH} (hs : s_X14_readFactor_136  l0 s0 s1 s2 h = some (r, h')) : Ev p l e { frames := 9, cells := mc, slots := ms, locals := 198 } s m args below meth c D B0 X ws0 r h' mc ms 2 mc ms 136 [some (.ref l0), none] [.int s0, .int s1, .ref s2] h := by
  unfold s_X14_readFactor_136 at hs
  obtain ⟨eo136, hs⟩ := kO_at hs
  obtain ⟨h136, e136, hs⟩ := cN_at hs
  refine ev_callV C (T_X13_put _ _ _ _ _ _ e136) (ci := 13) rfl eo136 wc_X13_put wm_X14_341 wi_X13_put ws_X13_put wz_X13 hy_X13_put ⟨(Nat.le_of_ble_eq_true rfl), (Nat.le_of_ble_eq_true rfl)⟩ ⟨(Nat.le_refl _), (Nat.le_refl _)⟩ (Nat.le_of_ble_eq_true rfl) rfl dX14_readFactor_136 ?_
  refine ev_aload_n C (x := .ref l0) rfl trivial dX14_readFactor_139 ?_
  obtain ⟨eo140, hs⟩ := kO_at hs
  obtain ⟨h140, e140, hs⟩ := cN_at hs
  refine ev_callV C (T_X14_next _ _ _ _ e140) (ci := 14) rfl eo140 wc_X14_next wm_X14_263 wi_X14_next ws_X14_next wz_X14 hy_X14_next ⟨(Nat.le_of_ble_eq_true rfl), (Nat.le_of_ble_eq_true rfl)⟩ ⟨(Nat.le_refl _), (Nat.le_refl _)⟩ (Nat.le_of_ble_eq_true rfl) rfl dX14_readFactor_140 ?_
  cases hs
  exact ev_vret C rfl rfl (Nat.le_refl _) (Nat.le_refl _) rfl dX14_readFactor_143
theorem t_X14_readFactor_120 (C : Cx p l s m args meth c B0 X RX14 "readFactor" cX14_readFactor 2 none [])   {l0 : Nat} {l1 : Int32} {s0 : Int32} {s1 : Nat} {h : aH} (hs : s_X14_readFactor_120  l0 l1 s0 s1 h = some (r, h')) : Ev p l e { frames := 9, cells := mc, slots := ms, locals := 198 } s m args below meth c D B0 X ws0 r h' mc ms 2 mc ms 120 [some (.ref l0), some (.int l1)] [.int s0, .ref s1] h := by
  unfold s_X14_readFactor_120 at hs
  refine ev_aload_n C (x := .ref l0) rfl trivial dX14_readFactor_120 ?_
  obtain ⟨x121, e121, hs⟩ := aB hs
  refine ev_get C (ci := 14) (k := 12) rfl wu_14 (by decide) wf_X14_196 (gI_F e121) dX14_readFactor_121 ?_
  refine ev_iconst C (v := 3) dX14_readFactor_124 (by decide) ?_
  refine ev_icmp_ne C (tgt := 135) (by decide) dX14_readFactor_125 (fun q125 => ?_) (fun q125 => ?_)
  · replace hs := (if_neg q125).symm.trans hs
    refine ev_iload_n C rfl dX14_readFactor_135 ?_
    exact Ev.keep [true, false] (t_X14_readFactor_136 C  hs)
  · replace hs := (if_pos q125).symm.trans hs
    refine ev_aload_n C (x := .ref l0) rfl trivial dX14_readFactor_128 ?_
    obtain ⟨x129, e129, hs⟩ := aB hs
    refine ev_get C (ci := 14) (k := 15) rfl wu_14 (by decide) wf_X14_213 (gI_F e129) dX14_readFactor_129 ?_
    refine ev_goto C (tgt := 136) (by decide) dX14_readFactor_132 ?_
    exact Ev.keep [true, false] (t_X14_readFactor_136 C  hs)
theorem t_X14_readFactor_78 (C : Cx p l s m args meth c B0 X RX14 "readFactor" cX14_readFactor 2 none [])   {l0 : Nat} {l1 : Int32} {h : aH} (hs : s_X14_readFactor_78  l0 l1 h = some (r, h')) : Ev p l e { frames := 9, cells := mc, slots := ms, locals := 198 } s m args below meth c D B0 X ws0 r h' mc ms 2 mc ms 78 [some (.ref l0), some (.int l1)] [] h := by
  unfold s_X14_readFactor_78 at hs
  refine ev_aload_n C (x := .ref l0) rfl trivial dX14_readFactor_78 ?_
  obtain ⟨x79, e79, hs⟩ := aB hs
  refine ev_get C (ci := 14) (k := 16) rfl wu_14 (by decide) wf_X14_351 (gI_F e79) dX14_readFactor_79 ?_
  refine ev_bipush C (v := 60) dX14_readFactor_82 (by decide) ?_
  refine ev_icmp_ne C (tgt := 93) (by decide) dX14_readFactor_84 (fun q84 => ?_) (fun q84 => ?_)
  · replace hs := (if_neg q84).symm.trans hs
    refine ev_aload_n C (x := .ref l0) rfl trivial dX14_readFactor_93 ?_
    refine ev_dup C rfl dX14_readFactor_94 ?_
    obtain ⟨x95, e95, hs⟩ := aB hs
    refine ev_get C (ci := 14) (k := 16) rfl wu_14 (by decide) wf_X14_351 (gI_F e95) dX14_readFactor_95 ?_
    refine ev_iconst C (v := 1) dX14_readFactor_98 (by decide) ?_
    refine ev_iadd C dX14_readFactor_99 ?_
    obtain ⟨h100, e100, hs⟩ := aB hs
    refine ev_put C (ci := 14) (k := 16) rfl wu_14 (by decide) tyX14 tyX14_ok nmX14 wf_X14_351 rfl trivial e100 dX14_readFactor_100 ?_
    refine ev_aload_n C (x := .ref l0) rfl trivial dX14_readFactor_103 ?_
    obtain ⟨x104, e104, hs⟩ := aB hs
    refine ev_get C (ci := 14) (k := 6) rfl wu_14 (by decide) wf_X14_249 (gO_F e104) dX14_readFactor_104 ?_
    refine ev_aload_n C (x := .ref l0) rfl trivial dX14_readFactor_107 ?_
    obtain ⟨x108, e108, hs⟩ := aB hs
    refine ev_get C (ci := 14) (k := 12) rfl wu_14 (by decide) wf_X14_196 (gI_F e108) dX14_readFactor_108 ?_
    refine ev_iconst C (v := 3) dX14_readFactor_111 (by decide) ?_
    refine ev_icmp_ne C (tgt := 119) (by decide) dX14_readFactor_112 (fun q112 => ?_) (fun q112 => ?_)
    · replace hs := (if_neg q112).symm.trans hs
      refine ev_iconst C (v := 1) dX14_readFactor_119 (by decide) ?_
      exact (t_X14_readFactor_120 C  hs)
    · replace hs := (if_pos q112).symm.trans hs
      refine ev_iconst C (v := 0) dX14_readFactor_115 (by decide) ?_
      refine ev_goto C (tgt := 120) (by decide) dX14_readFactor_116 ?_
      exact (t_X14_readFactor_120 C  hs)
  · replace hs := (if_pos q84).symm.trans hs
    refine ev_aload_n C (x := .ref l0) rfl trivial dX14_readFactor_87 ?_
    refine ev_iconst C (v := 5) dX14_readFactor_88 (by decide) ?_
    obtain ⟨eo89, hs⟩ := kO_at hs
    obtain ⟨x89, h89, e89, hs⟩ := cR_at hs
    refine ev_callV C (T_X14_stop _ _ _ _ _ e89) (ci := 14) rfl eo89 wc_X14_stop wm_X14_266 wi_X14_stop ws_X14_stop wz_X14 hy_X14_stop ⟨(Nat.le_of_ble_eq_true rfl), (Nat.le_of_ble_eq_true rfl)⟩ ⟨(Nat.le_refl _), (Nat.le_refl _)⟩ (Nat.le_of_ble_eq_true rfl) rfl dX14_readFactor_89 ?_
    obtain ⟨e92, hs⟩ := kO_at hs
    cases hs
    exact ev_athrow C (ci := 12) rfl e92 dX14_readFactor_92 (ex_out C (by decide) rfl rfl (Nat.le_refl _) (Nat.le_refl _))
theorem t_X14_readFactor_72 (C : Cx p l s m args meth c B0 X RX14 "readFactor" cX14_readFactor 2 none [])   {l0 : Nat} {h : aH} (hs : s_X14_readFactor_72  l0 h = some (r, h')) : Ev p l e { frames := 9, cells := mc, slots := ms, locals := 198 } s m args below meth c D B0 X ws0 r h' mc ms 2 mc ms 72 [some (.ref l0), none] [] h := by
  unfold s_X14_readFactor_72 at hs
  refine ev_aload_n C (x := .ref l0) rfl trivial dX14_readFactor_72 ?_
  refine ev_iconst C (v := 2) dX14_readFactor_73 (by decide) ?_
  obtain ⟨eo74, hs⟩ := kO_at hs
  obtain ⟨x74, h74, e74, hs⟩ := cR_at hs
  refine ev_callV C (T_X14_stop _ _ _ _ _ e74) (ci := 14) rfl eo74 wc_X14_stop wm_X14_266 wi_X14_stop ws_X14_stop wz_X14 hy_X14_stop ⟨(Nat.le_of_ble_eq_true rfl), (Nat.le_of_ble_eq_true rfl)⟩ ⟨(Nat.le_refl _), (Nat.le_refl _)⟩ (Nat.le_of_ble_eq_true rfl) rfl dX14_readFactor_74 ?_
  obtain ⟨e77, hs⟩ := kO_at hs
  cases hs
  exact ev_athrow C (ci := 12) rfl e77 dX14_readFactor_77 (ex_out C (by decide) rfl rfl (Nat.le_refl _) (Nat.le_refl _))
theorem t_X14_readFactor_45 (C : Cx p l s m args meth c B0 X RX14 "readFactor" cX14_readFactor 2 none [])   {l0 : Nat} {s0 : Int32} {h : aH} (hs : s_X14_readFactor_45  l0 s0 h = some (r, h')) : Ev p l e { frames := 9, cells := mc, slots := ms, locals := 198 } s m args below meth c D B0 X ws0 r h' mc ms 2 mc ms 45 [some (.ref l0), none] [.int s0] h := by
  unfold s_X14_readFactor_45 at hs
  refine ev_istore_n C (by decide) dX14_readFactor_45 ?_
  refine ev_aload_n C (x := .ref l0) rfl trivial dX14_readFactor_46 ?_
  obtain ⟨x47, e47, hs⟩ := aB hs
  refine ev_get C (ci := 14) (k := 12) rfl wu_14 (by decide) wf_X14_196 (gI_F e47) dX14_readFactor_47 ?_
  refine ev_iconst C (v := 2) dX14_readFactor_50 (by decide) ?_
  refine ev_icmp_ne C (tgt := 78) (by decide) dX14_readFactor_51 (fun q51 => ?_) (fun q51 => ?_)
  · replace hs := (if_neg q51).symm.trans hs
    exact (t_X14_readFactor_78 C  hs)
  · replace hs := (if_pos q51).symm.trans hs
    refine ev_iload_n C rfl dX14_readFactor_54 ?_
    refine ev_iconst C (v := (-1)) dX14_readFactor_55 (by decide) ?_
    refine ev_icmp_eq C (tgt := 72) (by decide) dX14_readFactor_56 (fun q56 => ?_) (fun q56 => ?_)
    · replace hs := (if_pos q56).symm.trans hs
      exact Ev.keep [true, false] (t_X14_readFactor_72 C  hs)
    · replace hs := (if_neg q56).symm.trans hs
      refine ev_iload_n C rfl dX14_readFactor_59 ?_
      refine ev_aload_n C (x := .ref l0) rfl trivial dX14_readFactor_60 ?_
      obtain ⟨x61, e61, hs⟩ := aB hs
      refine ev_get C (ci := 14) (k := 17) rfl wu_14 (by decide) wf_X14_289 (gI_F e61) dX14_readFactor_61 ?_
      refine ev_iconst C (v := 1) dX14_readFactor_64 (by decide) ?_
      refine ev_iadd C dX14_readFactor_65 ?_
      obtain ⟨x66, h66, e66, hs⟩ := cI_at hs
      refine ev_callS C (T_X14_slotOf _ _ _ _ e66) wc_X14_slotOf wm_X14_246 wt_X14_slotOf wz_X14 hy_X14_slotOf ⟨(Nat.le_of_ble_eq_true rfl), (Nat.le_of_ble_eq_true rfl)⟩ ⟨(Nat.le_refl _), (Nat.le_refl _)⟩ (Nat.le_of_ble_eq_true rfl) rfl dX14_readFactor_66 ?_
      refine ev_icmp_lt C (tgt := 78) (by decide) dX14_readFactor_69 (fun q69 => ?_) (fun q69 => ?_)
      · replace hs := (if_pos q69).symm.trans hs
        exact (t_X14_readFactor_78 C  hs)
      · replace hs := (if_neg q69).symm.trans hs
        exact Ev.keep [true, false] (t_X14_readFactor_72 C  hs)
theorem t_X14_readFactor_23 (C : Cx p l s m args meth c B0 X RX14 "readFactor" cX14_readFactor 2 none [])   {l0 : Nat} {h : aH} (hs : s_X14_readFactor_23  l0 h = some (r, h')) : Ev p l e { frames := 9, cells := mc, slots := ms, locals := 198 } s m args below meth c D B0 X ws0 r h' mc ms 2 mc ms 23 [some (.ref l0), none] [] h := by
  unfold s_X14_readFactor_23 at hs
  refine ev_aload_n C (x := .ref l0) rfl trivial dX14_readFactor_23 ?_
  refine ev_iconst C (v := 1) dX14_readFactor_24 (by decide) ?_
  obtain ⟨eo25, hs⟩ := kO_at hs
  obtain ⟨x25, h25, e25, hs⟩ := cR_at hs
  refine ev_callV C (T_X14_stop _ _ _ _ _ e25) (ci := 14) rfl eo25 wc_X14_stop wm_X14_266 wi_X14_stop ws_X14_stop wz_X14 hy_X14_stop ⟨(Nat.le_of_ble_eq_true rfl), (Nat.le_of_ble_eq_true rfl)⟩ ⟨(Nat.le_refl _), (Nat.le_refl _)⟩ (Nat.le_of_ble_eq_true rfl) rfl dX14_readFactor_25 ?_
  obtain ⟨e28, hs⟩ := kO_at hs
  cases hs
  exact ev_athrow C (ci := 12) rfl e28 dX14_readFactor_28 (ex_out C (by decide) rfl rfl (Nat.le_refl _) (Nat.le_refl _))
theorem t_X14_readFactor_16 (C : Cx p l s m args meth c B0 X RX14 "readFactor" cX14_readFactor 2 none [])   {l0 : Nat} {h : aH} (hs : s_X14_readFactor_16  l0 h = some (r, h')) : Ev p l e { frames := 9, cells := mc, slots := ms, locals := 198 } s m args below meth c D B0 X ws0 r h' mc ms 2 mc ms 16 [some (.ref l0), none] [] h := by
  unfold s_X14_readFactor_16 at hs
  refine ev_aload_n C (x := .ref l0) rfl trivial dX14_readFactor_16 ?_
  obtain ⟨eo17, hs⟩ := kO_at hs
  obtain ⟨x17, h17, e17, hs⟩ := cI_at hs
  refine ev_callV C (T_X14_isKept _ _ _ _ e17) (ci := 14) rfl eo17 wc_X14_isKept wm_X14_278 wi_X14_isKept ws_X14_isKept wz_X14 hy_X14_isKept ⟨(Nat.le_of_ble_eq_true rfl), (Nat.le_of_ble_eq_true rfl)⟩ ⟨(Nat.le_refl _), (Nat.le_refl _)⟩ (Nat.le_of_ble_eq_true rfl) rfl dX14_readFactor_17 ?_
  refine ev_if_eq C (tgt := 29) (by decide) dX14_readFactor_20 (fun q20 => ?_) (fun q20 => ?_)
  · replace hs := (if_pos q20).symm.trans hs
    refine ev_aload_n C (x := .ref l0) rfl trivial dX14_readFactor_29 ?_
    obtain ⟨x30, e30, hs⟩ := aB hs
    refine ev_get C (ci := 14) (k := 12) rfl wu_14 (by decide) wf_X14_196 (gI_F e30) dX14_readFactor_30 ?_
    refine ev_iconst C (v := 2) dX14_readFactor_33 (by decide) ?_
    refine ev_icmp_ne C (tgt := 44) (by decide) dX14_readFactor_34 (fun q34 => ?_) (fun q34 => ?_)
    · replace hs := (if_neg q34).symm.trans hs
      refine ev_iconst C (v := (-1)) dX14_readFactor_44 (by decide) ?_
      exact (t_X14_readFactor_45 C  hs)
    · replace hs := (if_pos q34).symm.trans hs
      refine ev_aload_n C (x := .ref l0) rfl trivial dX14_readFactor_37 ?_
      obtain ⟨eo38, hs⟩ := kO_at hs
      obtain ⟨x38, h38, e38, hs⟩ := cI_at hs
      refine ev_callV C (T_X14_slotHere _ _ _ _ e38) (ci := 14) rfl eo38 wc_X14_slotHere wm_X14_282 wi_X14_slotHere ws_X14_slotHere wz_X14 hy_X14_slotHere ⟨(Nat.le_of_ble_eq_true rfl), (Nat.le_of_ble_eq_true rfl)⟩ ⟨(Nat.le_refl _), (Nat.le_refl _)⟩ (Nat.le_of_ble_eq_true rfl) rfl dX14_readFactor_38 ?_
      refine ev_goto C (tgt := 45) (by decide) dX14_readFactor_41 ?_
      exact (t_X14_readFactor_45 C  hs)
  · replace hs := (if_neg q20).symm.trans hs
    exact (t_X14_readFactor_23 C  hs)
theorem hy_X14_readFactor : yX14_readFactor.cls ≠ "java/lang/invoke/MethodHandle" ∧ yX14_readFactor.cls ≠ "java/lang/invoke/VarHandle" ∧ (parseMethodDescriptor yX14_readFactor.desc).map (fun d => d.parameters.length) = some 0 := by decide +kernel
theorem T_X14_readFactor (o : Nat) (h : aH) (r : aR) (h' : aH) (hs : s_X14_readFactor o h = some (r, h')) : Mt yX14_readFactor (Cond.code yX14_readFactor cX14_readFactor 2 none :: aTB) 9 198 0 0 [.ref o] h r h' := by
  unfold s_X14_readFactor at hs
  refine Mt_of (k := 1) (by decide) rfl (fun p l e s m args below meth c D B0 X ws0 C => ?_)
  show Ev p l e { frames := 9, cells := 0, slots := 0, locals := 198 } s m args below meth c D B0 X ws0 r h' 0 0 2 0 0 0 [some (.ref o), none] [] h
  refine ev_aload_n C (x := .ref o) rfl trivial dX14_readFactor_0 ?_
  obtain ⟨x1, e1, hs⟩ := aB hs
  refine ev_get C (ci := 14) (k := 12) rfl wu_14 (by decide) wf_X14_196 (gI_F e1) dX14_readFactor_1 ?_
  refine ev_iconst C (v := 3) dX14_readFactor_4 (by decide) ?_
  refine ev_icmp_eq C (tgt := 16) (by decide) dX14_readFactor_5 (fun q5 => ?_) (fun q5 => ?_)
  · replace hs := (if_pos q5).symm.trans hs
    exact (t_X14_readFactor_16 C  hs)
  · replace hs := (if_neg q5).symm.trans hs
    refine ev_aload_n C (x := .ref o) rfl trivial dX14_readFactor_8 ?_
    obtain ⟨x9, e9, hs⟩ := aB hs
    refine ev_get C (ci := 14) (k := 12) rfl wu_14 (by decide) wf_X14_196 (gI_F e9) dX14_readFactor_9 ?_
    refine ev_iconst C (v := 2) dX14_readFactor_12 (by decide) ?_
    refine ev_icmp_ne C (tgt := 23) (by decide) dX14_readFactor_13 (fun q13 => ?_) (fun q13 => ?_)
    · replace hs := (if_neg q13).symm.trans hs
      exact (t_X14_readFactor_23 C  hs)
    · replace hs := (if_pos q13).symm.trans hs
      exact (t_X14_readFactor_16 C  hs)
end
-- X14_readTerm
theorem dX14_readTerm_0 : decode cX14_readTerm 0 = .ok (.aload_n 0, 1) := by decide +kernel
theorem dX14_readTerm_1 : decode cX14_readTerm 1 = .ok (.invokevirtual 348, 3) := by decide +kernel
theorem dX14_readTerm_4 : decode cX14_readTerm 4 = .ok (.aload_n 0, 1) := by decide +kernel
theorem dX14_readTerm_5 : decode cX14_readTerm 5 = .ok (.bipush 42, 2) := by decide +kernel
theorem dX14_readTerm_7 : decode cX14_readTerm 7 = .ok (.invokevirtual 260, 3) := by decide +kernel
theorem dX14_readTerm_10 : decode cX14_readTerm 10 = .ok (.ifCond .eq 23, 3) := by decide +kernel
theorem dX14_readTerm_13 : decode cX14_readTerm 13 = .ok (.aload_n 0, 1) := by decide +kernel
theorem dX14_readTerm_14 : decode cX14_readTerm 14 = .ok (.invokevirtual 263, 3) := by decide +kernel
theorem dX14_readTerm_17 : decode cX14_readTerm 17 = .ok (.aload_n 0, 1) := by decide +kernel
theorem dX14_readTerm_18 : decode cX14_readTerm 18 = .ok (.invokevirtual 348, 3) := by decide +kernel
theorem dX14_readTerm_21 : decode cX14_readTerm 21 = .ok (.aload_n 0, 1) := by decide +kernel
theorem dX14_readTerm_22 : decode cX14_readTerm 22 = .ok (.getfield 249, 3) := by decide +kernel
theorem dX14_readTerm_25 : decode cX14_readTerm 25 = .ok (.iconst 4, 1) := by decide +kernel
theorem dX14_readTerm_26 : decode cX14_readTerm 26 = .ok (.iconst 0, 1) := by decide +kernel
theorem dX14_readTerm_27 : decode cX14_readTerm 27 = .ok (.invokevirtual 341, 3) := by decide +kernel
theorem dX14_readTerm_30 : decode cX14_readTerm 30 = .ok (.goto (-26), 3) := by decide +kernel
theorem dX14_readTerm_33 : decode cX14_readTerm 33 = .ok (.return_, 1) := by decide +kernel
def s_X14_readTerm_4_b  (k4 : Nat → aH → aO) (l0 : Nat) (h : aH) : aO :=
  kO h l0 14 (cI (s_X14_is l0 42 h) fun x7 h7 => if x7 = 0 then (some (.inl none, h7)) else (kO h7 l0 14 (cN (s_X14_next l0 h7) fun h14 => kO h14 l0 14 (xN (s_X14_readFactor l0 h14) (fun h18 => (gO h18 (.ref l0) 14 6).bind fun x22 => kO h18 x22 13 (cN (s_X13_put x22 4 0 h18) fun h27 => k4 l0 h27)) (fun E i h => some (.inr (E, i), h))))))
def s_X14_readTerm_4  (n : Nat) : Nat → aH → aO := lpF (fun _ _ => none) (s_X14_readTerm_4_b ) n
def s_X14_readTerm (o : Nat) (h : aH) : aO :=
  kO h o 14 (xN (s_X14_readFactor o h) (fun h1 => s_X14_readTerm_4 FU o h1) (fun E i h => some (.inr (E, i), h)))
section
variable {p : Program} {l : Launch} {e : Env} {s : State} {m : MethodId} {args : Array Value} {below : List Frame} {meth : Method} {c : Code} {D : va_G} {B0 : Nat} {X : Nat → Nat} {ws0 : va_W} {r : aR} {h' : aH} {mc ms : Nat}
theorem t_X14_readTerm_4_b (C : Cx p l s m args meth c B0 X RX14 "readTerm" cX14_readTerm 1 none [])   {k4 : Nat → aH → aO} (K4 : ∀ (l0 : Nat) (h : aH), k4 l0 h = some (r, h') → Ev p l e { frames := 10, cells := mc, slots := ms, locals := 219 } s m args below meth c D B0 X ws0 r h' mc ms 1 mc ms 4 [some (.ref l0)] [] h) {l0 : Nat} {h : aH} (hs : s_X14_readTerm_4_b  k4 l0 h = some (r, h')) : Ev p l e { frames := 10, cells := mc, slots := ms, locals := 219 } s m args below meth c D B0 X ws0 r h' mc ms 1 mc ms 4 [some (.ref l0)] [] h := by
  unfold s_X14_readTerm_4_b at hs
  refine ev_aload_n C (x := .ref l0) rfl trivial dX14_readTerm_4 ?_
  refine ev_bipush C (v := 42) dX14_readTerm_5 (by decide) ?_
  obtain ⟨eo7, hs⟩ := kO_at hs
  obtain ⟨x7, h7, e7, hs⟩ := cI_at hs
  refine ev_callV C (T_X14_is _ _ _ _ _ e7) (ci := 14) rfl eo7 wc_X14_is wm_X14_260 wi_X14_is ws_X14_is wz_X14 hy_X14_is ⟨(Nat.le_of_ble_eq_true rfl), (Nat.le_of_ble_eq_true rfl)⟩ ⟨(Nat.le_refl _), (Nat.le_refl _)⟩ (Nat.le_of_ble_eq_true rfl) rfl dX14_readTerm_7 ?_
  refine ev_if_eq C (tgt := 33) (by decide) dX14_readTerm_10 (fun q10 => ?_) (fun q10 => ?_)
  · replace hs := (if_pos q10).symm.trans hs
    cases hs
    exact ev_vret C rfl rfl (Nat.le_refl _) (Nat.le_refl _) rfl dX14_readTerm_33
  · replace hs := (if_neg q10).symm.trans hs
    refine ev_aload_n C (x := .ref l0) rfl trivial dX14_readTerm_13 ?_
    obtain ⟨eo14, hs⟩ := kO_at hs
    obtain ⟨h14, e14, hs⟩ := cN_at hs
    refine ev_callV C (T_X14_next _ _ _ _ e14) (ci := 14) rfl eo14 wc_X14_next wm_X14_263 wi_X14_next ws_X14_next wz_X14 hy_X14_next ⟨(Nat.le_of_ble_eq_true rfl), (Nat.le_of_ble_eq_true rfl)⟩ ⟨(Nat.le_refl _), (Nat.le_refl _)⟩ (Nat.le_of_ble_eq_true rfl) rfl dX14_readTerm_14 ?_
    refine ev_aload_n C (x := .ref l0) rfl trivial dX14_readTerm_17 ?_
    obtain ⟨eo18, hs⟩ := kO_at hs
    rcases xN_at hs with ⟨h18, e18, hs⟩ | ⟨E18, i18, g18, e18, hs⟩
    · skip
      refine ev_callV C (T_X14_readFactor _ _ _ _ e18) (ci := 14) rfl eo18 wc_X14_readFactor wm_X14_348 wi_X14_readFactor ws_X14_readFactor wz_X14 hy_X14_readFactor ⟨(Nat.le_of_ble_eq_true rfl), (Nat.le_of_ble_eq_true rfl)⟩ ⟨(Nat.le_refl _), (Nat.le_refl _)⟩ (Nat.le_of_ble_eq_true rfl) rfl dX14_readTerm_18 ?_
      refine ev_aload_n C (x := .ref l0) rfl trivial dX14_readTerm_21 ?_
      obtain ⟨x22, e22, hs⟩ := aB hs
      refine ev_get C (ci := 14) (k := 6) rfl wu_14 (by decide) wf_X14_249 (gO_F e22) dX14_readTerm_22 ?_
      refine ev_iconst C (v := 4) dX14_readTerm_25 (by decide) ?_
      refine ev_iconst C (v := 0) dX14_readTerm_26 (by decide) ?_
      obtain ⟨eo27, hs⟩ := kO_at hs
      obtain ⟨h27, e27, hs⟩ := cN_at hs
      refine ev_callV C (T_X13_put _ _ _ _ _ _ e27) (ci := 13) rfl eo27 wc_X13_put wm_X14_341 wi_X13_put ws_X13_put wz_X13 hy_X13_put ⟨(Nat.le_of_ble_eq_true rfl), (Nat.le_of_ble_eq_true rfl)⟩ ⟨(Nat.le_refl _), (Nat.le_refl _)⟩ (Nat.le_of_ble_eq_true rfl) rfl dX14_readTerm_27 ?_
      refine ev_goto C (tgt := 4) (by decide) dX14_readTerm_30 ?_
      exact (K4 _ _ hs)
    · cases hs
      exact ev_callVX C (T_X14_readFactor _ _ _ _ e18) (ci := 14) rfl eo18 wc_X14_readFactor wm_X14_348 wi_X14_readFactor ws_X14_readFactor wz_X14 hy_X14_readFactor ⟨(Nat.le_of_ble_eq_true rfl), (Nat.le_of_ble_eq_true rfl)⟩ ⟨(Nat.le_refl _), (Nat.le_refl _)⟩ (Nat.le_of_ble_eq_true rfl) rfl dX14_readTerm_18 (ex_out C (by decide) rfl rfl (Nat.le_refl _) (Nat.le_refl _))
theorem t_X14_readTerm_4 (C : Cx p l s m args meth c B0 X RX14 "readTerm" cX14_readTerm 1 none [])   : ∀ (n : Nat) {l0 : Nat} {h : aH} (hs : s_X14_readTerm_4  n l0 h = some (r, h')), Ev p l e { frames := 10, cells := mc, slots := ms, locals := 219 } s m args below meth c D B0 X ws0 r h' mc ms 1 mc ms 4 [some (.ref l0)] [] h
  | 0, _, _, hs => nomatch hs
  | n + 1, _, _, hs => t_X14_readTerm_4_b C  (k4 := s_X14_readTerm_4  n) (fun _ _ hs => t_X14_readTerm_4 C  n hs) hs
theorem hy_X14_readTerm : yX14_readTerm.cls ≠ "java/lang/invoke/MethodHandle" ∧ yX14_readTerm.cls ≠ "java/lang/invoke/VarHandle" ∧ (parseMethodDescriptor yX14_readTerm.desc).map (fun d => d.parameters.length) = some 0 := by decide +kernel
theorem T_X14_readTerm (o : Nat) (h : aH) (r : aR) (h' : aH) (hs : s_X14_readTerm o h = some (r, h')) : Mt yX14_readTerm (Cond.code yX14_readTerm cX14_readTerm 1 none :: aTB) 10 219 0 0 [.ref o] h r h' := by
  unfold s_X14_readTerm at hs
  refine Mt_of (k := 0) (by decide) rfl (fun p l e s m args below meth c D B0 X ws0 C => ?_)
  show Ev p l e { frames := 10, cells := 0, slots := 0, locals := 219 } s m args below meth c D B0 X ws0 r h' 0 0 1 0 0 0 [some (.ref o)] [] h
  refine ev_aload_n C (x := .ref o) rfl trivial dX14_readTerm_0 ?_
  obtain ⟨eo1, hs⟩ := kO_at hs
  rcases xN_at hs with ⟨h1, e1, hs⟩ | ⟨E1, i1, g1, e1, hs⟩
  · skip
    refine ev_callV C (T_X14_readFactor _ _ _ _ e1) (ci := 14) rfl eo1 wc_X14_readFactor wm_X14_348 wi_X14_readFactor ws_X14_readFactor wz_X14 hy_X14_readFactor ⟨(Nat.le_of_ble_eq_true rfl), (Nat.le_of_ble_eq_true rfl)⟩ ⟨(Nat.le_refl _), (Nat.le_refl _)⟩ (Nat.le_of_ble_eq_true rfl) rfl dX14_readTerm_1 ?_
    exact (t_X14_readTerm_4 C  FU hs)
  · cases hs
    exact ev_callVX C (T_X14_readFactor _ _ _ _ e1) (ci := 14) rfl eo1 wc_X14_readFactor wm_X14_348 wi_X14_readFactor ws_X14_readFactor wz_X14 hy_X14_readFactor ⟨(Nat.le_of_ble_eq_true rfl), (Nat.le_of_ble_eq_true rfl)⟩ ⟨(Nat.le_refl _), (Nat.le_refl _)⟩ (Nat.le_of_ble_eq_true rfl) rfl dX14_readTerm_1 (ex_out C (by decide) rfl rfl (Nat.le_refl _) (Nat.le_refl _))
end
-- X14_readSum
theorem dX14_readSum_0 : decode cX14_readSum 0 = .ok (.aload_n 0, 1) := by decide +kernel
theorem dX14_readSum_1 : decode cX14_readSum 1 = .ok (.bipush 45, 2) := by decide +kernel
theorem dX14_readSum_3 : decode cX14_readSum 3 = .ok (.invokevirtual 260, 3) := by decide +kernel
theorem dX14_readSum_6 : decode cX14_readSum 6 = .ok (.istore_n 1, 1) := by decide +kernel
theorem dX14_readSum_7 : decode cX14_readSum 7 = .ok (.iload_n 1, 1) := by decide +kernel
theorem dX14_readSum_8 : decode cX14_readSum 8 = .ok (.ifCond .eq 7, 3) := by decide +kernel
theorem dX14_readSum_11 : decode cX14_readSum 11 = .ok (.aload_n 0, 1) := by decide +kernel
theorem dX14_readSum_12 : decode cX14_readSum 12 = .ok (.invokevirtual 263, 3) := by decide +kernel
theorem dX14_readSum_15 : decode cX14_readSum 15 = .ok (.aload_n 0, 1) := by decide +kernel
theorem dX14_readSum_16 : decode cX14_readSum 16 = .ok (.invokevirtual 345, 3) := by decide +kernel
theorem dX14_readSum_19 : decode cX14_readSum 19 = .ok (.iload_n 1, 1) := by decide +kernel
theorem dX14_readSum_20 : decode cX14_readSum 20 = .ok (.ifCond .eq 12, 3) := by decide +kernel
theorem dX14_readSum_23 : decode cX14_readSum 23 = .ok (.aload_n 0, 1) := by decide +kernel
theorem dX14_readSum_24 : decode cX14_readSum 24 = .ok (.getfield 249, 3) := by decide +kernel
theorem dX14_readSum_27 : decode cX14_readSum 27 = .ok (.iconst 5, 1) := by decide +kernel
theorem dX14_readSum_28 : decode cX14_readSum 28 = .ok (.iconst 0, 1) := by decide +kernel
theorem dX14_readSum_29 : decode cX14_readSum 29 = .ok (.invokevirtual 341, 3) := by decide +kernel
theorem dX14_readSum_32 : decode cX14_readSum 32 = .ok (.aload_n 0, 1) := by decide +kernel
theorem dX14_readSum_33 : decode cX14_readSum 33 = .ok (.bipush 43, 2) := by decide +kernel
theorem dX14_readSum_35 : decode cX14_readSum 35 = .ok (.invokevirtual 260, 3) := by decide +kernel
theorem dX14_readSum_38 : decode cX14_readSum 38 = .ok (.ifCond .ne 12, 3) := by decide +kernel
theorem dX14_readSum_41 : decode cX14_readSum 41 = .ok (.aload_n 0, 1) := by decide +kernel
theorem dX14_readSum_42 : decode cX14_readSum 42 = .ok (.bipush 45, 2) := by decide +kernel
theorem dX14_readSum_44 : decode cX14_readSum 44 = .ok (.invokevirtual 260, 3) := by decide +kernel
theorem dX14_readSum_47 : decode cX14_readSum 47 = .ok (.ifCond .eq 38, 3) := by decide +kernel
theorem dX14_readSum_50 : decode cX14_readSum 50 = .ok (.aload_n 0, 1) := by decide +kernel
theorem dX14_readSum_51 : decode cX14_readSum 51 = .ok (.bipush 43, 2) := by decide +kernel
theorem dX14_readSum_53 : decode cX14_readSum 53 = .ok (.invokevirtual 260, 3) := by decide +kernel
theorem dX14_readSum_56 : decode cX14_readSum 56 = .ok (.ifCond .eq 7, 3) := by decide +kernel
theorem dX14_readSum_59 : decode cX14_readSum 59 = .ok (.iconst 2, 1) := by decide +kernel
theorem dX14_readSum_60 : decode cX14_readSum 60 = .ok (.goto 4, 3) := by decide +kernel
theorem dX14_readSum_63 : decode cX14_readSum 63 = .ok (.iconst 3, 1) := by decide +kernel
theorem dX14_readSum_64 : decode cX14_readSum 64 = .ok (.istore_n 2, 1) := by decide +kernel
theorem dX14_readSum_65 : decode cX14_readSum 65 = .ok (.aload_n 0, 1) := by decide +kernel
theorem dX14_readSum_66 : decode cX14_readSum 66 = .ok (.invokevirtual 263, 3) := by decide +kernel
theorem dX14_readSum_69 : decode cX14_readSum 69 = .ok (.aload_n 0, 1) := by decide +kernel
theorem dX14_readSum_70 : decode cX14_readSum 70 = .ok (.invokevirtual 345, 3) := by decide +kernel
theorem dX14_readSum_73 : decode cX14_readSum 73 = .ok (.aload_n 0, 1) := by decide +kernel
theorem dX14_readSum_74 : decode cX14_readSum 74 = .ok (.getfield 249, 3) := by decide +kernel
theorem dX14_readSum_77 : decode cX14_readSum 77 = .ok (.iload_n 2, 1) := by decide +kernel
theorem dX14_readSum_78 : decode cX14_readSum 78 = .ok (.iconst 0, 1) := by decide +kernel
theorem dX14_readSum_79 : decode cX14_readSum 79 = .ok (.invokevirtual 341, 3) := by decide +kernel
theorem dX14_readSum_82 : decode cX14_readSum 82 = .ok (.goto (-50), 3) := by decide +kernel
theorem dX14_readSum_85 : decode cX14_readSum 85 = .ok (.return_, 1) := by decide +kernel
def s_X14_readSum_64 (k32 : Nat → aH → aO) (l0 : Nat) (s0 : Int32) (h : aH) : aO :=
  kO h l0 14 (cN (s_X14_next l0 h) fun h66 => kO h66 l0 14 (xN (s_X14_readTerm l0 h66) (fun h70 => (gO h70 (.ref l0) 14 6).bind fun x74 => kO h70 x74 13 (cN (s_X13_put x74 s0 0 h70) fun h79 => k32 l0 h79)) (fun E i h => some (.inr (E, i), h))))
def s_X14_readSum_50 (k32 : Nat → aH → aO) (l0 : Nat) (h : aH) : aO :=
  kO h l0 14 (cI (s_X14_is l0 43 h) fun x53 h53 => if x53 = 0 then (s_X14_readSum_64 k32 l0 3 h53) else (s_X14_readSum_64 k32 l0 2 h53))
def s_X14_readSum_32_b  (k32 : Nat → aH → aO) (l0 : Nat) (h : aH) : aO :=
  kO h l0 14 (cI (s_X14_is l0 43 h) fun x35 h35 => if x35 = 0 then (kO h35 l0 14 (cI (s_X14_is l0 45 h35) fun x44 h44 => if x44 = 0 then (some (.inl none, h44)) else (s_X14_readSum_50 k32 l0 h44))) else (s_X14_readSum_50 k32 l0 h35))
def s_X14_readSum_32  (n : Nat) : Nat → aH → aO := lpF (fun _ _ => none) (s_X14_readSum_32_b ) n
def s_X14_readSum_15  (l0 : Nat) (l1 : Int32) (h : aH) : aO :=
  kO h l0 14 (xN (s_X14_readTerm l0 h) (fun h16 => if l1 = 0 then (s_X14_readSum_32 FU l0 h16) else ((gO h16 (.ref l0) 14 6).bind fun x24 => kO h16 x24 13 (cN (s_X13_put x24 5 0 h16) fun h29 => s_X14_readSum_32 FU l0 h29))) (fun E i h => some (.inr (E, i), h)))
def s_X14_readSum (o : Nat) (h : aH) : aO :=
  kO h o 14 (cI (s_X14_is o 45 h) fun x3 h3 => if x3 = 0 then (s_X14_readSum_15 o x3 h3) else (kO h3 o 14 (cN (s_X14_next o h3) fun h12 => s_X14_readSum_15 o x3 h12)))
section
variable {p : Program} {l : Launch} {e : Env} {s : State} {m : MethodId} {args : Array Value} {below : List Frame} {meth : Method} {c : Code} {D : va_G} {B0 : Nat} {X : Nat → Nat} {ws0 : va_W} {r : aR} {h' : aH} {mc ms : Nat}
theorem t_X14_readSum_64 (C : Cx p l s m args meth c B0 X RX14 "readSum" cX14_readSum 3 none []) {k32 : Nat → aH → aO} (K32 : ∀ (l0 : Nat) (h : aH), k32 l0 h = some (r, h') → Ev p l e { frames := 11, cells := mc, slots := ms, locals := 239 } s m args below meth c D B0 X ws0 r h' mc ms 3 mc ms 32 [some (.ref l0), none, none] [] h) {l0 : Nat} {s0 : Int32} {h : aH} (hs : s_X14_readSum_64 k32 l0 s0 h = some (r, h')) : Ev p l e { frames := 11, cells := mc, slots := ms, locals := 239 } s m args below meth c D B0 X ws0 r h' mc ms 3 mc ms 64 [some (.ref l0), none, none] [.int s0] h := by
  unfold s_X14_readSum_64 at hs
  refine ev_istore_n C (by decide) dX14_readSum_64 ?_
  refine ev_aload_n C (x := .ref l0) rfl trivial dX14_readSum_65 ?_
  obtain ⟨eo66, hs⟩ := kO_at hs
  obtain ⟨h66, e66, hs⟩ := cN_at hs
  refine ev_callV C (T_X14_next _ _ _ _ e66) (ci := 14) rfl eo66 wc_X14_next wm_X14_263 wi_X14_next ws_X14_next wz_X14 hy_X14_next ⟨(Nat.le_of_ble_eq_true rfl), (Nat.le_of_ble_eq_true rfl)⟩ ⟨(Nat.le_refl _), (Nat.le_refl _)⟩ (Nat.le_of_ble_eq_true rfl) rfl dX14_readSum_66 ?_
  refine ev_aload_n C (x := .ref l0) rfl trivial dX14_readSum_69 ?_
  obtain ⟨eo70, hs⟩ := kO_at hs
  rcases xN_at hs with ⟨h70, e70, hs⟩ | ⟨E70, i70, g70, e70, hs⟩
  · skip
    refine ev_callV C (T_X14_readTerm _ _ _ _ e70) (ci := 14) rfl eo70 wc_X14_readTerm wm_X14_345 wi_X14_readTerm ws_X14_readTerm wz_X14 hy_X14_readTerm ⟨(Nat.le_of_ble_eq_true rfl), (Nat.le_of_ble_eq_true rfl)⟩ ⟨(Nat.le_refl _), (Nat.le_refl _)⟩ (Nat.le_of_ble_eq_true rfl) rfl dX14_readSum_70 ?_
    refine ev_aload_n C (x := .ref l0) rfl trivial dX14_readSum_73 ?_
    obtain ⟨x74, e74, hs⟩ := aB hs
    refine ev_get C (ci := 14) (k := 6) rfl wu_14 (by decide) wf_X14_249 (gO_F e74) dX14_readSum_74 ?_
    refine ev_iload_n C rfl dX14_readSum_77 ?_
    refine ev_iconst C (v := 0) dX14_readSum_78 (by decide) ?_
    obtain ⟨eo79, hs⟩ := kO_at hs
    obtain ⟨h79, e79, hs⟩ := cN_at hs
    refine ev_callV C (T_X13_put _ _ _ _ _ _ e79) (ci := 13) rfl eo79 wc_X13_put wm_X14_341 wi_X13_put ws_X13_put wz_X13 hy_X13_put ⟨(Nat.le_of_ble_eq_true rfl), (Nat.le_of_ble_eq_true rfl)⟩ ⟨(Nat.le_refl _), (Nat.le_refl _)⟩ (Nat.le_of_ble_eq_true rfl) rfl dX14_readSum_79 ?_
    refine ev_goto C (tgt := 32) (by decide) dX14_readSum_82 ?_
    exact Ev.keep [true, true, false] (K32 _ _ hs)
  · cases hs
    exact ev_callVX C (T_X14_readTerm _ _ _ _ e70) (ci := 14) rfl eo70 wc_X14_readTerm wm_X14_345 wi_X14_readTerm ws_X14_readTerm wz_X14 hy_X14_readTerm ⟨(Nat.le_of_ble_eq_true rfl), (Nat.le_of_ble_eq_true rfl)⟩ ⟨(Nat.le_refl _), (Nat.le_refl _)⟩ (Nat.le_of_ble_eq_true rfl) rfl dX14_readSum_70 (ex_out C (by decide) rfl rfl (Nat.le_refl _) (Nat.le_refl _))
theorem t_X14_readSum_50 (C : Cx p l s m args meth c B0 X RX14 "readSum" cX14_readSum 3 none []) {k32 : Nat → aH → aO} (K32 : ∀ (l0 : Nat) (h : aH), k32 l0 h = some (r, h') → Ev p l e { frames := 11, cells := mc, slots := ms, locals := 239 } s m args below meth c D B0 X ws0 r h' mc ms 3 mc ms 32 [some (.ref l0), none, none] [] h) {l0 : Nat} {h : aH} (hs : s_X14_readSum_50 k32 l0 h = some (r, h')) : Ev p l e { frames := 11, cells := mc, slots := ms, locals := 239 } s m args below meth c D B0 X ws0 r h' mc ms 3 mc ms 50 [some (.ref l0), none, none] [] h := by
  unfold s_X14_readSum_50 at hs
  refine ev_aload_n C (x := .ref l0) rfl trivial dX14_readSum_50 ?_
  refine ev_bipush C (v := 43) dX14_readSum_51 (by decide) ?_
  obtain ⟨eo53, hs⟩ := kO_at hs
  obtain ⟨x53, h53, e53, hs⟩ := cI_at hs
  refine ev_callV C (T_X14_is _ _ _ _ _ e53) (ci := 14) rfl eo53 wc_X14_is wm_X14_260 wi_X14_is ws_X14_is wz_X14 hy_X14_is ⟨(Nat.le_of_ble_eq_true rfl), (Nat.le_of_ble_eq_true rfl)⟩ ⟨(Nat.le_refl _), (Nat.le_refl _)⟩ (Nat.le_of_ble_eq_true rfl) rfl dX14_readSum_53 ?_
  refine ev_if_eq C (tgt := 63) (by decide) dX14_readSum_56 (fun q56 => ?_) (fun q56 => ?_)
  · replace hs := (if_pos q56).symm.trans hs
    refine ev_iconst C (v := 3) dX14_readSum_63 (by decide) ?_
    exact (t_X14_readSum_64 C K32 hs)
  · replace hs := (if_neg q56).symm.trans hs
    refine ev_iconst C (v := 2) dX14_readSum_59 (by decide) ?_
    refine ev_goto C (tgt := 64) (by decide) dX14_readSum_60 ?_
    exact (t_X14_readSum_64 C K32 hs)
theorem t_X14_readSum_32_b (C : Cx p l s m args meth c B0 X RX14 "readSum" cX14_readSum 3 none [])   {k32 : Nat → aH → aO} (K32 : ∀ (l0 : Nat) (h : aH), k32 l0 h = some (r, h') → Ev p l e { frames := 11, cells := mc, slots := ms, locals := 239 } s m args below meth c D B0 X ws0 r h' mc ms 3 mc ms 32 [some (.ref l0), none, none] [] h) {l0 : Nat} {h : aH} (hs : s_X14_readSum_32_b  k32 l0 h = some (r, h')) : Ev p l e { frames := 11, cells := mc, slots := ms, locals := 239 } s m args below meth c D B0 X ws0 r h' mc ms 3 mc ms 32 [some (.ref l0), none, none] [] h := by
  unfold s_X14_readSum_32_b at hs
  refine ev_aload_n C (x := .ref l0) rfl trivial dX14_readSum_32 ?_
  refine ev_bipush C (v := 43) dX14_readSum_33 (by decide) ?_
  obtain ⟨eo35, hs⟩ := kO_at hs
  obtain ⟨x35, h35, e35, hs⟩ := cI_at hs
  refine ev_callV C (T_X14_is _ _ _ _ _ e35) (ci := 14) rfl eo35 wc_X14_is wm_X14_260 wi_X14_is ws_X14_is wz_X14 hy_X14_is ⟨(Nat.le_of_ble_eq_true rfl), (Nat.le_of_ble_eq_true rfl)⟩ ⟨(Nat.le_refl _), (Nat.le_refl _)⟩ (Nat.le_of_ble_eq_true rfl) rfl dX14_readSum_35 ?_
  refine ev_if_ne C (tgt := 50) (by decide) dX14_readSum_38 (fun q38 => ?_) (fun q38 => ?_)
  · replace hs := (if_neg q38).symm.trans hs
    exact (t_X14_readSum_50 C K32 hs)
  · replace hs := (if_pos q38).symm.trans hs
    refine ev_aload_n C (x := .ref l0) rfl trivial dX14_readSum_41 ?_
    refine ev_bipush C (v := 45) dX14_readSum_42 (by decide) ?_
    obtain ⟨eo44, hs⟩ := kO_at hs
    obtain ⟨x44, h44, e44, hs⟩ := cI_at hs
    refine ev_callV C (T_X14_is _ _ _ _ _ e44) (ci := 14) rfl eo44 wc_X14_is wm_X14_260 wi_X14_is ws_X14_is wz_X14 hy_X14_is ⟨(Nat.le_of_ble_eq_true rfl), (Nat.le_of_ble_eq_true rfl)⟩ ⟨(Nat.le_refl _), (Nat.le_refl _)⟩ (Nat.le_of_ble_eq_true rfl) rfl dX14_readSum_44 ?_
    refine ev_if_eq C (tgt := 85) (by decide) dX14_readSum_47 (fun q47 => ?_) (fun q47 => ?_)
    · replace hs := (if_pos q47).symm.trans hs
      cases hs
      exact ev_vret C rfl rfl (Nat.le_refl _) (Nat.le_refl _) rfl dX14_readSum_85
    · replace hs := (if_neg q47).symm.trans hs
      exact (t_X14_readSum_50 C K32 hs)
theorem t_X14_readSum_32 (C : Cx p l s m args meth c B0 X RX14 "readSum" cX14_readSum 3 none [])   : ∀ (n : Nat) {l0 : Nat} {h : aH} (hs : s_X14_readSum_32  n l0 h = some (r, h')), Ev p l e { frames := 11, cells := mc, slots := ms, locals := 239 } s m args below meth c D B0 X ws0 r h' mc ms 3 mc ms 32 [some (.ref l0), none, none] [] h
  | 0, _, _, hs => nomatch hs
  | n + 1, _, _, hs => t_X14_readSum_32_b C  (k32 := s_X14_readSum_32  n) (fun _ _ hs => t_X14_readSum_32 C  n hs) hs
theorem t_X14_readSum_15 (C : Cx p l s m args meth c B0 X RX14 "readSum" cX14_readSum 3 none [])   {l0 : Nat} {l1 : Int32} {h : aH} (hs : s_X14_readSum_15  l0 l1 h = some (r, h')) : Ev p l e { frames := 11, cells := mc, slots := ms, locals := 239 } s m args below meth c D B0 X ws0 r h' mc ms 3 mc ms 15 [some (.ref l0), some (.int l1), none] [] h := by
  unfold s_X14_readSum_15 at hs
  refine ev_aload_n C (x := .ref l0) rfl trivial dX14_readSum_15 ?_
  obtain ⟨eo16, hs⟩ := kO_at hs
  rcases xN_at hs with ⟨h16, e16, hs⟩ | ⟨E16, i16, g16, e16, hs⟩
  · skip
    refine ev_callV C (T_X14_readTerm _ _ _ _ e16) (ci := 14) rfl eo16 wc_X14_readTerm wm_X14_345 wi_X14_readTerm ws_X14_readTerm wz_X14 hy_X14_readTerm ⟨(Nat.le_of_ble_eq_true rfl), (Nat.le_of_ble_eq_true rfl)⟩ ⟨(Nat.le_refl _), (Nat.le_refl _)⟩ (Nat.le_of_ble_eq_true rfl) rfl dX14_readSum_16 ?_
    refine ev_iload_n C rfl dX14_readSum_19 ?_
    refine ev_if_eq C (tgt := 32) (by decide) dX14_readSum_20 (fun q20 => ?_) (fun q20 => ?_)
    · replace hs := (if_pos q20).symm.trans hs
      exact Ev.keep [true, false, true] (t_X14_readSum_32 C  FU hs)
    · replace hs := (if_neg q20).symm.trans hs
      refine ev_aload_n C (x := .ref l0) rfl trivial dX14_readSum_23 ?_
      obtain ⟨x24, e24, hs⟩ := aB hs
      refine ev_get C (ci := 14) (k := 6) rfl wu_14 (by decide) wf_X14_249 (gO_F e24) dX14_readSum_24 ?_
      refine ev_iconst C (v := 5) dX14_readSum_27 (by decide) ?_
      refine ev_iconst C (v := 0) dX14_readSum_28 (by decide) ?_
      obtain ⟨eo29, hs⟩ := kO_at hs
      obtain ⟨h29, e29, hs⟩ := cN_at hs
      refine ev_callV C (T_X13_put _ _ _ _ _ _ e29) (ci := 13) rfl eo29 wc_X13_put wm_X14_341 wi_X13_put ws_X13_put wz_X13 hy_X13_put ⟨(Nat.le_of_ble_eq_true rfl), (Nat.le_of_ble_eq_true rfl)⟩ ⟨(Nat.le_refl _), (Nat.le_refl _)⟩ (Nat.le_of_ble_eq_true rfl) rfl dX14_readSum_29 ?_
      exact Ev.keep [true, false, true] (t_X14_readSum_32 C  FU hs)
  · cases hs
    exact ev_callVX C (T_X14_readTerm _ _ _ _ e16) (ci := 14) rfl eo16 wc_X14_readTerm wm_X14_345 wi_X14_readTerm ws_X14_readTerm wz_X14 hy_X14_readTerm ⟨(Nat.le_of_ble_eq_true rfl), (Nat.le_of_ble_eq_true rfl)⟩ ⟨(Nat.le_refl _), (Nat.le_refl _)⟩ (Nat.le_of_ble_eq_true rfl) rfl dX14_readSum_16 (ex_out C (by decide) rfl rfl (Nat.le_refl _) (Nat.le_refl _))
theorem hy_X14_readSum : yX14_readSum.cls ≠ "java/lang/invoke/MethodHandle" ∧ yX14_readSum.cls ≠ "java/lang/invoke/VarHandle" ∧ (parseMethodDescriptor yX14_readSum.desc).map (fun d => d.parameters.length) = some 0 := by decide +kernel
theorem T_X14_readSum (o : Nat) (h : aH) (r : aR) (h' : aH) (hs : s_X14_readSum o h = some (r, h')) : Mt yX14_readSum (Cond.code yX14_readSum cX14_readSum 3 none :: aTB) 11 239 0 0 [.ref o] h r h' := by
  unfold s_X14_readSum at hs
  refine Mt_of (k := 2) (by decide) rfl (fun p l e s m args below meth c D B0 X ws0 C => ?_)
  show Ev p l e { frames := 11, cells := 0, slots := 0, locals := 239 } s m args below meth c D B0 X ws0 r h' 0 0 3 0 0 0 [some (.ref o), none, none] [] h
  refine ev_aload_n C (x := .ref o) rfl trivial dX14_readSum_0 ?_
  refine ev_bipush C (v := 45) dX14_readSum_1 (by decide) ?_
  obtain ⟨eo3, hs⟩ := kO_at hs
  obtain ⟨x3, h3, e3, hs⟩ := cI_at hs
  refine ev_callV C (T_X14_is _ _ _ _ _ e3) (ci := 14) rfl eo3 wc_X14_is wm_X14_260 wi_X14_is ws_X14_is wz_X14 hy_X14_is ⟨(Nat.le_of_ble_eq_true rfl), (Nat.le_of_ble_eq_true rfl)⟩ ⟨(Nat.le_refl _), (Nat.le_refl _)⟩ (Nat.le_of_ble_eq_true rfl) rfl dX14_readSum_3 ?_
  refine ev_istore_n C (by decide) dX14_readSum_6 ?_
  refine ev_iload_n C rfl dX14_readSum_7 ?_
  refine ev_if_eq C (tgt := 15) (by decide) dX14_readSum_8 (fun q8 => ?_) (fun q8 => ?_)
  · replace hs := (if_pos q8).symm.trans hs
    exact (t_X14_readSum_15 C  hs)
  · replace hs := (if_neg q8).symm.trans hs
    refine ev_aload_n C (x := .ref o) rfl trivial dX14_readSum_11 ?_
    obtain ⟨eo12, hs⟩ := kO_at hs
    obtain ⟨h12, e12, hs⟩ := cN_at hs
    refine ev_callV C (T_X14_next _ _ _ _ e12) (ci := 14) rfl eo12 wc_X14_next wm_X14_263 wi_X14_next ws_X14_next wz_X14 hy_X14_next ⟨(Nat.le_of_ble_eq_true rfl), (Nat.le_of_ble_eq_true rfl)⟩ ⟨(Nat.le_refl _), (Nat.le_refl _)⟩ (Nat.le_of_ble_eq_true rfl) rfl dX14_readSum_12 ?_
    exact (t_X14_readSum_15 C  hs)
end
-- X14_readOne
theorem dX14_readOne_0 : decode cX14_readOne 0 = .ok (.aload_n 0, 1) := by decide +kernel
theorem dX14_readOne_1 : decode cX14_readOne 1 = .ok (.invokevirtual 298, 3) := by decide +kernel
theorem dX14_readOne_4 : decode cX14_readOne 4 = .ok (.aload_n 0, 1) := by decide +kernel
theorem dX14_readOne_5 : decode cX14_readOne 5 = .ok (.bipush 60, 2) := by decide +kernel
theorem dX14_readOne_7 : decode cX14_readOne 7 = .ok (.invokevirtual 260, 3) := by decide +kernel
theorem dX14_readOne_10 : decode cX14_readOne 10 = .ok (.ifCond .eq 8, 3) := by decide +kernel
theorem dX14_readOne_13 : decode cX14_readOne 13 = .ok (.bipush 6, 2) := by decide +kernel
theorem dX14_readOne_15 : decode cX14_readOne 15 = .ok (.goto 32, 3) := by decide +kernel
theorem dX14_readOne_18 : decode cX14_readOne 18 = .ok (.aload_n 0, 1) := by decide +kernel
theorem dX14_readOne_19 : decode cX14_readOne 19 = .ok (.bipush 62, 2) := by decide +kernel
theorem dX14_readOne_21 : decode cX14_readOne 21 = .ok (.invokevirtual 260, 3) := by decide +kernel
theorem dX14_readOne_24 : decode cX14_readOne 24 = .ok (.ifCond .eq 8, 3) := by decide +kernel
theorem dX14_readOne_27 : decode cX14_readOne 27 = .ok (.bipush 7, 2) := by decide +kernel
theorem dX14_readOne_29 : decode cX14_readOne 29 = .ok (.goto 18, 3) := by decide +kernel
theorem dX14_readOne_32 : decode cX14_readOne 32 = .ok (.aload_n 0, 1) := by decide +kernel
theorem dX14_readOne_33 : decode cX14_readOne 33 = .ok (.bipush 61, 2) := by decide +kernel
theorem dX14_readOne_35 : decode cX14_readOne 35 = .ok (.invokevirtual 260, 3) := by decide +kernel
theorem dX14_readOne_38 : decode cX14_readOne 38 = .ok (.ifCond .eq 8, 3) := by decide +kernel
theorem dX14_readOne_41 : decode cX14_readOne 41 = .ok (.bipush 8, 2) := by decide +kernel
theorem dX14_readOne_43 : decode cX14_readOne 43 = .ok (.goto 4, 3) := by decide +kernel
theorem dX14_readOne_46 : decode cX14_readOne 46 = .ok (.iconst (-1), 1) := by decide +kernel
theorem dX14_readOne_47 : decode cX14_readOne 47 = .ok (.istore_n 1, 1) := by decide +kernel
theorem dX14_readOne_48 : decode cX14_readOne 48 = .ok (.iload_n 1, 1) := by decide +kernel
theorem dX14_readOne_49 : decode cX14_readOne 49 = .ok (.iconst (-1), 1) := by decide +kernel
theorem dX14_readOne_50 : decode cX14_readOne 50 = .ok (.if_icmp .ne 9, 3) := by decide +kernel
theorem dX14_readOne_53 : decode cX14_readOne 53 = .ok (.aload_n 0, 1) := by decide +kernel
theorem dX14_readOne_54 : decode cX14_readOne 54 = .ok (.iconst 1, 1) := by decide +kernel
theorem dX14_readOne_55 : decode cX14_readOne 55 = .ok (.invokevirtual 266, 3) := by decide +kernel
theorem dX14_readOne_58 : decode cX14_readOne 58 = .ok (.athrow, 1) := by decide +kernel
theorem dX14_readOne_59 : decode cX14_readOne 59 = .ok (.aload_n 0, 1) := by decide +kernel
theorem dX14_readOne_60 : decode cX14_readOne 60 = .ok (.invokevirtual 263, 3) := by decide +kernel
theorem dX14_readOne_63 : decode cX14_readOne 63 = .ok (.aload_n 0, 1) := by decide +kernel
theorem dX14_readOne_64 : decode cX14_readOne 64 = .ok (.invokevirtual 298, 3) := by decide +kernel
theorem dX14_readOne_67 : decode cX14_readOne 67 = .ok (.aload_n 0, 1) := by decide +kernel
theorem dX14_readOne_68 : decode cX14_readOne 68 = .ok (.getfield 249, 3) := by decide +kernel
theorem dX14_readOne_71 : decode cX14_readOne 71 = .ok (.iload_n 1, 1) := by decide +kernel
theorem dX14_readOne_72 : decode cX14_readOne 72 = .ok (.iconst 0, 1) := by decide +kernel
theorem dX14_readOne_73 : decode cX14_readOne 73 = .ok (.invokevirtual 341, 3) := by decide +kernel
theorem dX14_readOne_76 : decode cX14_readOne 76 = .ok (.return_, 1) := by decide +kernel
def s_X14_readOne_47  (l0 : Nat) (s0 : Int32) (h : aH) : aO :=
  if s0 = (-1) then (kO h l0 14 (cR (s_X14_stop l0 1 h) fun x55 h55 => kO h55 x55 12 (some (.inr (RX12, x55), h55)))) else (kO h l0 14 (cN (s_X14_next l0 h) fun h60 => kO h60 l0 14 (xN (s_X14_readSum l0 h60) (fun h64 => (gO h64 (.ref l0) 14 6).bind fun x68 => kO h64 x68 13 (cN (s_X13_put x68 s0 0 h64) fun h73 => some (.inl none, h73))) (fun E i h => some (.inr (E, i), h)))))
def s_X14_readOne (o : Nat) (h : aH) : aO :=
  kO h o 14 (xN (s_X14_readSum o h) (fun h1 => kO h1 o 14 (cI (s_X14_is o 60 h1) fun x7 h7 => if x7 = 0 then (kO h7 o 14 (cI (s_X14_is o 62 h7) fun x21 h21 => if x21 = 0 then (kO h21 o 14 (cI (s_X14_is o 61 h21) fun x35 h35 => if x35 = 0 then (s_X14_readOne_47 o (-1) h35) else (s_X14_readOne_47 o 8 h35))) else (s_X14_readOne_47 o 7 h21))) else (s_X14_readOne_47 o 6 h7))) (fun E i h => some (.inr (E, i), h)))
section
variable {p : Program} {l : Launch} {e : Env} {s : State} {m : MethodId} {args : Array Value} {below : List Frame} {meth : Method} {c : Code} {D : va_G} {B0 : Nat} {X : Nat → Nat} {ws0 : va_W} {r : aR} {h' : aH} {mc ms : Nat}
theorem t_X14_readOne_47 (C : Cx p l s m args meth c B0 X RX14 "readOne" cX14_readOne 2 none [])   {l0 : Nat} {s0 : Int32} {h : aH} (hs : s_X14_readOne_47  l0 s0 h = some (r, h')) : Ev p l e { frames := 12, cells := mc, slots := ms, locals := 261 } s m args below meth c D B0 X ws0 r h' mc ms 2 mc ms 47 [some (.ref l0), none] [.int s0] h := by
  unfold s_X14_readOne_47 at hs
  refine ev_istore_n C (by decide) dX14_readOne_47 ?_
  refine ev_iload_n C rfl dX14_readOne_48 ?_
  refine ev_iconst C (v := (-1)) dX14_readOne_49 (by decide) ?_
  refine ev_icmp_ne C (tgt := 59) (by decide) dX14_readOne_50 (fun q50 => ?_) (fun q50 => ?_)
  · replace hs := (if_neg q50).symm.trans hs
    refine ev_aload_n C (x := .ref l0) rfl trivial dX14_readOne_59 ?_
    obtain ⟨eo60, hs⟩ := kO_at hs
    obtain ⟨h60, e60, hs⟩ := cN_at hs
    refine ev_callV C (T_X14_next _ _ _ _ e60) (ci := 14) rfl eo60 wc_X14_next wm_X14_263 wi_X14_next ws_X14_next wz_X14 hy_X14_next ⟨(Nat.le_of_ble_eq_true rfl), (Nat.le_of_ble_eq_true rfl)⟩ ⟨(Nat.le_refl _), (Nat.le_refl _)⟩ (Nat.le_of_ble_eq_true rfl) rfl dX14_readOne_60 ?_
    refine ev_aload_n C (x := .ref l0) rfl trivial dX14_readOne_63 ?_
    obtain ⟨eo64, hs⟩ := kO_at hs
    rcases xN_at hs with ⟨h64, e64, hs⟩ | ⟨E64, i64, g64, e64, hs⟩
    · skip
      refine ev_callV C (T_X14_readSum _ _ _ _ e64) (ci := 14) rfl eo64 wc_X14_readSum wm_X14_298 wi_X14_readSum ws_X14_readSum wz_X14 hy_X14_readSum ⟨(Nat.le_of_ble_eq_true rfl), (Nat.le_of_ble_eq_true rfl)⟩ ⟨(Nat.le_refl _), (Nat.le_refl _)⟩ (Nat.le_of_ble_eq_true rfl) rfl dX14_readOne_64 ?_
      refine ev_aload_n C (x := .ref l0) rfl trivial dX14_readOne_67 ?_
      obtain ⟨x68, e68, hs⟩ := aB hs
      refine ev_get C (ci := 14) (k := 6) rfl wu_14 (by decide) wf_X14_249 (gO_F e68) dX14_readOne_68 ?_
      refine ev_iload_n C rfl dX14_readOne_71 ?_
      refine ev_iconst C (v := 0) dX14_readOne_72 (by decide) ?_
      obtain ⟨eo73, hs⟩ := kO_at hs
      obtain ⟨h73, e73, hs⟩ := cN_at hs
      refine ev_callV C (T_X13_put _ _ _ _ _ _ e73) (ci := 13) rfl eo73 wc_X13_put wm_X14_341 wi_X13_put ws_X13_put wz_X13 hy_X13_put ⟨(Nat.le_of_ble_eq_true rfl), (Nat.le_of_ble_eq_true rfl)⟩ ⟨(Nat.le_refl _), (Nat.le_refl _)⟩ (Nat.le_of_ble_eq_true rfl) rfl dX14_readOne_73 ?_
      cases hs
      exact ev_vret C rfl rfl (Nat.le_refl _) (Nat.le_refl _) rfl dX14_readOne_76
    · cases hs
      exact ev_callVX C (T_X14_readSum _ _ _ _ e64) (ci := 14) rfl eo64 wc_X14_readSum wm_X14_298 wi_X14_readSum ws_X14_readSum wz_X14 hy_X14_readSum ⟨(Nat.le_of_ble_eq_true rfl), (Nat.le_of_ble_eq_true rfl)⟩ ⟨(Nat.le_refl _), (Nat.le_refl _)⟩ (Nat.le_of_ble_eq_true rfl) rfl dX14_readOne_64 (ex_out C (by decide) rfl rfl (Nat.le_refl _) (Nat.le_refl _))
  · replace hs := (if_pos q50).symm.trans hs
    refine ev_aload_n C (x := .ref l0) rfl trivial dX14_readOne_53 ?_
    refine ev_iconst C (v := 1) dX14_readOne_54 (by decide) ?_
    obtain ⟨eo55, hs⟩ := kO_at hs
    obtain ⟨x55, h55, e55, hs⟩ := cR_at hs
    refine ev_callV C (T_X14_stop _ _ _ _ _ e55) (ci := 14) rfl eo55 wc_X14_stop wm_X14_266 wi_X14_stop ws_X14_stop wz_X14 hy_X14_stop ⟨(Nat.le_of_ble_eq_true rfl), (Nat.le_of_ble_eq_true rfl)⟩ ⟨(Nat.le_refl _), (Nat.le_refl _)⟩ (Nat.le_of_ble_eq_true rfl) rfl dX14_readOne_55 ?_
    obtain ⟨e58, hs⟩ := kO_at hs
    cases hs
    exact ev_athrow C (ci := 12) rfl e58 dX14_readOne_58 (ex_out C (by decide) rfl rfl (Nat.le_refl _) (Nat.le_refl _))
theorem hy_X14_readOne : yX14_readOne.cls ≠ "java/lang/invoke/MethodHandle" ∧ yX14_readOne.cls ≠ "java/lang/invoke/VarHandle" ∧ (parseMethodDescriptor yX14_readOne.desc).map (fun d => d.parameters.length) = some 0 := by decide +kernel
theorem T_X14_readOne (o : Nat) (h : aH) (r : aR) (h' : aH) (hs : s_X14_readOne o h = some (r, h')) : Mt yX14_readOne (Cond.code yX14_readOne cX14_readOne 2 none :: aTB) 12 261 0 0 [.ref o] h r h' := by
  unfold s_X14_readOne at hs
  refine Mt_of (k := 1) (by decide) rfl (fun p l e s m args below meth c D B0 X ws0 C => ?_)
  show Ev p l e { frames := 12, cells := 0, slots := 0, locals := 261 } s m args below meth c D B0 X ws0 r h' 0 0 2 0 0 0 [some (.ref o), none] [] h
  refine ev_aload_n C (x := .ref o) rfl trivial dX14_readOne_0 ?_
  obtain ⟨eo1, hs⟩ := kO_at hs
  rcases xN_at hs with ⟨h1, e1, hs⟩ | ⟨E1, i1, g1, e1, hs⟩
  · skip
    refine ev_callV C (T_X14_readSum _ _ _ _ e1) (ci := 14) rfl eo1 wc_X14_readSum wm_X14_298 wi_X14_readSum ws_X14_readSum wz_X14 hy_X14_readSum ⟨(Nat.le_of_ble_eq_true rfl), (Nat.le_of_ble_eq_true rfl)⟩ ⟨(Nat.le_refl _), (Nat.le_refl _)⟩ (Nat.le_of_ble_eq_true rfl) rfl dX14_readOne_1 ?_
    refine ev_aload_n C (x := .ref o) rfl trivial dX14_readOne_4 ?_
    refine ev_bipush C (v := 60) dX14_readOne_5 (by decide) ?_
    obtain ⟨eo7, hs⟩ := kO_at hs
    obtain ⟨x7, h7, e7, hs⟩ := cI_at hs
    refine ev_callV C (T_X14_is _ _ _ _ _ e7) (ci := 14) rfl eo7 wc_X14_is wm_X14_260 wi_X14_is ws_X14_is wz_X14 hy_X14_is ⟨(Nat.le_of_ble_eq_true rfl), (Nat.le_of_ble_eq_true rfl)⟩ ⟨(Nat.le_refl _), (Nat.le_refl _)⟩ (Nat.le_of_ble_eq_true rfl) rfl dX14_readOne_7 ?_
    refine ev_if_eq C (tgt := 18) (by decide) dX14_readOne_10 (fun q10 => ?_) (fun q10 => ?_)
    · replace hs := (if_pos q10).symm.trans hs
      refine ev_aload_n C (x := .ref o) rfl trivial dX14_readOne_18 ?_
      refine ev_bipush C (v := 62) dX14_readOne_19 (by decide) ?_
      obtain ⟨eo21, hs⟩ := kO_at hs
      obtain ⟨x21, h21, e21, hs⟩ := cI_at hs
      refine ev_callV C (T_X14_is _ _ _ _ _ e21) (ci := 14) rfl eo21 wc_X14_is wm_X14_260 wi_X14_is ws_X14_is wz_X14 hy_X14_is ⟨(Nat.le_of_ble_eq_true rfl), (Nat.le_of_ble_eq_true rfl)⟩ ⟨(Nat.le_refl _), (Nat.le_refl _)⟩ (Nat.le_of_ble_eq_true rfl) rfl dX14_readOne_21 ?_
      refine ev_if_eq C (tgt := 32) (by decide) dX14_readOne_24 (fun q24 => ?_) (fun q24 => ?_)
      · replace hs := (if_pos q24).symm.trans hs
        refine ev_aload_n C (x := .ref o) rfl trivial dX14_readOne_32 ?_
        refine ev_bipush C (v := 61) dX14_readOne_33 (by decide) ?_
        obtain ⟨eo35, hs⟩ := kO_at hs
        obtain ⟨x35, h35, e35, hs⟩ := cI_at hs
        refine ev_callV C (T_X14_is _ _ _ _ _ e35) (ci := 14) rfl eo35 wc_X14_is wm_X14_260 wi_X14_is ws_X14_is wz_X14 hy_X14_is ⟨(Nat.le_of_ble_eq_true rfl), (Nat.le_of_ble_eq_true rfl)⟩ ⟨(Nat.le_refl _), (Nat.le_refl _)⟩ (Nat.le_of_ble_eq_true rfl) rfl dX14_readOne_35 ?_
        refine ev_if_eq C (tgt := 46) (by decide) dX14_readOne_38 (fun q38 => ?_) (fun q38 => ?_)
        · replace hs := (if_pos q38).symm.trans hs
          refine ev_iconst C (v := (-1)) dX14_readOne_46 (by decide) ?_
          exact (t_X14_readOne_47 C  hs)
        · replace hs := (if_neg q38).symm.trans hs
          refine ev_bipush C (v := 8) dX14_readOne_41 (by decide) ?_
          refine ev_goto C (tgt := 47) (by decide) dX14_readOne_43 ?_
          exact (t_X14_readOne_47 C  hs)
      · replace hs := (if_neg q24).symm.trans hs
        refine ev_bipush C (v := 7) dX14_readOne_27 (by decide) ?_
        refine ev_goto C (tgt := 47) (by decide) dX14_readOne_29 ?_
        exact (t_X14_readOne_47 C  hs)
    · replace hs := (if_neg q10).symm.trans hs
      refine ev_bipush C (v := 6) dX14_readOne_13 (by decide) ?_
      refine ev_goto C (tgt := 47) (by decide) dX14_readOne_15 ?_
      exact (t_X14_readOne_47 C  hs)
  · cases hs
    exact ev_callVX C (T_X14_readSum _ _ _ _ e1) (ci := 14) rfl eo1 wc_X14_readSum wm_X14_298 wi_X14_readSum ws_X14_readSum wz_X14 hy_X14_readSum ⟨(Nat.le_of_ble_eq_true rfl), (Nat.le_of_ble_eq_true rfl)⟩ ⟨(Nat.le_refl _), (Nat.le_refl _)⟩ (Nat.le_of_ble_eq_true rfl) rfl dX14_readOne_1 (ex_out C (by decide) rfl rfl (Nat.le_refl _) (Nat.le_refl _))
end
-- X14_readTest
theorem dX14_readTest_0 : decode cX14_readTest 0 = .ok (.aload_n 0, 1) := by decide +kernel
theorem dX14_readTest_1 : decode cX14_readTest 1 = .ok (.invokevirtual 338, 3) := by decide +kernel
theorem dX14_readTest_4 : decode cX14_readTest 4 = .ok (.aload_n 0, 1) := by decide +kernel
theorem dX14_readTest_5 : decode cX14_readTest 5 = .ok (.ldc 244, 2) := by decide +kernel
theorem dX14_readTest_7 : decode cX14_readTest 7 = .ok (.invokevirtual 225, 3) := by decide +kernel
theorem dX14_readTest_10 : decode cX14_readTest 10 = .ok (.ifCond .eq 24, 3) := by decide +kernel
theorem dX14_readTest_13 : decode cX14_readTest 13 = .ok (.aload_n 0, 1) := by decide +kernel
theorem dX14_readTest_14 : decode cX14_readTest 14 = .ok (.invokevirtual 263, 3) := by decide +kernel
theorem dX14_readTest_17 : decode cX14_readTest 17 = .ok (.aload_n 0, 1) := by decide +kernel
theorem dX14_readTest_18 : decode cX14_readTest 18 = .ok (.invokevirtual 338, 3) := by decide +kernel
theorem dX14_readTest_21 : decode cX14_readTest 21 = .ok (.aload_n 0, 1) := by decide +kernel
theorem dX14_readTest_22 : decode cX14_readTest 22 = .ok (.getfield 249, 3) := by decide +kernel
theorem dX14_readTest_25 : decode cX14_readTest 25 = .ok (.bipush 9, 2) := by decide +kernel
theorem dX14_readTest_27 : decode cX14_readTest 27 = .ok (.iconst 0, 1) := by decide +kernel
theorem dX14_readTest_28 : decode cX14_readTest 28 = .ok (.invokevirtual 341, 3) := by decide +kernel
theorem dX14_readTest_31 : decode cX14_readTest 31 = .ok (.goto (-27), 3) := by decide +kernel
theorem dX14_readTest_34 : decode cX14_readTest 34 = .ok (.return_, 1) := by decide +kernel
def s_X14_readTest_4_b  (k4 : Nat → aH → aO) (l0 : Nat) (h : aH) : aO :=
  kO h l0 14 (cI (s_X14_isWord l0 (aE + 10 + 7) h) fun x7 h7 => if x7 = 0 then (some (.inl none, h7)) else (kO h7 l0 14 (cN (s_X14_next l0 h7) fun h14 => kO h14 l0 14 (xN (s_X14_readOne l0 h14) (fun h18 => (gO h18 (.ref l0) 14 6).bind fun x22 => kO h18 x22 13 (cN (s_X13_put x22 9 0 h18) fun h28 => k4 l0 h28)) (fun E i h => some (.inr (E, i), h))))))
def s_X14_readTest_4  (n : Nat) : Nat → aH → aO := lpF (fun _ _ => none) (s_X14_readTest_4_b ) n
def s_X14_readTest (o : Nat) (h : aH) : aO :=
  kO h o 14 (xN (s_X14_readOne o h) (fun h1 => s_X14_readTest_4 FU o h1) (fun E i h => some (.inr (E, i), h)))
section
variable {p : Program} {l : Launch} {e : Env} {s : State} {m : MethodId} {args : Array Value} {below : List Frame} {meth : Method} {c : Code} {D : va_G} {B0 : Nat} {X : Nat → Nat} {ws0 : va_W} {r : aR} {h' : aH} {mc ms : Nat}
theorem t_X14_readTest_4_b (C : Cx p l s m args meth c B0 X RX14 "readTest" cX14_readTest 1 none [])   {k4 : Nat → aH → aO} (K4 : ∀ (l0 : Nat) (h : aH), k4 l0 h = some (r, h') → Ev p l e { frames := 13, cells := mc, slots := ms, locals := 282 } s m args below meth c D B0 X ws0 r h' mc ms 1 mc ms 4 [some (.ref l0)] [] h) {l0 : Nat} {h : aH} (hs : s_X14_readTest_4_b  k4 l0 h = some (r, h')) : Ev p l e { frames := 13, cells := mc, slots := ms, locals := 282 } s m args below meth c D B0 X ws0 r h' mc ms 1 mc ms 4 [some (.ref l0)] [] h := by
  unfold s_X14_readTest_4_b at hs
  refine ev_aload_n C (x := .ref l0) rfl trivial dX14_readTest_4 ?_
  refine ev_ldcS C (k := 7) rfl rfl dX14_readTest_5 ?_
  obtain ⟨eo7, hs⟩ := kO_at hs
  obtain ⟨x7, h7, e7, hs⟩ := cI_at hs
  refine ev_callV C (T_X14_isWord _ _ _ _ _ e7) (ci := 14) rfl eo7 wc_X14_isWord wm_X14_225 wi_X14_isWord ws_X14_isWord wz_X14 hy_X14_isWord ⟨(Nat.le_of_ble_eq_true rfl), (Nat.le_of_ble_eq_true rfl)⟩ ⟨(Nat.le_refl _), (Nat.le_refl _)⟩ (Nat.le_of_ble_eq_true rfl) rfl dX14_readTest_7 ?_
  refine ev_if_eq C (tgt := 34) (by decide) dX14_readTest_10 (fun q10 => ?_) (fun q10 => ?_)
  · replace hs := (if_pos q10).symm.trans hs
    cases hs
    exact ev_vret C rfl rfl (Nat.le_refl _) (Nat.le_refl _) rfl dX14_readTest_34
  · replace hs := (if_neg q10).symm.trans hs
    refine ev_aload_n C (x := .ref l0) rfl trivial dX14_readTest_13 ?_
    obtain ⟨eo14, hs⟩ := kO_at hs
    obtain ⟨h14, e14, hs⟩ := cN_at hs
    refine ev_callV C (T_X14_next _ _ _ _ e14) (ci := 14) rfl eo14 wc_X14_next wm_X14_263 wi_X14_next ws_X14_next wz_X14 hy_X14_next ⟨(Nat.le_of_ble_eq_true rfl), (Nat.le_of_ble_eq_true rfl)⟩ ⟨(Nat.le_refl _), (Nat.le_refl _)⟩ (Nat.le_of_ble_eq_true rfl) rfl dX14_readTest_14 ?_
    refine ev_aload_n C (x := .ref l0) rfl trivial dX14_readTest_17 ?_
    obtain ⟨eo18, hs⟩ := kO_at hs
    rcases xN_at hs with ⟨h18, e18, hs⟩ | ⟨E18, i18, g18, e18, hs⟩
    · skip
      refine ev_callV C (T_X14_readOne _ _ _ _ e18) (ci := 14) rfl eo18 wc_X14_readOne wm_X14_338 wi_X14_readOne ws_X14_readOne wz_X14 hy_X14_readOne ⟨(Nat.le_of_ble_eq_true rfl), (Nat.le_of_ble_eq_true rfl)⟩ ⟨(Nat.le_refl _), (Nat.le_refl _)⟩ (Nat.le_of_ble_eq_true rfl) rfl dX14_readTest_18 ?_
      refine ev_aload_n C (x := .ref l0) rfl trivial dX14_readTest_21 ?_
      obtain ⟨x22, e22, hs⟩ := aB hs
      refine ev_get C (ci := 14) (k := 6) rfl wu_14 (by decide) wf_X14_249 (gO_F e22) dX14_readTest_22 ?_
      refine ev_bipush C (v := 9) dX14_readTest_25 (by decide) ?_
      refine ev_iconst C (v := 0) dX14_readTest_27 (by decide) ?_
      obtain ⟨eo28, hs⟩ := kO_at hs
      obtain ⟨h28, e28, hs⟩ := cN_at hs
      refine ev_callV C (T_X13_put _ _ _ _ _ _ e28) (ci := 13) rfl eo28 wc_X13_put wm_X14_341 wi_X13_put ws_X13_put wz_X13 hy_X13_put ⟨(Nat.le_of_ble_eq_true rfl), (Nat.le_of_ble_eq_true rfl)⟩ ⟨(Nat.le_refl _), (Nat.le_refl _)⟩ (Nat.le_of_ble_eq_true rfl) rfl dX14_readTest_28 ?_
      refine ev_goto C (tgt := 4) (by decide) dX14_readTest_31 ?_
      exact (K4 _ _ hs)
    · cases hs
      exact ev_callVX C (T_X14_readOne _ _ _ _ e18) (ci := 14) rfl eo18 wc_X14_readOne wm_X14_338 wi_X14_readOne ws_X14_readOne wz_X14 hy_X14_readOne ⟨(Nat.le_of_ble_eq_true rfl), (Nat.le_of_ble_eq_true rfl)⟩ ⟨(Nat.le_refl _), (Nat.le_refl _)⟩ (Nat.le_of_ble_eq_true rfl) rfl dX14_readTest_18 (ex_out C (by decide) rfl rfl (Nat.le_refl _) (Nat.le_refl _))
theorem t_X14_readTest_4 (C : Cx p l s m args meth c B0 X RX14 "readTest" cX14_readTest 1 none [])   : ∀ (n : Nat) {l0 : Nat} {h : aH} (hs : s_X14_readTest_4  n l0 h = some (r, h')), Ev p l e { frames := 13, cells := mc, slots := ms, locals := 282 } s m args below meth c D B0 X ws0 r h' mc ms 1 mc ms 4 [some (.ref l0)] [] h
  | 0, _, _, hs => nomatch hs
  | n + 1, _, _, hs => t_X14_readTest_4_b C  (k4 := s_X14_readTest_4  n) (fun _ _ hs => t_X14_readTest_4 C  n hs) hs
theorem hy_X14_readTest : yX14_readTest.cls ≠ "java/lang/invoke/MethodHandle" ∧ yX14_readTest.cls ≠ "java/lang/invoke/VarHandle" ∧ (parseMethodDescriptor yX14_readTest.desc).map (fun d => d.parameters.length) = some 0 := by decide +kernel
theorem T_X14_readTest (o : Nat) (h : aH) (r : aR) (h' : aH) (hs : s_X14_readTest o h = some (r, h')) : Mt yX14_readTest (Cond.code yX14_readTest cX14_readTest 1 none :: aTB) 13 282 0 0 [.ref o] h r h' := by
  unfold s_X14_readTest at hs
  refine Mt_of (k := 0) (by decide) rfl (fun p l e s m args below meth c D B0 X ws0 C => ?_)
  show Ev p l e { frames := 13, cells := 0, slots := 0, locals := 282 } s m args below meth c D B0 X ws0 r h' 0 0 1 0 0 0 [some (.ref o)] [] h
  refine ev_aload_n C (x := .ref o) rfl trivial dX14_readTest_0 ?_
  obtain ⟨eo1, hs⟩ := kO_at hs
  rcases xN_at hs with ⟨h1, e1, hs⟩ | ⟨E1, i1, g1, e1, hs⟩
  · skip
    refine ev_callV C (T_X14_readOne _ _ _ _ e1) (ci := 14) rfl eo1 wc_X14_readOne wm_X14_338 wi_X14_readOne ws_X14_readOne wz_X14 hy_X14_readOne ⟨(Nat.le_of_ble_eq_true rfl), (Nat.le_of_ble_eq_true rfl)⟩ ⟨(Nat.le_refl _), (Nat.le_refl _)⟩ (Nat.le_of_ble_eq_true rfl) rfl dX14_readTest_1 ?_
    exact (t_X14_readTest_4 C  FU hs)
  · cases hs
    exact ev_callVX C (T_X14_readOne _ _ _ _ e1) (ci := 14) rfl eo1 wc_X14_readOne wm_X14_338 wi_X14_readOne ws_X14_readOne wz_X14 hy_X14_readOne ⟨(Nat.le_of_ble_eq_true rfl), (Nat.le_of_ble_eq_true rfl)⟩ ⟨(Nat.le_refl _), (Nat.le_refl _)⟩ (Nat.le_of_ble_eq_true rfl) rfl dX14_readTest_1 (ex_out C (by decide) rfl rfl (Nat.le_refl _) (Nat.le_refl _))
end
-- X14_readStep
theorem dX14_readStep_0 : decode cX14_readStep 0 = .ok (.aload_n 0, 1) := by decide +kernel
theorem dX14_readStep_1 : decode cX14_readStep 1 = .ok (.invokevirtual 282, 3) := by decide +kernel
theorem dX14_readStep_4 : decode cX14_readStep 4 = .ok (.istore_n 1, 1) := by decide +kernel
theorem dX14_readStep_5 : decode cX14_readStep 5 = .ok (.iload_n 1, 1) := by decide +kernel
theorem dX14_readStep_6 : decode cX14_readStep 6 = .ok (.iconst (-1), 1) := by decide +kernel
theorem dX14_readStep_7 : decode cX14_readStep 7 = .ok (.if_icmp .eq 8, 3) := by decide +kernel
theorem dX14_readStep_10 : decode cX14_readStep 10 = .ok (.iload_n 1, 1) := by decide +kernel
theorem dX14_readStep_11 : decode cX14_readStep 11 = .ok (.iconst 3, 1) := by decide +kernel
theorem dX14_readStep_12 : decode cX14_readStep 12 = .ok (.if_icmp .lt 9, 3) := by decide +kernel
theorem dX14_readStep_15 : decode cX14_readStep 15 = .ok (.aload_n 0, 1) := by decide +kernel
theorem dX14_readStep_16 : decode cX14_readStep 16 = .ok (.iconst 2, 1) := by decide +kernel
theorem dX14_readStep_17 : decode cX14_readStep 17 = .ok (.invokevirtual 266, 3) := by decide +kernel
theorem dX14_readStep_20 : decode cX14_readStep 20 = .ok (.athrow, 1) := by decide +kernel
theorem dX14_readStep_21 : decode cX14_readStep 21 = .ok (.aload_n 0, 1) := by decide +kernel
theorem dX14_readStep_22 : decode cX14_readStep 22 = .ok (.getfield 249, 3) := by decide +kernel
theorem dX14_readStep_25 : decode cX14_readStep 25 = .ok (.getfield 320, 3) := by decide +kernel
theorem dX14_readStep_28 : decode cX14_readStep 28 = .ok (.bipush 8, 2) := by decide +kernel
theorem dX14_readStep_30 : decode cX14_readStep 30 = .ok (.if_icmp .ne 9, 3) := by decide +kernel
theorem dX14_readStep_33 : decode cX14_readStep 33 = .ok (.aload_n 0, 1) := by decide +kernel
theorem dX14_readStep_34 : decode cX14_readStep 34 = .ok (.iconst 5, 1) := by decide +kernel
theorem dX14_readStep_35 : decode cX14_readStep 35 = .ok (.invokevirtual 266, 3) := by decide +kernel
theorem dX14_readStep_38 : decode cX14_readStep 38 = .ok (.athrow, 1) := by decide +kernel
theorem dX14_readStep_39 : decode cX14_readStep 39 = .ok (.aload_n 0, 1) := by decide +kernel
theorem dX14_readStep_40 : decode cX14_readStep 40 = .ok (.getfield 249, 3) := by decide +kernel
theorem dX14_readStep_43 : decode cX14_readStep 43 = .ok (.getfield 320, 3) := by decide +kernel
theorem dX14_readStep_46 : decode cX14_readStep 46 = .ok (.istore_n 2, 1) := by decide +kernel
theorem dX14_readStep_47 : decode cX14_readStep 47 = .ok (.aload_n 0, 1) := by decide +kernel
theorem dX14_readStep_48 : decode cX14_readStep 48 = .ok (.invokevirtual 263, 3) := by decide +kernel
theorem dX14_readStep_51 : decode cX14_readStep 51 = .ok (.aload_n 0, 1) := by decide +kernel
theorem dX14_readStep_52 : decode cX14_readStep 52 = .ok (.bipush 61, 2) := by decide +kernel
theorem dX14_readStep_54 : decode cX14_readStep 54 = .ok (.invokevirtual 285, 3) := by decide +kernel
theorem dX14_readStep_57 : decode cX14_readStep 57 = .ok (.aload_n 0, 1) := by decide +kernel
theorem dX14_readStep_58 : decode cX14_readStep 58 = .ok (.iconst 3, 1) := by decide +kernel
theorem dX14_readStep_59 : decode cX14_readStep 59 = .ok (.putfield 289, 3) := by decide +kernel
theorem dX14_readStep_62 : decode cX14_readStep 62 = .ok (.aload_n 0, 1) := by decide +kernel
theorem dX14_readStep_63 : decode cX14_readStep 63 = .ok (.getfield 249, 3) := by decide +kernel
theorem dX14_readStep_66 : decode cX14_readStep 66 = .ok (.getfield 323, 3) := by decide +kernel
theorem dX14_readStep_69 : decode cX14_readStep 69 = .ok (.iload_n 2, 1) := by decide +kernel
theorem dX14_readStep_70 : decode cX14_readStep 70 = .ok (.iload_n 1, 1) := by decide +kernel
theorem dX14_readStep_71 : decode cX14_readStep 71 = .ok (.iastore, 1) := by decide +kernel
theorem dX14_readStep_72 : decode cX14_readStep 72 = .ok (.aload_n 0, 1) := by decide +kernel
theorem dX14_readStep_73 : decode cX14_readStep 73 = .ok (.getfield 249, 3) := by decide +kernel
theorem dX14_readStep_76 : decode cX14_readStep 76 = .ok (.getfield 326, 3) := by decide +kernel
theorem dX14_readStep_79 : decode cX14_readStep 79 = .ok (.iload_n 2, 1) := by decide +kernel
theorem dX14_readStep_80 : decode cX14_readStep 80 = .ok (.aload_n 0, 1) := by decide +kernel
theorem dX14_readStep_81 : decode cX14_readStep 81 = .ok (.getfield 249, 3) := by decide +kernel
theorem dX14_readStep_84 : decode cX14_readStep 84 = .ok (.getfield 295, 3) := by decide +kernel
theorem dX14_readStep_87 : decode cX14_readStep 87 = .ok (.iastore, 1) := by decide +kernel
theorem dX14_readStep_88 : decode cX14_readStep 88 = .ok (.aload_n 0, 1) := by decide +kernel
theorem dX14_readStep_89 : decode cX14_readStep 89 = .ok (.invokevirtual 298, 3) := by decide +kernel
theorem dX14_readStep_92 : decode cX14_readStep 92 = .ok (.aload_n 0, 1) := by decide +kernel
theorem dX14_readStep_93 : decode cX14_readStep 93 = .ok (.getfield 249, 3) := by decide +kernel
theorem dX14_readStep_96 : decode cX14_readStep 96 = .ok (.getfield 329, 3) := by decide +kernel
theorem dX14_readStep_99 : decode cX14_readStep 99 = .ok (.iload_n 2, 1) := by decide +kernel
theorem dX14_readStep_100 : decode cX14_readStep 100 = .ok (.aload_n 0, 1) := by decide +kernel
theorem dX14_readStep_101 : decode cX14_readStep 101 = .ok (.getfield 249, 3) := by decide +kernel
theorem dX14_readStep_104 : decode cX14_readStep 104 = .ok (.getfield 295, 3) := by decide +kernel
theorem dX14_readStep_107 : decode cX14_readStep 107 = .ok (.iastore, 1) := by decide +kernel
theorem dX14_readStep_108 : decode cX14_readStep 108 = .ok (.aload_n 0, 1) := by decide +kernel
theorem dX14_readStep_109 : decode cX14_readStep 109 = .ok (.ldc 242, 2) := by decide +kernel
theorem dX14_readStep_111 : decode cX14_readStep 111 = .ok (.invokevirtual 225, 3) := by decide +kernel
theorem dX14_readStep_114 : decode cX14_readStep 114 = .ok (.ifCond .eq 11, 3) := by decide +kernel
theorem dX14_readStep_117 : decode cX14_readStep 117 = .ok (.aload_n 0, 1) := by decide +kernel
theorem dX14_readStep_118 : decode cX14_readStep 118 = .ok (.invokevirtual 263, 3) := by decide +kernel
theorem dX14_readStep_121 : decode cX14_readStep 121 = .ok (.aload_n 0, 1) := by decide +kernel
theorem dX14_readStep_122 : decode cX14_readStep 122 = .ok (.invokevirtual 332, 3) := by decide +kernel
theorem dX14_readStep_125 : decode cX14_readStep 125 = .ok (.aload_n 0, 1) := by decide +kernel
theorem dX14_readStep_126 : decode cX14_readStep 126 = .ok (.getfield 249, 3) := by decide +kernel
theorem dX14_readStep_129 : decode cX14_readStep 129 = .ok (.getfield 335, 3) := by decide +kernel
theorem dX14_readStep_132 : decode cX14_readStep 132 = .ok (.iload_n 2, 1) := by decide +kernel
theorem dX14_readStep_133 : decode cX14_readStep 133 = .ok (.aload_n 0, 1) := by decide +kernel
theorem dX14_readStep_134 : decode cX14_readStep 134 = .ok (.getfield 249, 3) := by decide +kernel
theorem dX14_readStep_137 : decode cX14_readStep 137 = .ok (.getfield 295, 3) := by decide +kernel
theorem dX14_readStep_140 : decode cX14_readStep 140 = .ok (.iastore, 1) := by decide +kernel
theorem dX14_readStep_141 : decode cX14_readStep 141 = .ok (.aload_n 0, 1) := by decide +kernel
theorem dX14_readStep_142 : decode cX14_readStep 142 = .ok (.getfield 249, 3) := by decide +kernel
theorem dX14_readStep_145 : decode cX14_readStep 145 = .ok (.dup, 1) := by decide +kernel
theorem dX14_readStep_146 : decode cX14_readStep 146 = .ok (.getfield 320, 3) := by decide +kernel
theorem dX14_readStep_149 : decode cX14_readStep 149 = .ok (.iconst 1, 1) := by decide +kernel
theorem dX14_readStep_150 : decode cX14_readStep 150 = .ok (.iadd, 1) := by decide +kernel
theorem dX14_readStep_151 : decode cX14_readStep 151 = .ok (.putfield 320, 3) := by decide +kernel
theorem dX14_readStep_154 : decode cX14_readStep 154 = .ok (.return_, 1) := by decide +kernel
def s_X14_readStep_15  (l0 : Nat) (h : aH) : aO :=
  kO h l0 14 (cR (s_X14_stop l0 2 h) fun x17 h17 => kO h17 x17 12 (some (.inr (RX12, x17), h17)))
def s_X14_readStep_125  (l0 : Nat) (l2 : Int32) (h : aH) : aO :=
  (gO h (.ref l0) 14 6).bind fun x126 => (gO h (.ref x126) 13 11).bind fun x129 => (gO h (.ref l0) 14 6).bind fun x134 => (gI h (.ref x134) 13 7).bind fun x137 => (stI h (.ref x129) l2 x137).bind fun h140 => (gO h140 (.ref l0) 14 6).bind fun x142 => (gI h140 (.ref x142) 13 6).bind fun x146 => (pF h140 (.ref x142) 13 6 (.int (x146 + 1))).bind fun h151 => some (.inl none, h151)
def s_X14_readStep (o : Nat) (h : aH) : aO :=
  kO h o 14 (cI (s_X14_slotHere o h) fun x1 h1 => if x1 = (-1) then (s_X14_readStep_15 o h1) else (if x1 < 3 then ((gO h1 (.ref o) 14 6).bind fun x22 => (gI h1 (.ref x22) 13 6).bind fun x25 => if x25 = 8 then (kO h1 o 14 (cR (s_X14_stop o 5 h1) fun x35 h35 => kO h35 x35 12 (some (.inr (RX12, x35), h35)))) else ((gO h1 (.ref o) 14 6).bind fun x40 => (gI h1 (.ref x40) 13 6).bind fun x43 => kO h1 o 14 (cN (s_X14_next o h1) fun h48 => kO h48 o 14 (xN (s_X14_need o 61 h48) (fun h54 => (pF h54 (.ref o) 14 17 (.int 3)).bind fun h59 => (gO h59 (.ref o) 14 6).bind fun x63 => (gO h59 (.ref x63) 13 8).bind fun x66 => (stI h59 (.ref x66) x43 x1).bind fun h71 => (gO h71 (.ref o) 14 6).bind fun x73 => (gO h71 (.ref x73) 13 9).bind fun x76 => (gO h71 (.ref o) 14 6).bind fun x81 => (gI h71 (.ref x81) 13 7).bind fun x84 => (stI h71 (.ref x76) x43 x84).bind fun h87 => kO h87 o 14 (xN (s_X14_readSum o h87) (fun h89 => (gO h89 (.ref o) 14 6).bind fun x93 => (gO h89 (.ref x93) 13 10).bind fun x96 => (gO h89 (.ref o) 14 6).bind fun x101 => (gI h89 (.ref x101) 13 7).bind fun x104 => (stI h89 (.ref x96) x43 x104).bind fun h107 => kO h107 o 14 (cI (s_X14_isWord o (aE + 10 + 6) h107) fun x111 h111 => if x111 = 0 then (s_X14_readStep_125 o x43 h111) else (kO h111 o 14 (cN (s_X14_next o h111) fun h118 => kO h118 o 14 (xN (s_X14_readTest o h118) (fun h122 => s_X14_readStep_125 o x43 h122) (fun E i h => some (.inr (E, i), h))))))) (fun E i h => some (.inr (E, i), h)))) (fun E i h => some (.inr (E, i), h)))))) else (s_X14_readStep_15 o h1)))
section
variable {p : Program} {l : Launch} {e : Env} {s : State} {m : MethodId} {args : Array Value} {below : List Frame} {meth : Method} {c : Code} {D : va_G} {B0 : Nat} {X : Nat → Nat} {ws0 : va_W} {r : aR} {h' : aH} {mc ms : Nat}
theorem t_X14_readStep_15 (C : Cx p l s m args meth c B0 X RX14 "readStep" cX14_readStep 3 none [])   {l0 : Nat} {h : aH} (hs : s_X14_readStep_15  l0 h = some (r, h')) : Ev p l e { frames := 14, cells := mc, slots := ms, locals := 302 } s m args below meth c D B0 X ws0 r h' mc ms 3 mc ms 15 [some (.ref l0), none, none] [] h := by
  unfold s_X14_readStep_15 at hs
  refine ev_aload_n C (x := .ref l0) rfl trivial dX14_readStep_15 ?_
  refine ev_iconst C (v := 2) dX14_readStep_16 (by decide) ?_
  obtain ⟨eo17, hs⟩ := kO_at hs
  obtain ⟨x17, h17, e17, hs⟩ := cR_at hs
  refine ev_callV C (T_X14_stop _ _ _ _ _ e17) (ci := 14) rfl eo17 wc_X14_stop wm_X14_266 wi_X14_stop ws_X14_stop wz_X14 hy_X14_stop ⟨(Nat.le_of_ble_eq_true rfl), (Nat.le_of_ble_eq_true rfl)⟩ ⟨(Nat.le_refl _), (Nat.le_refl _)⟩ (Nat.le_of_ble_eq_true rfl) rfl dX14_readStep_17 ?_
  obtain ⟨e20, hs⟩ := kO_at hs
  cases hs
  exact ev_athrow C (ci := 12) rfl e20 dX14_readStep_20 (ex_out C (by decide) rfl rfl (Nat.le_refl _) (Nat.le_refl _))
theorem t_X14_readStep_125 (C : Cx p l s m args meth c B0 X RX14 "readStep" cX14_readStep 3 none [])   {l0 : Nat} {l2 : Int32} {h : aH} (hs : s_X14_readStep_125  l0 l2 h = some (r, h')) : Ev p l e { frames := 14, cells := mc, slots := ms, locals := 302 } s m args below meth c D B0 X ws0 r h' mc ms 3 mc ms 125 [some (.ref l0), none, some (.int l2)] [] h := by
  unfold s_X14_readStep_125 at hs
  refine ev_aload_n C (x := .ref l0) rfl trivial dX14_readStep_125 ?_
  obtain ⟨x126, e126, hs⟩ := aB hs
  refine ev_get C (ci := 14) (k := 6) rfl wu_14 (by decide) wf_X14_249 (gO_F e126) dX14_readStep_126 ?_
  obtain ⟨x129, e129, hs⟩ := aB hs
  refine ev_getN C (ci := 13) (k := 11) rfl wu_13 (by decide) wg_X14_335 (gO_F e129) dX14_readStep_129 ?_
  refine ev_iload_n C rfl dX14_readStep_132 ?_
  refine ev_aload_n C (x := .ref l0) rfl trivial dX14_readStep_133 ?_
  obtain ⟨x134, e134, hs⟩ := aB hs
  refine ev_get C (ci := 14) (k := 6) rfl wu_14 (by decide) wf_X14_249 (gO_F e134) dX14_readStep_134 ?_
  obtain ⟨x137, e137, hs⟩ := aB hs
  refine ev_getN C (ci := 13) (k := 7) rfl wu_13 (by decide) wg_X14_295 (gI_F e137) dX14_readStep_137 ?_
  obtain ⟨h140, e140, hs⟩ := aB hs
  refine ev_iast C e140 dX14_readStep_140 ?_
  refine ev_aload_n C (x := .ref l0) rfl trivial dX14_readStep_141 ?_
  obtain ⟨x142, e142, hs⟩ := aB hs
  refine ev_get C (ci := 14) (k := 6) rfl wu_14 (by decide) wf_X14_249 (gO_F e142) dX14_readStep_142 ?_
  refine ev_dup C rfl dX14_readStep_145 ?_
  obtain ⟨x146, e146, hs⟩ := aB hs
  refine ev_getN C (ci := 13) (k := 6) rfl wu_13 (by decide) wg_X14_320 (gI_F e146) dX14_readStep_146 ?_
  refine ev_iconst C (v := 1) dX14_readStep_149 (by decide) ?_
  refine ev_iadd C dX14_readStep_150 ?_
  obtain ⟨h151, e151, hs⟩ := aB hs
  refine ev_putN C (ci := 13) (k := 6) rfl wu_13 (by decide) tyX13 tyX13_ok nmX13 wg_X14_320 rfl trivial e151 dX14_readStep_151 ?_
  cases hs
  exact ev_vret C rfl rfl (Nat.le_refl _) (Nat.le_refl _) rfl dX14_readStep_154
theorem hy_X14_readStep : yX14_readStep.cls ≠ "java/lang/invoke/MethodHandle" ∧ yX14_readStep.cls ≠ "java/lang/invoke/VarHandle" ∧ (parseMethodDescriptor yX14_readStep.desc).map (fun d => d.parameters.length) = some 0 := by decide +kernel
theorem T_X14_readStep (o : Nat) (h : aH) (r : aR) (h' : aH) (hs : s_X14_readStep o h = some (r, h')) : Mt yX14_readStep (Cond.code yX14_readStep cX14_readStep 3 none :: aTB) 14 302 0 0 [.ref o] h r h' := by
  unfold s_X14_readStep at hs
  refine Mt_of (k := 2) (by decide) rfl (fun p l e s m args below meth c D B0 X ws0 C => ?_)
  show Ev p l e { frames := 14, cells := 0, slots := 0, locals := 302 } s m args below meth c D B0 X ws0 r h' 0 0 3 0 0 0 [some (.ref o), none, none] [] h
  refine ev_aload_n C (x := .ref o) rfl trivial dX14_readStep_0 ?_
  obtain ⟨eo1, hs⟩ := kO_at hs
  obtain ⟨x1, h1, e1, hs⟩ := cI_at hs
  refine ev_callV C (T_X14_slotHere _ _ _ _ e1) (ci := 14) rfl eo1 wc_X14_slotHere wm_X14_282 wi_X14_slotHere ws_X14_slotHere wz_X14 hy_X14_slotHere ⟨(Nat.le_of_ble_eq_true rfl), (Nat.le_of_ble_eq_true rfl)⟩ ⟨(Nat.le_refl _), (Nat.le_refl _)⟩ (Nat.le_of_ble_eq_true rfl) rfl dX14_readStep_1 ?_
  refine ev_istore_n C (by decide) dX14_readStep_4 ?_
  refine ev_iload_n C rfl dX14_readStep_5 ?_
  refine ev_iconst C (v := (-1)) dX14_readStep_6 (by decide) ?_
  refine ev_icmp_eq C (tgt := 15) (by decide) dX14_readStep_7 (fun q7 => ?_) (fun q7 => ?_)
  · replace hs := (if_pos q7).symm.trans hs
    exact Ev.keep [true, false, true] (t_X14_readStep_15 C  hs)
  · replace hs := (if_neg q7).symm.trans hs
    refine ev_iload_n C rfl dX14_readStep_10 ?_
    refine ev_iconst C (v := 3) dX14_readStep_11 (by decide) ?_
    refine ev_icmp_lt C (tgt := 21) (by decide) dX14_readStep_12 (fun q12 => ?_) (fun q12 => ?_)
    · replace hs := (if_pos q12).symm.trans hs
      refine ev_aload_n C (x := .ref o) rfl trivial dX14_readStep_21 ?_
      obtain ⟨x22, e22, hs⟩ := aB hs
      refine ev_get C (ci := 14) (k := 6) rfl wu_14 (by decide) wf_X14_249 (gO_F e22) dX14_readStep_22 ?_
      obtain ⟨x25, e25, hs⟩ := aB hs
      refine ev_getN C (ci := 13) (k := 6) rfl wu_13 (by decide) wg_X14_320 (gI_F e25) dX14_readStep_25 ?_
      refine ev_bipush C (v := 8) dX14_readStep_28 (by decide) ?_
      refine ev_icmp_ne C (tgt := 39) (by decide) dX14_readStep_30 (fun q30 => ?_) (fun q30 => ?_)
      · replace hs := (if_neg q30).symm.trans hs
        refine ev_aload_n C (x := .ref o) rfl trivial dX14_readStep_39 ?_
        obtain ⟨x40, e40, hs⟩ := aB hs
        refine ev_get C (ci := 14) (k := 6) rfl wu_14 (by decide) wf_X14_249 (gO_F e40) dX14_readStep_40 ?_
        obtain ⟨x43, e43, hs⟩ := aB hs
        refine ev_getN C (ci := 13) (k := 6) rfl wu_13 (by decide) wg_X14_320 (gI_F e43) dX14_readStep_43 ?_
        refine ev_istore_n C (by decide) dX14_readStep_46 ?_
        refine ev_aload_n C (x := .ref o) rfl trivial dX14_readStep_47 ?_
        obtain ⟨eo48, hs⟩ := kO_at hs
        obtain ⟨h48, e48, hs⟩ := cN_at hs
        refine ev_callV C (T_X14_next _ _ _ _ e48) (ci := 14) rfl eo48 wc_X14_next wm_X14_263 wi_X14_next ws_X14_next wz_X14 hy_X14_next ⟨(Nat.le_of_ble_eq_true rfl), (Nat.le_of_ble_eq_true rfl)⟩ ⟨(Nat.le_refl _), (Nat.le_refl _)⟩ (Nat.le_of_ble_eq_true rfl) rfl dX14_readStep_48 ?_
        refine ev_aload_n C (x := .ref o) rfl trivial dX14_readStep_51 ?_
        refine ev_bipush C (v := 61) dX14_readStep_52 (by decide) ?_
        obtain ⟨eo54, hs⟩ := kO_at hs
        rcases xN_at hs with ⟨h54, e54, hs⟩ | ⟨E54, i54, g54, e54, hs⟩
        · skip
          refine ev_callV C (T_X14_need _ _ _ _ _ e54) (ci := 14) rfl eo54 wc_X14_need wm_X14_285 wi_X14_need ws_X14_need wz_X14 hy_X14_need ⟨(Nat.le_of_ble_eq_true rfl), (Nat.le_of_ble_eq_true rfl)⟩ ⟨(Nat.le_refl _), (Nat.le_refl _)⟩ (Nat.le_of_ble_eq_true rfl) rfl dX14_readStep_54 ?_
          refine ev_aload_n C (x := .ref o) rfl trivial dX14_readStep_57 ?_
          refine ev_iconst C (v := 3) dX14_readStep_58 (by decide) ?_
          obtain ⟨h59, e59, hs⟩ := aB hs
          refine ev_put C (ci := 14) (k := 17) rfl wu_14 (by decide) tyX14 tyX14_ok nmX14 wf_X14_289 rfl trivial e59 dX14_readStep_59 ?_
          refine ev_aload_n C (x := .ref o) rfl trivial dX14_readStep_62 ?_
          obtain ⟨x63, e63, hs⟩ := aB hs
          refine ev_get C (ci := 14) (k := 6) rfl wu_14 (by decide) wf_X14_249 (gO_F e63) dX14_readStep_63 ?_
          obtain ⟨x66, e66, hs⟩ := aB hs
          refine ev_getN C (ci := 13) (k := 8) rfl wu_13 (by decide) wg_X14_323 (gO_F e66) dX14_readStep_66 ?_
          refine ev_iload_n C rfl dX14_readStep_69 ?_
          refine ev_iload_n C rfl dX14_readStep_70 ?_
          obtain ⟨h71, e71, hs⟩ := aB hs
          refine ev_iast C e71 dX14_readStep_71 ?_
          refine ev_aload_n C (x := .ref o) rfl trivial dX14_readStep_72 ?_
          obtain ⟨x73, e73, hs⟩ := aB hs
          refine ev_get C (ci := 14) (k := 6) rfl wu_14 (by decide) wf_X14_249 (gO_F e73) dX14_readStep_73 ?_
          obtain ⟨x76, e76, hs⟩ := aB hs
          refine ev_getN C (ci := 13) (k := 9) rfl wu_13 (by decide) wg_X14_326 (gO_F e76) dX14_readStep_76 ?_
          refine ev_iload_n C rfl dX14_readStep_79 ?_
          refine ev_aload_n C (x := .ref o) rfl trivial dX14_readStep_80 ?_
          obtain ⟨x81, e81, hs⟩ := aB hs
          refine ev_get C (ci := 14) (k := 6) rfl wu_14 (by decide) wf_X14_249 (gO_F e81) dX14_readStep_81 ?_
          obtain ⟨x84, e84, hs⟩ := aB hs
          refine ev_getN C (ci := 13) (k := 7) rfl wu_13 (by decide) wg_X14_295 (gI_F e84) dX14_readStep_84 ?_
          obtain ⟨h87, e87, hs⟩ := aB hs
          refine ev_iast C e87 dX14_readStep_87 ?_
          refine ev_aload_n C (x := .ref o) rfl trivial dX14_readStep_88 ?_
          obtain ⟨eo89, hs⟩ := kO_at hs
          rcases xN_at hs with ⟨h89, e89, hs⟩ | ⟨E89, i89, g89, e89, hs⟩
          · skip
            refine ev_callV C (T_X14_readSum _ _ _ _ e89) (ci := 14) rfl eo89 wc_X14_readSum wm_X14_298 wi_X14_readSum ws_X14_readSum wz_X14 hy_X14_readSum ⟨(Nat.le_of_ble_eq_true rfl), (Nat.le_of_ble_eq_true rfl)⟩ ⟨(Nat.le_refl _), (Nat.le_refl _)⟩ (Nat.le_of_ble_eq_true rfl) rfl dX14_readStep_89 ?_
            refine ev_aload_n C (x := .ref o) rfl trivial dX14_readStep_92 ?_
            obtain ⟨x93, e93, hs⟩ := aB hs
            refine ev_get C (ci := 14) (k := 6) rfl wu_14 (by decide) wf_X14_249 (gO_F e93) dX14_readStep_93 ?_
            obtain ⟨x96, e96, hs⟩ := aB hs
            refine ev_getN C (ci := 13) (k := 10) rfl wu_13 (by decide) wg_X14_329 (gO_F e96) dX14_readStep_96 ?_
            refine ev_iload_n C rfl dX14_readStep_99 ?_
            refine ev_aload_n C (x := .ref o) rfl trivial dX14_readStep_100 ?_
            obtain ⟨x101, e101, hs⟩ := aB hs
            refine ev_get C (ci := 14) (k := 6) rfl wu_14 (by decide) wf_X14_249 (gO_F e101) dX14_readStep_101 ?_
            obtain ⟨x104, e104, hs⟩ := aB hs
            refine ev_getN C (ci := 13) (k := 7) rfl wu_13 (by decide) wg_X14_295 (gI_F e104) dX14_readStep_104 ?_
            obtain ⟨h107, e107, hs⟩ := aB hs
            refine ev_iast C e107 dX14_readStep_107 ?_
            refine ev_aload_n C (x := .ref o) rfl trivial dX14_readStep_108 ?_
            refine ev_ldcS C (k := 6) rfl rfl dX14_readStep_109 ?_
            obtain ⟨eo111, hs⟩ := kO_at hs
            obtain ⟨x111, h111, e111, hs⟩ := cI_at hs
            refine ev_callV C (T_X14_isWord _ _ _ _ _ e111) (ci := 14) rfl eo111 wc_X14_isWord wm_X14_225 wi_X14_isWord ws_X14_isWord wz_X14 hy_X14_isWord ⟨(Nat.le_of_ble_eq_true rfl), (Nat.le_of_ble_eq_true rfl)⟩ ⟨(Nat.le_refl _), (Nat.le_refl _)⟩ (Nat.le_of_ble_eq_true rfl) rfl dX14_readStep_111 ?_
            refine ev_if_eq C (tgt := 125) (by decide) dX14_readStep_114 (fun q114 => ?_) (fun q114 => ?_)
            · replace hs := (if_pos q114).symm.trans hs
              exact Ev.keep [true, false, true] (t_X14_readStep_125 C  hs)
            · replace hs := (if_neg q114).symm.trans hs
              refine ev_aload_n C (x := .ref o) rfl trivial dX14_readStep_117 ?_
              obtain ⟨eo118, hs⟩ := kO_at hs
              obtain ⟨h118, e118, hs⟩ := cN_at hs
              refine ev_callV C (T_X14_next _ _ _ _ e118) (ci := 14) rfl eo118 wc_X14_next wm_X14_263 wi_X14_next ws_X14_next wz_X14 hy_X14_next ⟨(Nat.le_of_ble_eq_true rfl), (Nat.le_of_ble_eq_true rfl)⟩ ⟨(Nat.le_refl _), (Nat.le_refl _)⟩ (Nat.le_of_ble_eq_true rfl) rfl dX14_readStep_118 ?_
              refine ev_aload_n C (x := .ref o) rfl trivial dX14_readStep_121 ?_
              obtain ⟨eo122, hs⟩ := kO_at hs
              rcases xN_at hs with ⟨h122, e122, hs⟩ | ⟨E122, i122, g122, e122, hs⟩
              · skip
                refine ev_callV C (T_X14_readTest _ _ _ _ e122) (ci := 14) rfl eo122 wc_X14_readTest wm_X14_332 wi_X14_readTest ws_X14_readTest wz_X14 hy_X14_readTest ⟨(Nat.le_of_ble_eq_true rfl), (Nat.le_of_ble_eq_true rfl)⟩ ⟨(Nat.le_refl _), (Nat.le_refl _)⟩ (Nat.le_of_ble_eq_true rfl) rfl dX14_readStep_122 ?_
                exact Ev.keep [true, false, true] (t_X14_readStep_125 C  hs)
              · cases hs
                exact ev_callVX C (T_X14_readTest _ _ _ _ e122) (ci := 14) rfl eo122 wc_X14_readTest wm_X14_332 wi_X14_readTest ws_X14_readTest wz_X14 hy_X14_readTest ⟨(Nat.le_of_ble_eq_true rfl), (Nat.le_of_ble_eq_true rfl)⟩ ⟨(Nat.le_refl _), (Nat.le_refl _)⟩ (Nat.le_of_ble_eq_true rfl) rfl dX14_readStep_122 (ex_out C (by decide) rfl rfl (Nat.le_refl _) (Nat.le_refl _))
          · cases hs
            exact ev_callVX C (T_X14_readSum _ _ _ _ e89) (ci := 14) rfl eo89 wc_X14_readSum wm_X14_298 wi_X14_readSum ws_X14_readSum wz_X14 hy_X14_readSum ⟨(Nat.le_of_ble_eq_true rfl), (Nat.le_of_ble_eq_true rfl)⟩ ⟨(Nat.le_refl _), (Nat.le_refl _)⟩ (Nat.le_of_ble_eq_true rfl) rfl dX14_readStep_89 (ex_out C (by decide) rfl rfl (Nat.le_refl _) (Nat.le_refl _))
        · cases hs
          exact ev_callVX C (T_X14_need _ _ _ _ _ e54) (ci := 14) rfl eo54 wc_X14_need wm_X14_285 wi_X14_need ws_X14_need wz_X14 hy_X14_need ⟨(Nat.le_of_ble_eq_true rfl), (Nat.le_of_ble_eq_true rfl)⟩ ⟨(Nat.le_refl _), (Nat.le_refl _)⟩ (Nat.le_of_ble_eq_true rfl) rfl dX14_readStep_54 (ex_out C (by decide) rfl rfl (Nat.le_refl _) (Nat.le_refl _))
      · replace hs := (if_pos q30).symm.trans hs
        refine ev_aload_n C (x := .ref o) rfl trivial dX14_readStep_33 ?_
        refine ev_iconst C (v := 5) dX14_readStep_34 (by decide) ?_
        obtain ⟨eo35, hs⟩ := kO_at hs
        obtain ⟨x35, h35, e35, hs⟩ := cR_at hs
        refine ev_callV C (T_X14_stop _ _ _ _ _ e35) (ci := 14) rfl eo35 wc_X14_stop wm_X14_266 wi_X14_stop ws_X14_stop wz_X14 hy_X14_stop ⟨(Nat.le_of_ble_eq_true rfl), (Nat.le_of_ble_eq_true rfl)⟩ ⟨(Nat.le_refl _), (Nat.le_refl _)⟩ (Nat.le_of_ble_eq_true rfl) rfl dX14_readStep_35 ?_
        obtain ⟨e38, hs⟩ := kO_at hs
        cases hs
        exact ev_athrow C (ci := 12) rfl e38 dX14_readStep_38 (ex_out C (by decide) rfl rfl (Nat.le_refl _) (Nat.le_refl _))
    · replace hs := (if_neg q12).symm.trans hs
      exact Ev.keep [true, false, true] (t_X14_readStep_15 C  hs)
end
-- X14_readInt
theorem dX14_readInt_0 : decode cX14_readInt 0 = .ok (.aload_n 0, 1) := by decide +kernel
theorem dX14_readInt_1 : decode cX14_readInt 1 = .ok (.bipush 45, 2) := by decide +kernel
theorem dX14_readInt_3 : decode cX14_readInt 3 = .ok (.invokevirtual 260, 3) := by decide +kernel
theorem dX14_readInt_6 : decode cX14_readInt 6 = .ok (.istore_n 1, 1) := by decide +kernel
theorem dX14_readInt_7 : decode cX14_readInt 7 = .ok (.iload_n 1, 1) := by decide +kernel
theorem dX14_readInt_8 : decode cX14_readInt 8 = .ok (.ifCond .eq 7, 3) := by decide +kernel
theorem dX14_readInt_11 : decode cX14_readInt 11 = .ok (.aload_n 0, 1) := by decide +kernel
theorem dX14_readInt_12 : decode cX14_readInt 12 = .ok (.invokevirtual 263, 3) := by decide +kernel
theorem dX14_readInt_15 : decode cX14_readInt 15 = .ok (.aload_n 0, 1) := by decide +kernel
theorem dX14_readInt_16 : decode cX14_readInt 16 = .ok (.getfield 196, 3) := by decide +kernel
theorem dX14_readInt_19 : decode cX14_readInt 19 = .ok (.iconst 3, 1) := by decide +kernel
theorem dX14_readInt_20 : decode cX14_readInt 20 = .ok (.if_icmp .eq 9, 3) := by decide +kernel
theorem dX14_readInt_23 : decode cX14_readInt 23 = .ok (.aload_n 0, 1) := by decide +kernel
theorem dX14_readInt_24 : decode cX14_readInt 24 = .ok (.iconst 1, 1) := by decide +kernel
theorem dX14_readInt_25 : decode cX14_readInt 25 = .ok (.invokevirtual 266, 3) := by decide +kernel
theorem dX14_readInt_28 : decode cX14_readInt 28 = .ok (.athrow, 1) := by decide +kernel
theorem dX14_readInt_29 : decode cX14_readInt 29 = .ok (.iload_n 1, 1) := by decide +kernel
theorem dX14_readInt_30 : decode cX14_readInt 30 = .ok (.ifCond .eq 11, 3) := by decide +kernel
theorem dX14_readInt_33 : decode cX14_readInt 33 = .ok (.aload_n 0, 1) := by decide +kernel
theorem dX14_readInt_34 : decode cX14_readInt 34 = .ok (.getfield 213, 3) := by decide +kernel
theorem dX14_readInt_37 : decode cX14_readInt 37 = .ok (.ineg, 1) := by decide +kernel
theorem dX14_readInt_38 : decode cX14_readInt 38 = .ok (.goto 7, 3) := by decide +kernel
theorem dX14_readInt_41 : decode cX14_readInt 41 = .ok (.aload_n 0, 1) := by decide +kernel
theorem dX14_readInt_42 : decode cX14_readInt 42 = .ok (.getfield 213, 3) := by decide +kernel
theorem dX14_readInt_45 : decode cX14_readInt 45 = .ok (.ireturn, 1) := by decide +kernel
def s_X14_readInt_15  (l0 : Nat) (l1 : Int32) (h : aH) : aO :=
  (gI h (.ref l0) 14 12).bind fun x16 => if x16 = 3 then (if l1 = 0 then ((gI h (.ref l0) 14 15).bind fun x42 => some (.inl (some (.int x42)), h)) else ((gI h (.ref l0) 14 15).bind fun x34 => some (.inl (some (.int (-x34))), h))) else (kO h l0 14 (cR (s_X14_stop l0 1 h) fun x25 h25 => kO h25 x25 12 (some (.inr (RX12, x25), h25))))
def s_X14_readInt (o : Nat) (h : aH) : aO :=
  kO h o 14 (cI (s_X14_is o 45 h) fun x3 h3 => if x3 = 0 then (s_X14_readInt_15 o x3 h3) else (kO h3 o 14 (cN (s_X14_next o h3) fun h12 => s_X14_readInt_15 o x3 h12)))
section
variable {p : Program} {l : Launch} {e : Env} {s : State} {m : MethodId} {args : Array Value} {below : List Frame} {meth : Method} {c : Code} {D : va_G} {B0 : Nat} {X : Nat → Nat} {ws0 : va_W} {r : aR} {h' : aH} {mc ms : Nat}
theorem t_X14_readInt_15 (C : Cx p l s m args meth c B0 X RX14 "readInt" cX14_readInt 2 (some .int) [])   {l0 : Nat} {l1 : Int32} {h : aH} (hs : s_X14_readInt_15  l0 l1 h = some (r, h')) : Ev p l e { frames := 2, cells := mc, slots := ms, locals := 43 } s m args below meth c D B0 X ws0 r h' mc ms 2 mc ms 15 [some (.ref l0), some (.int l1)] [] h := by
  unfold s_X14_readInt_15 at hs
  refine ev_aload_n C (x := .ref l0) rfl trivial dX14_readInt_15 ?_
  obtain ⟨x16, e16, hs⟩ := aB hs
  refine ev_get C (ci := 14) (k := 12) rfl wu_14 (by decide) wf_X14_196 (gI_F e16) dX14_readInt_16 ?_
  refine ev_iconst C (v := 3) dX14_readInt_19 (by decide) ?_
  refine ev_icmp_eq C (tgt := 29) (by decide) dX14_readInt_20 (fun q20 => ?_) (fun q20 => ?_)
  · replace hs := (if_pos q20).symm.trans hs
    refine ev_iload_n C rfl dX14_readInt_29 ?_
    refine ev_if_eq C (tgt := 41) (by decide) dX14_readInt_30 (fun q30 => ?_) (fun q30 => ?_)
    · replace hs := (if_pos q30).symm.trans hs
      refine ev_aload_n C (x := .ref l0) rfl trivial dX14_readInt_41 ?_
      obtain ⟨x42, e42, hs⟩ := aB hs
      refine ev_get C (ci := 14) (k := 15) rfl wu_14 (by decide) wf_X14_213 (gI_F e42) dX14_readInt_42 ?_
      cases hs
      exact ev_iret C rfl rfl (Nat.le_refl _) (Nat.le_refl _) rfl dX14_readInt_45
    · replace hs := (if_neg q30).symm.trans hs
      refine ev_aload_n C (x := .ref l0) rfl trivial dX14_readInt_33 ?_
      obtain ⟨x34, e34, hs⟩ := aB hs
      refine ev_get C (ci := 14) (k := 15) rfl wu_14 (by decide) wf_X14_213 (gI_F e34) dX14_readInt_34 ?_
      refine ev_ineg C dX14_readInt_37 ?_
      refine ev_goto C (tgt := 45) (by decide) dX14_readInt_38 ?_
      cases hs
      exact ev_iret C rfl rfl (Nat.le_refl _) (Nat.le_refl _) rfl dX14_readInt_45
  · replace hs := (if_neg q20).symm.trans hs
    refine ev_aload_n C (x := .ref l0) rfl trivial dX14_readInt_23 ?_
    refine ev_iconst C (v := 1) dX14_readInt_24 (by decide) ?_
    obtain ⟨eo25, hs⟩ := kO_at hs
    obtain ⟨x25, h25, e25, hs⟩ := cR_at hs
    refine ev_callV C (T_X14_stop _ _ _ _ _ e25) (ci := 14) rfl eo25 wc_X14_stop wm_X14_266 wi_X14_stop ws_X14_stop wz_X14 hy_X14_stop ⟨(Nat.le_of_ble_eq_true rfl), (Nat.le_of_ble_eq_true rfl)⟩ ⟨(Nat.le_refl _), (Nat.le_refl _)⟩ (Nat.le_of_ble_eq_true rfl) rfl dX14_readInt_25 ?_
    obtain ⟨e28, hs⟩ := kO_at hs
    cases hs
    exact ev_athrow C (ci := 12) rfl e28 dX14_readInt_28 (ex_out C (by decide) rfl rfl (Nat.le_refl _) (Nat.le_refl _))
theorem hy_X14_readInt : yX14_readInt.cls ≠ "java/lang/invoke/MethodHandle" ∧ yX14_readInt.cls ≠ "java/lang/invoke/VarHandle" ∧ (parseMethodDescriptor yX14_readInt.desc).map (fun d => d.parameters.length) = some 0 := by decide +kernel
theorem T_X14_readInt (o : Nat) (h : aH) (r : aR) (h' : aH) (hs : s_X14_readInt o h = some (r, h')) : Mt yX14_readInt (Cond.code yX14_readInt cX14_readInt 2 (some .int) :: aTB) 2 43 0 0 [.ref o] h r h' := by
  unfold s_X14_readInt at hs
  refine Mt_of (k := 1) (by decide) rfl (fun p l e s m args below meth c D B0 X ws0 C => ?_)
  show Ev p l e { frames := 2, cells := 0, slots := 0, locals := 43 } s m args below meth c D B0 X ws0 r h' 0 0 2 0 0 0 [some (.ref o), none] [] h
  refine ev_aload_n C (x := .ref o) rfl trivial dX14_readInt_0 ?_
  refine ev_bipush C (v := 45) dX14_readInt_1 (by decide) ?_
  obtain ⟨eo3, hs⟩ := kO_at hs
  obtain ⟨x3, h3, e3, hs⟩ := cI_at hs
  refine ev_callV C (T_X14_is _ _ _ _ _ e3) (ci := 14) rfl eo3 wc_X14_is wm_X14_260 wi_X14_is ws_X14_is wz_X14 hy_X14_is ⟨(Nat.le_of_ble_eq_true rfl), (Nat.le_of_ble_eq_true rfl)⟩ ⟨(Nat.le_refl _), (Nat.le_refl _)⟩ (Nat.le_of_ble_eq_true rfl) rfl dX14_readInt_3 ?_
  refine ev_istore_n C (by decide) dX14_readInt_6 ?_
  refine ev_iload_n C rfl dX14_readInt_7 ?_
  refine ev_if_eq C (tgt := 15) (by decide) dX14_readInt_8 (fun q8 => ?_) (fun q8 => ?_)
  · replace hs := (if_pos q8).symm.trans hs
    exact (t_X14_readInt_15 C  hs)
  · replace hs := (if_neg q8).symm.trans hs
    refine ev_aload_n C (x := .ref o) rfl trivial dX14_readInt_11 ?_
    obtain ⟨eo12, hs⟩ := kO_at hs
    obtain ⟨h12, e12, hs⟩ := cN_at hs
    refine ev_callV C (T_X14_next _ _ _ _ e12) (ci := 14) rfl eo12 wc_X14_next wm_X14_263 wi_X14_next ws_X14_next wz_X14 hy_X14_next ⟨(Nat.le_of_ble_eq_true rfl), (Nat.le_of_ble_eq_true rfl)⟩ ⟨(Nat.le_refl _), (Nat.le_refl _)⟩ (Nat.le_of_ble_eq_true rfl) rfl dX14_readInt_12 ?_
    exact (t_X14_readInt_15 C  hs)
end
-- X14_readSpan
theorem dX14_readSpan_0 : decode cX14_readSpan 0 = .ok (.aload_n 0, 1) := by decide +kernel
theorem dX14_readSpan_1 : decode cX14_readSpan 1 = .ok (.getfield 249, 3) := by decide +kernel
theorem dX14_readSpan_4 : decode cX14_readSpan 4 = .ok (.getfield 307, 3) := by decide +kernel
theorem dX14_readSpan_7 : decode cX14_readSpan 7 = .ok (.iload_n 1, 1) := by decide +kernel
theorem dX14_readSpan_8 : decode cX14_readSpan 8 = .ok (.aload_n 0, 1) := by decide +kernel
theorem dX14_readSpan_9 : decode cX14_readSpan 9 = .ok (.invokevirtual 310, 3) := by decide +kernel
theorem dX14_readSpan_12 : decode cX14_readSpan 12 = .ok (.iastore, 1) := by decide +kernel
theorem dX14_readSpan_13 : decode cX14_readSpan 13 = .ok (.aload_n 0, 1) := by decide +kernel
theorem dX14_readSpan_14 : decode cX14_readSpan 14 = .ok (.invokevirtual 263, 3) := by decide +kernel
theorem dX14_readSpan_17 : decode cX14_readSpan 17 = .ok (.aload_n 0, 1) := by decide +kernel
theorem dX14_readSpan_18 : decode cX14_readSpan 18 = .ok (.ldc 240, 2) := by decide +kernel
theorem dX14_readSpan_20 : decode cX14_readSpan 20 = .ok (.invokevirtual 225, 3) := by decide +kernel
theorem dX14_readSpan_23 : decode cX14_readSpan 23 = .ok (.ifCond .ne 9, 3) := by decide +kernel
theorem dX14_readSpan_26 : decode cX14_readSpan 26 = .ok (.aload_n 0, 1) := by decide +kernel
theorem dX14_readSpan_27 : decode cX14_readSpan 27 = .ok (.iconst 1, 1) := by decide +kernel
theorem dX14_readSpan_28 : decode cX14_readSpan 28 = .ok (.invokevirtual 266, 3) := by decide +kernel
theorem dX14_readSpan_31 : decode cX14_readSpan 31 = .ok (.athrow, 1) := by decide +kernel
theorem dX14_readSpan_32 : decode cX14_readSpan 32 = .ok (.aload_n 0, 1) := by decide +kernel
theorem dX14_readSpan_33 : decode cX14_readSpan 33 = .ok (.getfield 169, 3) := by decide +kernel
theorem dX14_readSpan_36 : decode cX14_readSpan 36 = .ok (.istore_n 2, 1) := by decide +kernel
theorem dX14_readSpan_37 : decode cX14_readSpan 37 = .ok (.aload_n 0, 1) := by decide +kernel
theorem dX14_readSpan_38 : decode cX14_readSpan 38 = .ok (.getfield 249, 3) := by decide +kernel
theorem dX14_readSpan_41 : decode cX14_readSpan 41 = .ok (.getfield 307, 3) := by decide +kernel
theorem dX14_readSpan_44 : decode cX14_readSpan 44 = .ok (.iload_n 1, 1) := by decide +kernel
theorem dX14_readSpan_45 : decode cX14_readSpan 45 = .ok (.iaload, 1) := by decide +kernel
theorem dX14_readSpan_46 : decode cX14_readSpan 46 = .ok (.bipush (-20), 2) := by decide +kernel
theorem dX14_readSpan_48 : decode cX14_readSpan 48 = .ok (.bipush 20, 2) := by decide +kernel
theorem dX14_readSpan_50 : decode cX14_readSpan 50 = .ok (.invokestatic 313, 3) := by decide +kernel
theorem dX14_readSpan_53 : decode cX14_readSpan 53 = .ok (.ifCond .ne 9, 3) := by decide +kernel
theorem dX14_readSpan_56 : decode cX14_readSpan 56 = .ok (.aload_n 0, 1) := by decide +kernel
theorem dX14_readSpan_57 : decode cX14_readSpan 57 = .ok (.iconst 4, 1) := by decide +kernel
theorem dX14_readSpan_58 : decode cX14_readSpan 58 = .ok (.invokevirtual 266, 3) := by decide +kernel
theorem dX14_readSpan_61 : decode cX14_readSpan 61 = .ok (.athrow, 1) := by decide +kernel
theorem dX14_readSpan_62 : decode cX14_readSpan 62 = .ok (.aload_n 0, 1) := by decide +kernel
theorem dX14_readSpan_63 : decode cX14_readSpan 63 = .ok (.invokevirtual 263, 3) := by decide +kernel
theorem dX14_readSpan_66 : decode cX14_readSpan 66 = .ok (.aload_n 0, 1) := by decide +kernel
theorem dX14_readSpan_67 : decode cX14_readSpan 67 = .ok (.getfield 249, 3) := by decide +kernel
theorem dX14_readSpan_70 : decode cX14_readSpan 70 = .ok (.getfield 317, 3) := by decide +kernel
theorem dX14_readSpan_73 : decode cX14_readSpan 73 = .ok (.iload_n 1, 1) := by decide +kernel
theorem dX14_readSpan_74 : decode cX14_readSpan 74 = .ok (.aload_n 0, 1) := by decide +kernel
theorem dX14_readSpan_75 : decode cX14_readSpan 75 = .ok (.invokevirtual 310, 3) := by decide +kernel
theorem dX14_readSpan_78 : decode cX14_readSpan 78 = .ok (.iastore, 1) := by decide +kernel
theorem dX14_readSpan_79 : decode cX14_readSpan 79 = .ok (.aload_n 0, 1) := by decide +kernel
theorem dX14_readSpan_80 : decode cX14_readSpan 80 = .ok (.getfield 249, 3) := by decide +kernel
theorem dX14_readSpan_83 : decode cX14_readSpan 83 = .ok (.getfield 317, 3) := by decide +kernel
theorem dX14_readSpan_86 : decode cX14_readSpan 86 = .ok (.iload_n 1, 1) := by decide +kernel
theorem dX14_readSpan_87 : decode cX14_readSpan 87 = .ok (.iaload, 1) := by decide +kernel
theorem dX14_readSpan_88 : decode cX14_readSpan 88 = .ok (.aload_n 0, 1) := by decide +kernel
theorem dX14_readSpan_89 : decode cX14_readSpan 89 = .ok (.getfield 249, 3) := by decide +kernel
theorem dX14_readSpan_92 : decode cX14_readSpan 92 = .ok (.getfield 307, 3) := by decide +kernel
theorem dX14_readSpan_95 : decode cX14_readSpan 95 = .ok (.iload_n 1, 1) := by decide +kernel
theorem dX14_readSpan_96 : decode cX14_readSpan 96 = .ok (.iaload, 1) := by decide +kernel
theorem dX14_readSpan_97 : decode cX14_readSpan 97 = .ok (.bipush 20, 2) := by decide +kernel
theorem dX14_readSpan_99 : decode cX14_readSpan 99 = .ok (.invokestatic 313, 3) := by decide +kernel
theorem dX14_readSpan_102 : decode cX14_readSpan 102 = .ok (.ifCond .ne 10, 3) := by decide +kernel
theorem dX14_readSpan_105 : decode cX14_readSpan 105 = .ok (.aload_n 0, 1) := by decide +kernel
theorem dX14_readSpan_106 : decode cX14_readSpan 106 = .ok (.iconst 4, 1) := by decide +kernel
theorem dX14_readSpan_107 : decode cX14_readSpan 107 = .ok (.iload_n 2, 1) := by decide +kernel
theorem dX14_readSpan_108 : decode cX14_readSpan 108 = .ok (.invokevirtual 170, 3) := by decide +kernel
theorem dX14_readSpan_111 : decode cX14_readSpan 111 = .ok (.athrow, 1) := by decide +kernel
theorem dX14_readSpan_112 : decode cX14_readSpan 112 = .ok (.aload_n 0, 1) := by decide +kernel
theorem dX14_readSpan_113 : decode cX14_readSpan 113 = .ok (.invokevirtual 263, 3) := by decide +kernel
theorem dX14_readSpan_116 : decode cX14_readSpan 116 = .ok (.return_, 1) := by decide +kernel
def s_X14_readSpan (o : Nat) (a1 : Int32) (h : aH) : aO :=
  (gO h (.ref o) 14 6).bind fun x1 => (gO h (.ref x1) 13 1).bind fun x4 => kO h o 14 (xI (s_X14_readInt o h) (fun x9 h9 => (stI h9 (.ref x4) a1 x9).bind fun h12 => kO h12 o 14 (cN (s_X14_next o h12) fun h14 => kO h14 o 14 (cI (s_X14_isWord o (aE + 10 + 5) h14) fun x20 h20 => if x20 = 0 then (kO h20 o 14 (cR (s_X14_stop o 1 h20) fun x28 h28 => kO h28 x28 12 (some (.inr (RX12, x28), h28)))) else ((gI h20 (.ref o) 14 13).bind fun x33 => (gO h20 (.ref o) 14 6).bind fun x38 => (gO h20 (.ref x38) 13 1).bind fun x41 => (ldI .int h20 (.ref x41) a1).bind fun x45 => cI (s_X14_in x45 (-20) 20 h20) fun x50 h50 => if x50 = 0 then (kO h50 o 14 (cR (s_X14_stop o 4 h50) fun x58 h58 => kO h58 x58 12 (some (.inr (RX12, x58), h58)))) else (kO h50 o 14 (cN (s_X14_next o h50) fun h63 => (gO h63 (.ref o) 14 6).bind fun x67 => (gO h63 (.ref x67) 13 2).bind fun x70 => kO h63 o 14 (xI (s_X14_readInt o h63) (fun x75 h75 => (stI h75 (.ref x70) a1 x75).bind fun h78 => (gO h78 (.ref o) 14 6).bind fun x80 => (gO h78 (.ref x80) 13 2).bind fun x83 => (ldI .int h78 (.ref x83) a1).bind fun x87 => (gO h78 (.ref o) 14 6).bind fun x89 => (gO h78 (.ref x89) 13 1).bind fun x92 => (ldI .int h78 (.ref x92) a1).bind fun x96 => cI (s_X14_in x87 x96 20 h78) fun x99 h99 => if x99 = 0 then (kO h99 o 14 (cR (s_X14_stopAt o 4 x33 h99) fun x108 h108 => kO h108 x108 12 (some (.inr (RX12, x108), h108)))) else (kO h99 o 14 (cN (s_X14_next o h99) fun h113 => some (.inl none, h113)))) (fun E i h => some (.inr (E, i), h))))))))) (fun E i h => some (.inr (E, i), h)))
section
variable {p : Program} {l : Launch} {e : Env} {s : State} {m : MethodId} {args : Array Value} {below : List Frame} {meth : Method} {c : Code} {D : va_G} {B0 : Nat} {X : Nat → Nat} {ws0 : va_W} {r : aR} {h' : aH} {mc ms : Nat}
theorem hy_X14_readSpan : yX14_readSpan.cls ≠ "java/lang/invoke/MethodHandle" ∧ yX14_readSpan.cls ≠ "java/lang/invoke/VarHandle" ∧ (parseMethodDescriptor yX14_readSpan.desc).map (fun d => d.parameters.length) = some 1 := by decide +kernel
theorem T_X14_readSpan (o : Nat) (a1 : Int32) (h : aH) (r : aR) (h' : aH) (hs : s_X14_readSpan o a1 h = some (r, h')) : Mt yX14_readSpan (Cond.code yX14_readSpan cX14_readSpan 3 none :: aTB) 7 158 0 0 [.ref o, .int a1] h r h' := by
  unfold s_X14_readSpan at hs
  refine Mt_of (k := 1) (by decide) rfl (fun p l e s m args below meth c D B0 X ws0 C => ?_)
  show Ev p l e { frames := 7, cells := 0, slots := 0, locals := 158 } s m args below meth c D B0 X ws0 r h' 0 0 3 0 0 0 [some (.ref o), some (.int a1), none] [] h
  refine ev_aload_n C (x := .ref o) rfl trivial dX14_readSpan_0 ?_
  obtain ⟨x1, e1, hs⟩ := aB hs
  refine ev_get C (ci := 14) (k := 6) rfl wu_14 (by decide) wf_X14_249 (gO_F e1) dX14_readSpan_1 ?_
  obtain ⟨x4, e4, hs⟩ := aB hs
  refine ev_getN C (ci := 13) (k := 1) rfl wu_13 (by decide) wg_X14_307 (gO_F e4) dX14_readSpan_4 ?_
  refine ev_iload_n C rfl dX14_readSpan_7 ?_
  refine ev_aload_n C (x := .ref o) rfl trivial dX14_readSpan_8 ?_
  obtain ⟨eo9, hs⟩ := kO_at hs
  rcases xI_at hs with ⟨x9, h9, e9, hs⟩ | ⟨E9, i9, g9, e9, hs⟩
  · skip
    refine ev_callV C (T_X14_readInt _ _ _ _ e9) (ci := 14) rfl eo9 wc_X14_readInt wm_X14_310 wi_X14_readInt ws_X14_readInt wz_X14 hy_X14_readInt ⟨(Nat.le_of_ble_eq_true rfl), (Nat.le_of_ble_eq_true rfl)⟩ ⟨(Nat.le_refl _), (Nat.le_refl _)⟩ (Nat.le_of_ble_eq_true rfl) rfl dX14_readSpan_9 ?_
    obtain ⟨h12, e12, hs⟩ := aB hs
    refine ev_iast C e12 dX14_readSpan_12 ?_
    refine ev_aload_n C (x := .ref o) rfl trivial dX14_readSpan_13 ?_
    obtain ⟨eo14, hs⟩ := kO_at hs
    obtain ⟨h14, e14, hs⟩ := cN_at hs
    refine ev_callV C (T_X14_next _ _ _ _ e14) (ci := 14) rfl eo14 wc_X14_next wm_X14_263 wi_X14_next ws_X14_next wz_X14 hy_X14_next ⟨(Nat.le_of_ble_eq_true rfl), (Nat.le_of_ble_eq_true rfl)⟩ ⟨(Nat.le_refl _), (Nat.le_refl _)⟩ (Nat.le_of_ble_eq_true rfl) rfl dX14_readSpan_14 ?_
    refine ev_aload_n C (x := .ref o) rfl trivial dX14_readSpan_17 ?_
    refine ev_ldcS C (k := 5) rfl rfl dX14_readSpan_18 ?_
    obtain ⟨eo20, hs⟩ := kO_at hs
    obtain ⟨x20, h20, e20, hs⟩ := cI_at hs
    refine ev_callV C (T_X14_isWord _ _ _ _ _ e20) (ci := 14) rfl eo20 wc_X14_isWord wm_X14_225 wi_X14_isWord ws_X14_isWord wz_X14 hy_X14_isWord ⟨(Nat.le_of_ble_eq_true rfl), (Nat.le_of_ble_eq_true rfl)⟩ ⟨(Nat.le_refl _), (Nat.le_refl _)⟩ (Nat.le_of_ble_eq_true rfl) rfl dX14_readSpan_20 ?_
    refine ev_if_ne C (tgt := 32) (by decide) dX14_readSpan_23 (fun q23 => ?_) (fun q23 => ?_)
    · replace hs := (if_neg q23).symm.trans hs
      refine ev_aload_n C (x := .ref o) rfl trivial dX14_readSpan_32 ?_
      obtain ⟨x33, e33, hs⟩ := aB hs
      refine ev_get C (ci := 14) (k := 13) rfl wu_14 (by decide) wf_X14_169 (gI_F e33) dX14_readSpan_33 ?_
      refine ev_istore_n C (by decide) dX14_readSpan_36 ?_
      refine ev_aload_n C (x := .ref o) rfl trivial dX14_readSpan_37 ?_
      obtain ⟨x38, e38, hs⟩ := aB hs
      refine ev_get C (ci := 14) (k := 6) rfl wu_14 (by decide) wf_X14_249 (gO_F e38) dX14_readSpan_38 ?_
      obtain ⟨x41, e41, hs⟩ := aB hs
      refine ev_getN C (ci := 13) (k := 1) rfl wu_13 (by decide) wg_X14_307 (gO_F e41) dX14_readSpan_41 ?_
      refine ev_iload_n C rfl dX14_readSpan_44 ?_
      obtain ⟨x45, e45, hs⟩ := aB hs
      refine ev_iald C e45 dX14_readSpan_45 ?_
      refine ev_bipush C (v := (-20)) dX14_readSpan_46 (by decide) ?_
      refine ev_bipush C (v := 20) dX14_readSpan_48 (by decide) ?_
      obtain ⟨x50, h50, e50, hs⟩ := cI_at hs
      refine ev_callS C (T_X14_in _ _ _ _ _ _ e50) wc_X14_in wm_X14_313 wt_X14_in wz_X14 hy_X14_in ⟨(Nat.le_of_ble_eq_true rfl), (Nat.le_of_ble_eq_true rfl)⟩ ⟨(Nat.le_refl _), (Nat.le_refl _)⟩ (Nat.le_of_ble_eq_true rfl) rfl dX14_readSpan_50 ?_
      refine ev_if_ne C (tgt := 62) (by decide) dX14_readSpan_53 (fun q53 => ?_) (fun q53 => ?_)
      · replace hs := (if_neg q53).symm.trans hs
        refine ev_aload_n C (x := .ref o) rfl trivial dX14_readSpan_62 ?_
        obtain ⟨eo63, hs⟩ := kO_at hs
        obtain ⟨h63, e63, hs⟩ := cN_at hs
        refine ev_callV C (T_X14_next _ _ _ _ e63) (ci := 14) rfl eo63 wc_X14_next wm_X14_263 wi_X14_next ws_X14_next wz_X14 hy_X14_next ⟨(Nat.le_of_ble_eq_true rfl), (Nat.le_of_ble_eq_true rfl)⟩ ⟨(Nat.le_refl _), (Nat.le_refl _)⟩ (Nat.le_of_ble_eq_true rfl) rfl dX14_readSpan_63 ?_
        refine ev_aload_n C (x := .ref o) rfl trivial dX14_readSpan_66 ?_
        obtain ⟨x67, e67, hs⟩ := aB hs
        refine ev_get C (ci := 14) (k := 6) rfl wu_14 (by decide) wf_X14_249 (gO_F e67) dX14_readSpan_67 ?_
        obtain ⟨x70, e70, hs⟩ := aB hs
        refine ev_getN C (ci := 13) (k := 2) rfl wu_13 (by decide) wg_X14_317 (gO_F e70) dX14_readSpan_70 ?_
        refine ev_iload_n C rfl dX14_readSpan_73 ?_
        refine ev_aload_n C (x := .ref o) rfl trivial dX14_readSpan_74 ?_
        obtain ⟨eo75, hs⟩ := kO_at hs
        rcases xI_at hs with ⟨x75, h75, e75, hs⟩ | ⟨E75, i75, g75, e75, hs⟩
        · skip
          refine ev_callV C (T_X14_readInt _ _ _ _ e75) (ci := 14) rfl eo75 wc_X14_readInt wm_X14_310 wi_X14_readInt ws_X14_readInt wz_X14 hy_X14_readInt ⟨(Nat.le_of_ble_eq_true rfl), (Nat.le_of_ble_eq_true rfl)⟩ ⟨(Nat.le_refl _), (Nat.le_refl _)⟩ (Nat.le_of_ble_eq_true rfl) rfl dX14_readSpan_75 ?_
          obtain ⟨h78, e78, hs⟩ := aB hs
          refine ev_iast C e78 dX14_readSpan_78 ?_
          refine ev_aload_n C (x := .ref o) rfl trivial dX14_readSpan_79 ?_
          obtain ⟨x80, e80, hs⟩ := aB hs
          refine ev_get C (ci := 14) (k := 6) rfl wu_14 (by decide) wf_X14_249 (gO_F e80) dX14_readSpan_80 ?_
          obtain ⟨x83, e83, hs⟩ := aB hs
          refine ev_getN C (ci := 13) (k := 2) rfl wu_13 (by decide) wg_X14_317 (gO_F e83) dX14_readSpan_83 ?_
          refine ev_iload_n C rfl dX14_readSpan_86 ?_
          obtain ⟨x87, e87, hs⟩ := aB hs
          refine ev_iald C e87 dX14_readSpan_87 ?_
          refine ev_aload_n C (x := .ref o) rfl trivial dX14_readSpan_88 ?_
          obtain ⟨x89, e89, hs⟩ := aB hs
          refine ev_get C (ci := 14) (k := 6) rfl wu_14 (by decide) wf_X14_249 (gO_F e89) dX14_readSpan_89 ?_
          obtain ⟨x92, e92, hs⟩ := aB hs
          refine ev_getN C (ci := 13) (k := 1) rfl wu_13 (by decide) wg_X14_307 (gO_F e92) dX14_readSpan_92 ?_
          refine ev_iload_n C rfl dX14_readSpan_95 ?_
          obtain ⟨x96, e96, hs⟩ := aB hs
          refine ev_iald C e96 dX14_readSpan_96 ?_
          refine ev_bipush C (v := 20) dX14_readSpan_97 (by decide) ?_
          obtain ⟨x99, h99, e99, hs⟩ := cI_at hs
          refine ev_callS C (T_X14_in _ _ _ _ _ _ e99) wc_X14_in wm_X14_313 wt_X14_in wz_X14 hy_X14_in ⟨(Nat.le_of_ble_eq_true rfl), (Nat.le_of_ble_eq_true rfl)⟩ ⟨(Nat.le_refl _), (Nat.le_refl _)⟩ (Nat.le_of_ble_eq_true rfl) rfl dX14_readSpan_99 ?_
          refine ev_if_ne C (tgt := 112) (by decide) dX14_readSpan_102 (fun q102 => ?_) (fun q102 => ?_)
          · replace hs := (if_neg q102).symm.trans hs
            refine ev_aload_n C (x := .ref o) rfl trivial dX14_readSpan_112 ?_
            obtain ⟨eo113, hs⟩ := kO_at hs
            obtain ⟨h113, e113, hs⟩ := cN_at hs
            refine ev_callV C (T_X14_next _ _ _ _ e113) (ci := 14) rfl eo113 wc_X14_next wm_X14_263 wi_X14_next ws_X14_next wz_X14 hy_X14_next ⟨(Nat.le_of_ble_eq_true rfl), (Nat.le_of_ble_eq_true rfl)⟩ ⟨(Nat.le_refl _), (Nat.le_refl _)⟩ (Nat.le_of_ble_eq_true rfl) rfl dX14_readSpan_113 ?_
            cases hs
            exact ev_vret C rfl rfl (Nat.le_refl _) (Nat.le_refl _) rfl dX14_readSpan_116
          · replace hs := (if_pos q102).symm.trans hs
            refine ev_aload_n C (x := .ref o) rfl trivial dX14_readSpan_105 ?_
            refine ev_iconst C (v := 4) dX14_readSpan_106 (by decide) ?_
            refine ev_iload_n C rfl dX14_readSpan_107 ?_
            obtain ⟨eo108, hs⟩ := kO_at hs
            obtain ⟨x108, h108, e108, hs⟩ := cR_at hs
            refine ev_callV C (T_X14_stopAt _ _ _ _ _ _ e108) (ci := 14) rfl eo108 wc_X14_stopAt wm_X14_170 wi_X14_stopAt ws_X14_stopAt wz_X14 hy_X14_stopAt ⟨(Nat.le_of_ble_eq_true rfl), (Nat.le_of_ble_eq_true rfl)⟩ ⟨(Nat.le_refl _), (Nat.le_refl _)⟩ (Nat.le_of_ble_eq_true rfl) rfl dX14_readSpan_108 ?_
            obtain ⟨e111, hs⟩ := kO_at hs
            cases hs
            exact ev_athrow C (ci := 12) rfl e111 dX14_readSpan_111 (ex_out C (by decide) rfl rfl (Nat.le_refl _) (Nat.le_refl _))
        · cases hs
          exact ev_callVX C (T_X14_readInt _ _ _ _ e75) (ci := 14) rfl eo75 wc_X14_readInt wm_X14_310 wi_X14_readInt ws_X14_readInt wz_X14 hy_X14_readInt ⟨(Nat.le_of_ble_eq_true rfl), (Nat.le_of_ble_eq_true rfl)⟩ ⟨(Nat.le_refl _), (Nat.le_refl _)⟩ (Nat.le_of_ble_eq_true rfl) rfl dX14_readSpan_75 (ex_out C (by decide) rfl rfl (Nat.le_refl _) (Nat.le_refl _))
      · replace hs := (if_pos q53).symm.trans hs
        refine ev_aload_n C (x := .ref o) rfl trivial dX14_readSpan_56 ?_
        refine ev_iconst C (v := 4) dX14_readSpan_57 (by decide) ?_
        obtain ⟨eo58, hs⟩ := kO_at hs
        obtain ⟨x58, h58, e58, hs⟩ := cR_at hs
        refine ev_callV C (T_X14_stop _ _ _ _ _ e58) (ci := 14) rfl eo58 wc_X14_stop wm_X14_266 wi_X14_stop ws_X14_stop wz_X14 hy_X14_stop ⟨(Nat.le_of_ble_eq_true rfl), (Nat.le_of_ble_eq_true rfl)⟩ ⟨(Nat.le_refl _), (Nat.le_refl _)⟩ (Nat.le_of_ble_eq_true rfl) rfl dX14_readSpan_58 ?_
        obtain ⟨e61, hs⟩ := kO_at hs
        cases hs
        exact ev_athrow C (ci := 12) rfl e61 dX14_readSpan_61 (ex_out C (by decide) rfl rfl (Nat.le_refl _) (Nat.le_refl _))
    · replace hs := (if_pos q23).symm.trans hs
      refine ev_aload_n C (x := .ref o) rfl trivial dX14_readSpan_26 ?_
      refine ev_iconst C (v := 1) dX14_readSpan_27 (by decide) ?_
      obtain ⟨eo28, hs⟩ := kO_at hs
      obtain ⟨x28, h28, e28, hs⟩ := cR_at hs
      refine ev_callV C (T_X14_stop _ _ _ _ _ e28) (ci := 14) rfl eo28 wc_X14_stop wm_X14_266 wi_X14_stop ws_X14_stop wz_X14 hy_X14_stop ⟨(Nat.le_of_ble_eq_true rfl), (Nat.le_of_ble_eq_true rfl)⟩ ⟨(Nat.le_refl _), (Nat.le_refl _)⟩ (Nat.le_of_ble_eq_true rfl) rfl dX14_readSpan_28 ?_
      obtain ⟨e31, hs⟩ := kO_at hs
      cases hs
      exact ev_athrow C (ci := 12) rfl e31 dX14_readSpan_31 (ex_out C (by decide) rfl rfl (Nat.le_refl _) (Nat.le_refl _))
  · cases hs
    exact ev_callVX C (T_X14_readInt _ _ _ _ e9) (ci := 14) rfl eo9 wc_X14_readInt wm_X14_310 wi_X14_readInt ws_X14_readInt wz_X14 hy_X14_readInt ⟨(Nat.le_of_ble_eq_true rfl), (Nat.le_of_ble_eq_true rfl)⟩ ⟨(Nat.le_refl _), (Nat.le_refl _)⟩ (Nat.le_of_ble_eq_true rfl) rfl dX14_readSpan_9 (ex_out C (by decide) rfl rfl (Nat.le_refl _) (Nat.le_refl _))
end
-- X14_readLine
theorem dX14_readLine_0 : decode cX14_readLine 0 = .ok (.aload_n 0, 1) := by decide +kernel
theorem dX14_readLine_1 : decode cX14_readLine 1 = .ok (.getfield 196, 3) := by decide +kernel
theorem dX14_readLine_4 : decode cX14_readLine 4 = .ok (.iconst 2, 1) := by decide +kernel
theorem dX14_readLine_5 : decode cX14_readLine 5 = .ok (.if_icmp .eq 9, 3) := by decide +kernel
theorem dX14_readLine_8 : decode cX14_readLine 8 = .ok (.aload_n 0, 1) := by decide +kernel
theorem dX14_readLine_9 : decode cX14_readLine 9 = .ok (.iconst 1, 1) := by decide +kernel
theorem dX14_readLine_10 : decode cX14_readLine 10 = .ok (.invokevirtual 266, 3) := by decide +kernel
theorem dX14_readLine_13 : decode cX14_readLine 13 = .ok (.athrow, 1) := by decide +kernel
theorem dX14_readLine_14 : decode cX14_readLine 14 = .ok (.aload_n 0, 1) := by decide +kernel
theorem dX14_readLine_15 : decode cX14_readLine 15 = .ok (.invokevirtual 237, 3) := by decide +kernel
theorem dX14_readLine_18 : decode cX14_readLine 18 = .ok (.istore_n 1, 1) := by decide +kernel
theorem dX14_readLine_19 : decode cX14_readLine 19 = .ok (.iload_n 1, 1) := by decide +kernel
theorem dX14_readLine_20 : decode cX14_readLine 20 = .ok (.iconst (-1), 1) := by decide +kernel
theorem dX14_readLine_21 : decode cX14_readLine 21 = .ok (.if_icmp .ne 8, 3) := by decide +kernel
theorem dX14_readLine_24 : decode cX14_readLine 24 = .ok (.aload_n 0, 1) := by decide +kernel
theorem dX14_readLine_25 : decode cX14_readLine 25 = .ok (.invokevirtual 275, 3) := by decide +kernel
theorem dX14_readLine_28 : decode cX14_readLine 28 = .ok (.return_, 1) := by decide +kernel
theorem dX14_readLine_29 : decode cX14_readLine 29 = .ok (.aload_n 0, 1) := by decide +kernel
theorem dX14_readLine_30 : decode cX14_readLine 30 = .ok (.invokevirtual 263, 3) := by decide +kernel
theorem dX14_readLine_33 : decode cX14_readLine 33 = .ok (.aload_n 0, 1) := by decide +kernel
theorem dX14_readLine_34 : decode cX14_readLine 34 = .ok (.getfield 196, 3) := by decide +kernel
theorem dX14_readLine_37 : decode cX14_readLine 37 = .ok (.iconst 2, 1) := by decide +kernel
theorem dX14_readLine_38 : decode cX14_readLine 38 = .ok (.if_icmp .eq 9, 3) := by decide +kernel
theorem dX14_readLine_41 : decode cX14_readLine 41 = .ok (.aload_n 0, 1) := by decide +kernel
theorem dX14_readLine_42 : decode cX14_readLine 42 = .ok (.iconst 1, 1) := by decide +kernel
theorem dX14_readLine_43 : decode cX14_readLine 43 = .ok (.invokevirtual 266, 3) := by decide +kernel
theorem dX14_readLine_46 : decode cX14_readLine 46 = .ok (.athrow, 1) := by decide +kernel
theorem dX14_readLine_47 : decode cX14_readLine 47 = .ok (.aload_n 0, 1) := by decide +kernel
theorem dX14_readLine_48 : decode cX14_readLine 48 = .ok (.invokevirtual 278, 3) := by decide +kernel
theorem dX14_readLine_51 : decode cX14_readLine 51 = .ok (.ifCond .ne 11, 3) := by decide +kernel
theorem dX14_readLine_54 : decode cX14_readLine 54 = .ok (.aload_n 0, 1) := by decide +kernel
theorem dX14_readLine_55 : decode cX14_readLine 55 = .ok (.invokevirtual 282, 3) := by decide +kernel
theorem dX14_readLine_58 : decode cX14_readLine 58 = .ok (.iconst (-1), 1) := by decide +kernel
theorem dX14_readLine_59 : decode cX14_readLine 59 = .ok (.if_icmp .eq 9, 3) := by decide +kernel
theorem dX14_readLine_62 : decode cX14_readLine 62 = .ok (.aload_n 0, 1) := by decide +kernel
theorem dX14_readLine_63 : decode cX14_readLine 63 = .ok (.iconst 3, 1) := by decide +kernel
theorem dX14_readLine_64 : decode cX14_readLine 64 = .ok (.invokevirtual 266, 3) := by decide +kernel
theorem dX14_readLine_67 : decode cX14_readLine 67 = .ok (.athrow, 1) := by decide +kernel
theorem dX14_readLine_68 : decode cX14_readLine 68 = .ok (.aload_n 0, 1) := by decide +kernel
theorem dX14_readLine_69 : decode cX14_readLine 69 = .ok (.getfield 249, 3) := by decide +kernel
theorem dX14_readLine_72 : decode cX14_readLine 72 = .ok (.getfield 252, 3) := by decide +kernel
theorem dX14_readLine_75 : decode cX14_readLine 75 = .ok (.iload_n 1, 1) := by decide +kernel
theorem dX14_readLine_76 : decode cX14_readLine 76 = .ok (.iaload, 1) := by decide +kernel
theorem dX14_readLine_77 : decode cX14_readLine 77 = .ok (.iload_n 1, 1) := by decide +kernel
theorem dX14_readLine_78 : decode cX14_readLine 78 = .ok (.ifCond .ne 7, 3) := by decide +kernel
theorem dX14_readLine_81 : decode cX14_readLine 81 = .ok (.iconst 3, 1) := by decide +kernel
theorem dX14_readLine_82 : decode cX14_readLine 82 = .ok (.goto 4, 3) := by decide +kernel
theorem dX14_readLine_85 : decode cX14_readLine 85 = .ok (.iconst 2, 1) := by decide +kernel
theorem dX14_readLine_86 : decode cX14_readLine 86 = .ok (.if_icmp .ne 9, 3) := by decide +kernel
theorem dX14_readLine_89 : decode cX14_readLine 89 = .ok (.aload_n 0, 1) := by decide +kernel
theorem dX14_readLine_90 : decode cX14_readLine 90 = .ok (.iconst 5, 1) := by decide +kernel
theorem dX14_readLine_91 : decode cX14_readLine 91 = .ok (.invokevirtual 266, 3) := by decide +kernel
theorem dX14_readLine_94 : decode cX14_readLine 94 = .ok (.athrow, 1) := by decide +kernel
theorem dX14_readLine_95 : decode cX14_readLine 95 = .ok (.iload_n 1, 1) := by decide +kernel
theorem dX14_readLine_96 : decode cX14_readLine 96 = .ok (.invokestatic 246, 3) := by decide +kernel
theorem dX14_readLine_99 : decode cX14_readLine 99 = .ok (.aload_n 0, 1) := by decide +kernel
theorem dX14_readLine_100 : decode cX14_readLine 100 = .ok (.getfield 249, 3) := by decide +kernel
theorem dX14_readLine_103 : decode cX14_readLine 103 = .ok (.getfield 252, 3) := by decide +kernel
theorem dX14_readLine_106 : decode cX14_readLine 106 = .ok (.iload_n 1, 1) := by decide +kernel
theorem dX14_readLine_107 : decode cX14_readLine 107 = .ok (.iaload, 1) := by decide +kernel
theorem dX14_readLine_108 : decode cX14_readLine 108 = .ok (.iadd, 1) := by decide +kernel
theorem dX14_readLine_109 : decode cX14_readLine 109 = .ok (.istore_n 2, 1) := by decide +kernel
theorem dX14_readLine_110 : decode cX14_readLine 110 = .ok (.aload_n 0, 1) := by decide +kernel
theorem dX14_readLine_111 : decode cX14_readLine 111 = .ok (.getfield 249, 3) := by decide +kernel
theorem dX14_readLine_114 : decode cX14_readLine 114 = .ok (.getfield 255, 3) := by decide +kernel
theorem dX14_readLine_117 : decode cX14_readLine 117 = .ok (.iload_n 2, 1) := by decide +kernel
theorem dX14_readLine_118 : decode cX14_readLine 118 = .ok (.aload_n 0, 1) := by decide +kernel
theorem dX14_readLine_119 : decode cX14_readLine 119 = .ok (.getfield 206, 3) := by decide +kernel
theorem dX14_readLine_122 : decode cX14_readLine 122 = .ok (.lastore, 1) := by decide +kernel
theorem dX14_readLine_123 : decode cX14_readLine 123 = .ok (.aload_n 0, 1) := by decide +kernel
theorem dX14_readLine_124 : decode cX14_readLine 124 = .ok (.invokevirtual 263, 3) := by decide +kernel
theorem dX14_readLine_127 : decode cX14_readLine 127 = .ok (.iload_n 1, 1) := by decide +kernel
theorem dX14_readLine_128 : decode cX14_readLine 128 = .ok (.iconst 4, 1) := by decide +kernel
theorem dX14_readLine_129 : decode cX14_readLine 129 = .ok (.if_icmp .ne 53, 3) := by decide +kernel
theorem dX14_readLine_132 : decode cX14_readLine 132 = .ok (.aload_n 0, 1) := by decide +kernel
theorem dX14_readLine_133 : decode cX14_readLine 133 = .ok (.bipush 61, 2) := by decide +kernel
theorem dX14_readLine_135 : decode cX14_readLine 135 = .ok (.invokevirtual 285, 3) := by decide +kernel
theorem dX14_readLine_138 : decode cX14_readLine 138 = .ok (.aload_n 0, 1) := by decide +kernel
theorem dX14_readLine_139 : decode cX14_readLine 139 = .ok (.iconst 3, 1) := by decide +kernel
theorem dX14_readLine_140 : decode cX14_readLine 140 = .ok (.putfield 289, 3) := by decide +kernel
theorem dX14_readLine_143 : decode cX14_readLine 143 = .ok (.aload_n 0, 1) := by decide +kernel
theorem dX14_readLine_144 : decode cX14_readLine 144 = .ok (.getfield 249, 3) := by decide +kernel
theorem dX14_readLine_147 : decode cX14_readLine 147 = .ok (.getfield 292, 3) := by decide +kernel
theorem dX14_readLine_150 : decode cX14_readLine 150 = .ok (.iload_n 2, 1) := by decide +kernel
theorem dX14_readLine_151 : decode cX14_readLine 151 = .ok (.aload_n 0, 1) := by decide +kernel
theorem dX14_readLine_152 : decode cX14_readLine 152 = .ok (.getfield 249, 3) := by decide +kernel
theorem dX14_readLine_155 : decode cX14_readLine 155 = .ok (.getfield 295, 3) := by decide +kernel
theorem dX14_readLine_158 : decode cX14_readLine 158 = .ok (.iastore, 1) := by decide +kernel
theorem dX14_readLine_159 : decode cX14_readLine 159 = .ok (.aload_n 0, 1) := by decide +kernel
theorem dX14_readLine_160 : decode cX14_readLine 160 = .ok (.invokevirtual 298, 3) := by decide +kernel
theorem dX14_readLine_163 : decode cX14_readLine 163 = .ok (.aload_n 0, 1) := by decide +kernel
theorem dX14_readLine_164 : decode cX14_readLine 164 = .ok (.getfield 249, 3) := by decide +kernel
theorem dX14_readLine_167 : decode cX14_readLine 167 = .ok (.getfield 301, 3) := by decide +kernel
theorem dX14_readLine_170 : decode cX14_readLine 170 = .ok (.iload_n 2, 1) := by decide +kernel
theorem dX14_readLine_171 : decode cX14_readLine 171 = .ok (.aload_n 0, 1) := by decide +kernel
theorem dX14_readLine_172 : decode cX14_readLine 172 = .ok (.getfield 249, 3) := by decide +kernel
theorem dX14_readLine_175 : decode cX14_readLine 175 = .ok (.getfield 295, 3) := by decide +kernel
theorem dX14_readLine_178 : decode cX14_readLine 178 = .ok (.iastore, 1) := by decide +kernel
theorem dX14_readLine_179 : decode cX14_readLine 179 = .ok (.goto 8, 3) := by decide +kernel
theorem dX14_readLine_182 : decode cX14_readLine 182 = .ok (.aload_n 0, 1) := by decide +kernel
theorem dX14_readLine_183 : decode cX14_readLine 183 = .ok (.iload_n 2, 1) := by decide +kernel
theorem dX14_readLine_184 : decode cX14_readLine 184 = .ok (.invokevirtual 304, 3) := by decide +kernel
theorem dX14_readLine_187 : decode cX14_readLine 187 = .ok (.aload_n 0, 1) := by decide +kernel
theorem dX14_readLine_188 : decode cX14_readLine 188 = .ok (.getfield 249, 3) := by decide +kernel
theorem dX14_readLine_191 : decode cX14_readLine 191 = .ok (.getfield 252, 3) := by decide +kernel
theorem dX14_readLine_194 : decode cX14_readLine 194 = .ok (.iload_n 1, 1) := by decide +kernel
theorem dX14_readLine_195 : decode cX14_readLine 195 = .ok (.dup2, 1) := by decide +kernel
theorem dX14_readLine_196 : decode cX14_readLine 196 = .ok (.iaload, 1) := by decide +kernel
theorem dX14_readLine_197 : decode cX14_readLine 197 = .ok (.iconst 1, 1) := by decide +kernel
theorem dX14_readLine_198 : decode cX14_readLine 198 = .ok (.iadd, 1) := by decide +kernel
theorem dX14_readLine_199 : decode cX14_readLine 199 = .ok (.iastore, 1) := by decide +kernel
theorem dX14_readLine_200 : decode cX14_readLine 200 = .ok (.return_, 1) := by decide +kernel
def s_X14_readLine_62  (l0 : Nat) (h : aH) : aO :=
  kO h l0 14 (cR (s_X14_stop l0 3 h) fun x64 h64 => kO h64 x64 12 (some (.inr (RX12, x64), h64)))
def s_X14_readLine_187  (l0 : Nat) (l1 : Int32) (h : aH) : aO :=
  (gO h (.ref l0) 14 6).bind fun x188 => (gO h (.ref x188) 13 0).bind fun x191 => (ldI .int h (.ref x191) l1).bind fun x196 => (stI h (.ref x191) l1 (x196 + 1)).bind fun h199 => some (.inl none, h199)
def s_X14_readLine_86  (l0 : Nat) (l1 : Int32) (s0 : Int32) (s1 : Int32) (h : aH) : aO :=
  if s1 = s0 then (kO h l0 14 (cR (s_X14_stop l0 5 h) fun x91 h91 => kO h91 x91 12 (some (.inr (RX12, x91), h91)))) else (cI (s_X14_slotOf l1 h) fun x96 h96 => (gO h96 (.ref l0) 14 6).bind fun x100 => (gO h96 (.ref x100) 13 0).bind fun x103 => (ldI .int h96 (.ref x103) l1).bind fun x107 => (gO h96 (.ref l0) 14 6).bind fun x111 => (gO h96 (.ref x111) 13 5).bind fun x114 => (gJ h96 (.ref l0) 14 18).bind fun x119 => (stJ h96 (.ref x114) (x96 + x107) x119).bind fun h122 => kO h122 l0 14 (cN (s_X14_next l0 h122) fun h124 => if l1 = 4 then (kO h124 l0 14 (xN (s_X14_need l0 61 h124) (fun h135 => (pF h135 (.ref l0) 14 17 (.int 3)).bind fun h140 => (gO h140 (.ref l0) 14 6).bind fun x144 => (gO h140 (.ref x144) 13 3).bind fun x147 => (gO h140 (.ref l0) 14 6).bind fun x152 => (gI h140 (.ref x152) 13 7).bind fun x155 => (stI h140 (.ref x147) (x96 + x107) x155).bind fun h158 => kO h158 l0 14 (xN (s_X14_readSum l0 h158) (fun h160 => (gO h160 (.ref l0) 14 6).bind fun x164 => (gO h160 (.ref x164) 13 4).bind fun x167 => (gO h160 (.ref l0) 14 6).bind fun x172 => (gI h160 (.ref x172) 13 7).bind fun x175 => (stI h160 (.ref x167) (x96 + x107) x175).bind fun h178 => s_X14_readLine_187 l0 l1 h178) (fun E i h => some (.inr (E, i), h)))) (fun E i h => some (.inr (E, i), h)))) else (kO h124 l0 14 (xN (s_X14_readSpan l0 (x96 + x107) h124) (fun h184 => s_X14_readLine_187 l0 l1 h184) (fun E i h => some (.inr (E, i), h))))))
def s_X14_readLine (o : Nat) (h : aH) : aO :=
  (gI h (.ref o) 14 12).bind fun x1 => if x1 = 2 then (kO h o 14 (cI (s_X14_kindHere o h) fun x15 h15 => if x15 = (-1) then (kO h15 o 14 (xN (s_X14_readStep o h15) (fun h25 => some (.inl none, h25)) (fun E i h => some (.inr (E, i), h)))) else (kO h15 o 14 (cN (s_X14_next o h15) fun h30 => (gI h30 (.ref o) 14 12).bind fun x34 => if x34 = 2 then (kO h30 o 14 (cI (s_X14_isKept o h30) fun x48 h48 => if x48 = 0 then (kO h48 o 14 (cI (s_X14_slotHere o h48) fun x55 h55 => if x55 = (-1) then ((gO h55 (.ref o) 14 6).bind fun x69 => (gO h55 (.ref x69) 13 0).bind fun x72 => (ldI .int h55 (.ref x72) x15).bind fun x76 => if x15 = 0 then (s_X14_readLine_86 o x15 3 x76 h55) else (s_X14_readLine_86 o x15 2 x76 h55)) else (s_X14_readLine_62 o h55))) else (s_X14_readLine_62 o h48))) else (kO h30 o 14 (cR (s_X14_stop o 1 h30) fun x43 h43 => kO h43 x43 12 (some (.inr (RX12, x43), h43)))))))) else (kO h o 14 (cR (s_X14_stop o 1 h) fun x10 h10 => kO h10 x10 12 (some (.inr (RX12, x10), h10))))
section
variable {p : Program} {l : Launch} {e : Env} {s : State} {m : MethodId} {args : Array Value} {below : List Frame} {meth : Method} {c : Code} {D : va_G} {B0 : Nat} {X : Nat → Nat} {ws0 : va_W} {r : aR} {h' : aH} {mc ms : Nat}
theorem t_X14_readLine_62 (C : Cx p l s m args meth c B0 X RX14 "readLine" cX14_readLine 3 none [])   {l0 : Nat} {h : aH} (hs : s_X14_readLine_62  l0 h = some (r, h')) : Ev p l e { frames := 15, cells := mc, slots := ms, locals := 324 } s m args below meth c D B0 X ws0 r h' mc ms 3 mc ms 62 [some (.ref l0), none, none] [] h := by
  unfold s_X14_readLine_62 at hs
  refine ev_aload_n C (x := .ref l0) rfl trivial dX14_readLine_62 ?_
  refine ev_iconst C (v := 3) dX14_readLine_63 (by decide) ?_
  obtain ⟨eo64, hs⟩ := kO_at hs
  obtain ⟨x64, h64, e64, hs⟩ := cR_at hs
  refine ev_callV C (T_X14_stop _ _ _ _ _ e64) (ci := 14) rfl eo64 wc_X14_stop wm_X14_266 wi_X14_stop ws_X14_stop wz_X14 hy_X14_stop ⟨(Nat.le_of_ble_eq_true rfl), (Nat.le_of_ble_eq_true rfl)⟩ ⟨(Nat.le_refl _), (Nat.le_refl _)⟩ (Nat.le_of_ble_eq_true rfl) rfl dX14_readLine_64 ?_
  obtain ⟨e67, hs⟩ := kO_at hs
  cases hs
  exact ev_athrow C (ci := 12) rfl e67 dX14_readLine_67 (ex_out C (by decide) rfl rfl (Nat.le_refl _) (Nat.le_refl _))
theorem t_X14_readLine_187 (C : Cx p l s m args meth c B0 X RX14 "readLine" cX14_readLine 3 none [])   {l0 : Nat} {l1 : Int32} {h : aH} (hs : s_X14_readLine_187  l0 l1 h = some (r, h')) : Ev p l e { frames := 15, cells := mc, slots := ms, locals := 324 } s m args below meth c D B0 X ws0 r h' mc ms 3 mc ms 187 [some (.ref l0), some (.int l1), none] [] h := by
  unfold s_X14_readLine_187 at hs
  refine ev_aload_n C (x := .ref l0) rfl trivial dX14_readLine_187 ?_
  obtain ⟨x188, e188, hs⟩ := aB hs
  refine ev_get C (ci := 14) (k := 6) rfl wu_14 (by decide) wf_X14_249 (gO_F e188) dX14_readLine_188 ?_
  obtain ⟨x191, e191, hs⟩ := aB hs
  refine ev_getN C (ci := 13) (k := 0) rfl wu_13 (by decide) wg_X14_252 (gO_F e191) dX14_readLine_191 ?_
  refine ev_iload_n C rfl dX14_readLine_194 ?_
  refine ev_dup2 C rfl rfl dX14_readLine_195 ?_
  obtain ⟨x196, e196, hs⟩ := aB hs
  refine ev_iald C e196 dX14_readLine_196 ?_
  refine ev_iconst C (v := 1) dX14_readLine_197 (by decide) ?_
  refine ev_iadd C dX14_readLine_198 ?_
  obtain ⟨h199, e199, hs⟩ := aB hs
  refine ev_iast C e199 dX14_readLine_199 ?_
  cases hs
  exact ev_vret C rfl rfl (Nat.le_refl _) (Nat.le_refl _) rfl dX14_readLine_200
theorem t_X14_readLine_86 (C : Cx p l s m args meth c B0 X RX14 "readLine" cX14_readLine 3 none [])   {l0 : Nat} {l1 : Int32} {s0 : Int32} {s1 : Int32} {h : aH} (hs : s_X14_readLine_86  l0 l1 s0 s1 h = some (r, h')) : Ev p l e { frames := 15, cells := mc, slots := ms, locals := 324 } s m args below meth c D B0 X ws0 r h' mc ms 3 mc ms 86 [some (.ref l0), some (.int l1), none] [.int s0, .int s1] h := by
  unfold s_X14_readLine_86 at hs
  refine ev_icmp_ne C (tgt := 95) (by decide) dX14_readLine_86 (fun q86 => ?_) (fun q86 => ?_)
  · replace hs := (if_neg q86).symm.trans hs
    refine ev_iload_n C rfl dX14_readLine_95 ?_
    obtain ⟨x96, h96, e96, hs⟩ := cI_at hs
    refine ev_callS C (T_X14_slotOf _ _ _ _ e96) wc_X14_slotOf wm_X14_246 wt_X14_slotOf wz_X14 hy_X14_slotOf ⟨(Nat.le_of_ble_eq_true rfl), (Nat.le_of_ble_eq_true rfl)⟩ ⟨(Nat.le_refl _), (Nat.le_refl _)⟩ (Nat.le_of_ble_eq_true rfl) rfl dX14_readLine_96 ?_
    refine ev_aload_n C (x := .ref l0) rfl trivial dX14_readLine_99 ?_
    obtain ⟨x100, e100, hs⟩ := aB hs
    refine ev_get C (ci := 14) (k := 6) rfl wu_14 (by decide) wf_X14_249 (gO_F e100) dX14_readLine_100 ?_
    obtain ⟨x103, e103, hs⟩ := aB hs
    refine ev_getN C (ci := 13) (k := 0) rfl wu_13 (by decide) wg_X14_252 (gO_F e103) dX14_readLine_103 ?_
    refine ev_iload_n C rfl dX14_readLine_106 ?_
    obtain ⟨x107, e107, hs⟩ := aB hs
    refine ev_iald C e107 dX14_readLine_107 ?_
    refine ev_iadd C dX14_readLine_108 ?_
    refine ev_istore_n C (by decide) dX14_readLine_109 ?_
    refine ev_aload_n C (x := .ref l0) rfl trivial dX14_readLine_110 ?_
    obtain ⟨x111, e111, hs⟩ := aB hs
    refine ev_get C (ci := 14) (k := 6) rfl wu_14 (by decide) wf_X14_249 (gO_F e111) dX14_readLine_111 ?_
    obtain ⟨x114, e114, hs⟩ := aB hs
    refine ev_getN C (ci := 13) (k := 5) rfl wu_13 (by decide) wg_X14_255 (gO_F e114) dX14_readLine_114 ?_
    refine ev_iload_n C rfl dX14_readLine_117 ?_
    refine ev_aload_n C (x := .ref l0) rfl trivial dX14_readLine_118 ?_
    obtain ⟨x119, e119, hs⟩ := aB hs
    refine ev_get C (ci := 14) (k := 18) rfl wu_14 (by decide) wf_X14_206 (gJ_F e119) dX14_readLine_119 ?_
    obtain ⟨h122, e122, hs⟩ := aB hs
    refine ev_last C e122 dX14_readLine_122 ?_
    refine ev_aload_n C (x := .ref l0) rfl trivial dX14_readLine_123 ?_
    obtain ⟨eo124, hs⟩ := kO_at hs
    obtain ⟨h124, e124, hs⟩ := cN_at hs
    refine ev_callV C (T_X14_next _ _ _ _ e124) (ci := 14) rfl eo124 wc_X14_next wm_X14_263 wi_X14_next ws_X14_next wz_X14 hy_X14_next ⟨(Nat.le_of_ble_eq_true rfl), (Nat.le_of_ble_eq_true rfl)⟩ ⟨(Nat.le_refl _), (Nat.le_refl _)⟩ (Nat.le_of_ble_eq_true rfl) rfl dX14_readLine_124 ?_
    refine ev_iload_n C rfl dX14_readLine_127 ?_
    refine ev_iconst C (v := 4) dX14_readLine_128 (by decide) ?_
    refine ev_icmp_ne C (tgt := 182) (by decide) dX14_readLine_129 (fun q129 => ?_) (fun q129 => ?_)
    · replace hs := (if_neg q129).symm.trans hs
      refine ev_aload_n C (x := .ref l0) rfl trivial dX14_readLine_182 ?_
      refine ev_iload_n C rfl dX14_readLine_183 ?_
      obtain ⟨eo184, hs⟩ := kO_at hs
      rcases xN_at hs with ⟨h184, e184, hs⟩ | ⟨E184, i184, g184, e184, hs⟩
      · skip
        refine ev_callV C (T_X14_readSpan _ _ _ _ _ e184) (ci := 14) rfl eo184 wc_X14_readSpan wm_X14_304 wi_X14_readSpan ws_X14_readSpan wz_X14 hy_X14_readSpan ⟨(Nat.le_of_ble_eq_true rfl), (Nat.le_of_ble_eq_true rfl)⟩ ⟨(Nat.le_refl _), (Nat.le_refl _)⟩ (Nat.le_of_ble_eq_true rfl) rfl dX14_readLine_184 ?_
        exact Ev.keep [true, true, false] (t_X14_readLine_187 C  hs)
      · cases hs
        exact ev_callVX C (T_X14_readSpan _ _ _ _ _ e184) (ci := 14) rfl eo184 wc_X14_readSpan wm_X14_304 wi_X14_readSpan ws_X14_readSpan wz_X14 hy_X14_readSpan ⟨(Nat.le_of_ble_eq_true rfl), (Nat.le_of_ble_eq_true rfl)⟩ ⟨(Nat.le_refl _), (Nat.le_refl _)⟩ (Nat.le_of_ble_eq_true rfl) rfl dX14_readLine_184 (ex_out C (by decide) rfl rfl (Nat.le_refl _) (Nat.le_refl _))
    · replace hs := (if_pos q129).symm.trans hs
      refine ev_aload_n C (x := .ref l0) rfl trivial dX14_readLine_132 ?_
      refine ev_bipush C (v := 61) dX14_readLine_133 (by decide) ?_
      obtain ⟨eo135, hs⟩ := kO_at hs
      rcases xN_at hs with ⟨h135, e135, hs⟩ | ⟨E135, i135, g135, e135, hs⟩
      · skip
        refine ev_callV C (T_X14_need _ _ _ _ _ e135) (ci := 14) rfl eo135 wc_X14_need wm_X14_285 wi_X14_need ws_X14_need wz_X14 hy_X14_need ⟨(Nat.le_of_ble_eq_true rfl), (Nat.le_of_ble_eq_true rfl)⟩ ⟨(Nat.le_refl _), (Nat.le_refl _)⟩ (Nat.le_of_ble_eq_true rfl) rfl dX14_readLine_135 ?_
        refine ev_aload_n C (x := .ref l0) rfl trivial dX14_readLine_138 ?_
        refine ev_iconst C (v := 3) dX14_readLine_139 (by decide) ?_
        obtain ⟨h140, e140, hs⟩ := aB hs
        refine ev_put C (ci := 14) (k := 17) rfl wu_14 (by decide) tyX14 tyX14_ok nmX14 wf_X14_289 rfl trivial e140 dX14_readLine_140 ?_
        refine ev_aload_n C (x := .ref l0) rfl trivial dX14_readLine_143 ?_
        obtain ⟨x144, e144, hs⟩ := aB hs
        refine ev_get C (ci := 14) (k := 6) rfl wu_14 (by decide) wf_X14_249 (gO_F e144) dX14_readLine_144 ?_
        obtain ⟨x147, e147, hs⟩ := aB hs
        refine ev_getN C (ci := 13) (k := 3) rfl wu_13 (by decide) wg_X14_292 (gO_F e147) dX14_readLine_147 ?_
        refine ev_iload_n C rfl dX14_readLine_150 ?_
        refine ev_aload_n C (x := .ref l0) rfl trivial dX14_readLine_151 ?_
        obtain ⟨x152, e152, hs⟩ := aB hs
        refine ev_get C (ci := 14) (k := 6) rfl wu_14 (by decide) wf_X14_249 (gO_F e152) dX14_readLine_152 ?_
        obtain ⟨x155, e155, hs⟩ := aB hs
        refine ev_getN C (ci := 13) (k := 7) rfl wu_13 (by decide) wg_X14_295 (gI_F e155) dX14_readLine_155 ?_
        obtain ⟨h158, e158, hs⟩ := aB hs
        refine ev_iast C e158 dX14_readLine_158 ?_
        refine ev_aload_n C (x := .ref l0) rfl trivial dX14_readLine_159 ?_
        obtain ⟨eo160, hs⟩ := kO_at hs
        rcases xN_at hs with ⟨h160, e160, hs⟩ | ⟨E160, i160, g160, e160, hs⟩
        · skip
          refine ev_callV C (T_X14_readSum _ _ _ _ e160) (ci := 14) rfl eo160 wc_X14_readSum wm_X14_298 wi_X14_readSum ws_X14_readSum wz_X14 hy_X14_readSum ⟨(Nat.le_of_ble_eq_true rfl), (Nat.le_of_ble_eq_true rfl)⟩ ⟨(Nat.le_refl _), (Nat.le_refl _)⟩ (Nat.le_of_ble_eq_true rfl) rfl dX14_readLine_160 ?_
          refine ev_aload_n C (x := .ref l0) rfl trivial dX14_readLine_163 ?_
          obtain ⟨x164, e164, hs⟩ := aB hs
          refine ev_get C (ci := 14) (k := 6) rfl wu_14 (by decide) wf_X14_249 (gO_F e164) dX14_readLine_164 ?_
          obtain ⟨x167, e167, hs⟩ := aB hs
          refine ev_getN C (ci := 13) (k := 4) rfl wu_13 (by decide) wg_X14_301 (gO_F e167) dX14_readLine_167 ?_
          refine ev_iload_n C rfl dX14_readLine_170 ?_
          refine ev_aload_n C (x := .ref l0) rfl trivial dX14_readLine_171 ?_
          obtain ⟨x172, e172, hs⟩ := aB hs
          refine ev_get C (ci := 14) (k := 6) rfl wu_14 (by decide) wf_X14_249 (gO_F e172) dX14_readLine_172 ?_
          obtain ⟨x175, e175, hs⟩ := aB hs
          refine ev_getN C (ci := 13) (k := 7) rfl wu_13 (by decide) wg_X14_295 (gI_F e175) dX14_readLine_175 ?_
          obtain ⟨h178, e178, hs⟩ := aB hs
          refine ev_iast C e178 dX14_readLine_178 ?_
          refine ev_goto C (tgt := 187) (by decide) dX14_readLine_179 ?_
          exact Ev.keep [true, true, false] (t_X14_readLine_187 C  hs)
        · cases hs
          exact ev_callVX C (T_X14_readSum _ _ _ _ e160) (ci := 14) rfl eo160 wc_X14_readSum wm_X14_298 wi_X14_readSum ws_X14_readSum wz_X14 hy_X14_readSum ⟨(Nat.le_of_ble_eq_true rfl), (Nat.le_of_ble_eq_true rfl)⟩ ⟨(Nat.le_refl _), (Nat.le_refl _)⟩ (Nat.le_of_ble_eq_true rfl) rfl dX14_readLine_160 (ex_out C (by decide) rfl rfl (Nat.le_refl _) (Nat.le_refl _))
      · cases hs
        exact ev_callVX C (T_X14_need _ _ _ _ _ e135) (ci := 14) rfl eo135 wc_X14_need wm_X14_285 wi_X14_need ws_X14_need wz_X14 hy_X14_need ⟨(Nat.le_of_ble_eq_true rfl), (Nat.le_of_ble_eq_true rfl)⟩ ⟨(Nat.le_refl _), (Nat.le_refl _)⟩ (Nat.le_of_ble_eq_true rfl) rfl dX14_readLine_135 (ex_out C (by decide) rfl rfl (Nat.le_refl _) (Nat.le_refl _))
  · replace hs := (if_pos q86).symm.trans hs
    refine ev_aload_n C (x := .ref l0) rfl trivial dX14_readLine_89 ?_
    refine ev_iconst C (v := 5) dX14_readLine_90 (by decide) ?_
    obtain ⟨eo91, hs⟩ := kO_at hs
    obtain ⟨x91, h91, e91, hs⟩ := cR_at hs
    refine ev_callV C (T_X14_stop _ _ _ _ _ e91) (ci := 14) rfl eo91 wc_X14_stop wm_X14_266 wi_X14_stop ws_X14_stop wz_X14 hy_X14_stop ⟨(Nat.le_of_ble_eq_true rfl), (Nat.le_of_ble_eq_true rfl)⟩ ⟨(Nat.le_refl _), (Nat.le_refl _)⟩ (Nat.le_of_ble_eq_true rfl) rfl dX14_readLine_91 ?_
    obtain ⟨e94, hs⟩ := kO_at hs
    cases hs
    exact ev_athrow C (ci := 12) rfl e94 dX14_readLine_94 (ex_out C (by decide) rfl rfl (Nat.le_refl _) (Nat.le_refl _))
theorem hy_X14_readLine : yX14_readLine.cls ≠ "java/lang/invoke/MethodHandle" ∧ yX14_readLine.cls ≠ "java/lang/invoke/VarHandle" ∧ (parseMethodDescriptor yX14_readLine.desc).map (fun d => d.parameters.length) = some 0 := by decide +kernel
theorem T_X14_readLine (o : Nat) (h : aH) (r : aR) (h' : aH) (hs : s_X14_readLine o h = some (r, h')) : Mt yX14_readLine (Cond.code yX14_readLine cX14_readLine 3 none :: aTB) 15 324 0 0 [.ref o] h r h' := by
  unfold s_X14_readLine at hs
  refine Mt_of (k := 2) (by decide) rfl (fun p l e s m args below meth c D B0 X ws0 C => ?_)
  show Ev p l e { frames := 15, cells := 0, slots := 0, locals := 324 } s m args below meth c D B0 X ws0 r h' 0 0 3 0 0 0 [some (.ref o), none, none] [] h
  refine ev_aload_n C (x := .ref o) rfl trivial dX14_readLine_0 ?_
  obtain ⟨x1, e1, hs⟩ := aB hs
  refine ev_get C (ci := 14) (k := 12) rfl wu_14 (by decide) wf_X14_196 (gI_F e1) dX14_readLine_1 ?_
  refine ev_iconst C (v := 2) dX14_readLine_4 (by decide) ?_
  refine ev_icmp_eq C (tgt := 14) (by decide) dX14_readLine_5 (fun q5 => ?_) (fun q5 => ?_)
  · replace hs := (if_pos q5).symm.trans hs
    refine ev_aload_n C (x := .ref o) rfl trivial dX14_readLine_14 ?_
    obtain ⟨eo15, hs⟩ := kO_at hs
    obtain ⟨x15, h15, e15, hs⟩ := cI_at hs
    refine ev_callV C (T_X14_kindHere _ _ _ _ e15) (ci := 14) rfl eo15 wc_X14_kindHere wm_X14_237 wi_X14_kindHere ws_X14_kindHere wz_X14 hy_X14_kindHere ⟨(Nat.le_of_ble_eq_true rfl), (Nat.le_of_ble_eq_true rfl)⟩ ⟨(Nat.le_refl _), (Nat.le_refl _)⟩ (Nat.le_of_ble_eq_true rfl) rfl dX14_readLine_15 ?_
    refine ev_istore_n C (by decide) dX14_readLine_18 ?_
    refine ev_iload_n C rfl dX14_readLine_19 ?_
    refine ev_iconst C (v := (-1)) dX14_readLine_20 (by decide) ?_
    refine ev_icmp_ne C (tgt := 29) (by decide) dX14_readLine_21 (fun q21 => ?_) (fun q21 => ?_)
    · replace hs := (if_neg q21).symm.trans hs
      refine ev_aload_n C (x := .ref o) rfl trivial dX14_readLine_29 ?_
      obtain ⟨eo30, hs⟩ := kO_at hs
      obtain ⟨h30, e30, hs⟩ := cN_at hs
      refine ev_callV C (T_X14_next _ _ _ _ e30) (ci := 14) rfl eo30 wc_X14_next wm_X14_263 wi_X14_next ws_X14_next wz_X14 hy_X14_next ⟨(Nat.le_of_ble_eq_true rfl), (Nat.le_of_ble_eq_true rfl)⟩ ⟨(Nat.le_refl _), (Nat.le_refl _)⟩ (Nat.le_of_ble_eq_true rfl) rfl dX14_readLine_30 ?_
      refine ev_aload_n C (x := .ref o) rfl trivial dX14_readLine_33 ?_
      obtain ⟨x34, e34, hs⟩ := aB hs
      refine ev_get C (ci := 14) (k := 12) rfl wu_14 (by decide) wf_X14_196 (gI_F e34) dX14_readLine_34 ?_
      refine ev_iconst C (v := 2) dX14_readLine_37 (by decide) ?_
      refine ev_icmp_eq C (tgt := 47) (by decide) dX14_readLine_38 (fun q38 => ?_) (fun q38 => ?_)
      · replace hs := (if_pos q38).symm.trans hs
        refine ev_aload_n C (x := .ref o) rfl trivial dX14_readLine_47 ?_
        obtain ⟨eo48, hs⟩ := kO_at hs
        obtain ⟨x48, h48, e48, hs⟩ := cI_at hs
        refine ev_callV C (T_X14_isKept _ _ _ _ e48) (ci := 14) rfl eo48 wc_X14_isKept wm_X14_278 wi_X14_isKept ws_X14_isKept wz_X14 hy_X14_isKept ⟨(Nat.le_of_ble_eq_true rfl), (Nat.le_of_ble_eq_true rfl)⟩ ⟨(Nat.le_refl _), (Nat.le_refl _)⟩ (Nat.le_of_ble_eq_true rfl) rfl dX14_readLine_48 ?_
        refine ev_if_ne C (tgt := 62) (by decide) dX14_readLine_51 (fun q51 => ?_) (fun q51 => ?_)
        · replace hs := (if_neg q51).symm.trans hs
          exact Ev.keep [true, false, true] (t_X14_readLine_62 C  hs)
        · replace hs := (if_pos q51).symm.trans hs
          refine ev_aload_n C (x := .ref o) rfl trivial dX14_readLine_54 ?_
          obtain ⟨eo55, hs⟩ := kO_at hs
          obtain ⟨x55, h55, e55, hs⟩ := cI_at hs
          refine ev_callV C (T_X14_slotHere _ _ _ _ e55) (ci := 14) rfl eo55 wc_X14_slotHere wm_X14_282 wi_X14_slotHere ws_X14_slotHere wz_X14 hy_X14_slotHere ⟨(Nat.le_of_ble_eq_true rfl), (Nat.le_of_ble_eq_true rfl)⟩ ⟨(Nat.le_refl _), (Nat.le_refl _)⟩ (Nat.le_of_ble_eq_true rfl) rfl dX14_readLine_55 ?_
          refine ev_iconst C (v := (-1)) dX14_readLine_58 (by decide) ?_
          refine ev_icmp_eq C (tgt := 68) (by decide) dX14_readLine_59 (fun q59 => ?_) (fun q59 => ?_)
          · replace hs := (if_pos q59).symm.trans hs
            refine ev_aload_n C (x := .ref o) rfl trivial dX14_readLine_68 ?_
            obtain ⟨x69, e69, hs⟩ := aB hs
            refine ev_get C (ci := 14) (k := 6) rfl wu_14 (by decide) wf_X14_249 (gO_F e69) dX14_readLine_69 ?_
            obtain ⟨x72, e72, hs⟩ := aB hs
            refine ev_getN C (ci := 13) (k := 0) rfl wu_13 (by decide) wg_X14_252 (gO_F e72) dX14_readLine_72 ?_
            refine ev_iload_n C rfl dX14_readLine_75 ?_
            obtain ⟨x76, e76, hs⟩ := aB hs
            refine ev_iald C e76 dX14_readLine_76 ?_
            refine ev_iload_n C rfl dX14_readLine_77 ?_
            refine ev_if_ne C (tgt := 85) (by decide) dX14_readLine_78 (fun q78 => ?_) (fun q78 => ?_)
            · replace hs := (if_neg q78).symm.trans hs
              refine ev_iconst C (v := 2) dX14_readLine_85 (by decide) ?_
              exact (t_X14_readLine_86 C  hs)
            · replace hs := (if_pos q78).symm.trans hs
              refine ev_iconst C (v := 3) dX14_readLine_81 (by decide) ?_
              refine ev_goto C (tgt := 86) (by decide) dX14_readLine_82 ?_
              exact (t_X14_readLine_86 C  hs)
          · replace hs := (if_neg q59).symm.trans hs
            exact Ev.keep [true, false, true] (t_X14_readLine_62 C  hs)
      · replace hs := (if_neg q38).symm.trans hs
        refine ev_aload_n C (x := .ref o) rfl trivial dX14_readLine_41 ?_
        refine ev_iconst C (v := 1) dX14_readLine_42 (by decide) ?_
        obtain ⟨eo43, hs⟩ := kO_at hs
        obtain ⟨x43, h43, e43, hs⟩ := cR_at hs
        refine ev_callV C (T_X14_stop _ _ _ _ _ e43) (ci := 14) rfl eo43 wc_X14_stop wm_X14_266 wi_X14_stop ws_X14_stop wz_X14 hy_X14_stop ⟨(Nat.le_of_ble_eq_true rfl), (Nat.le_of_ble_eq_true rfl)⟩ ⟨(Nat.le_refl _), (Nat.le_refl _)⟩ (Nat.le_of_ble_eq_true rfl) rfl dX14_readLine_43 ?_
        obtain ⟨e46, hs⟩ := kO_at hs
        cases hs
        exact ev_athrow C (ci := 12) rfl e46 dX14_readLine_46 (ex_out C (by decide) rfl rfl (Nat.le_refl _) (Nat.le_refl _))
    · replace hs := (if_pos q21).symm.trans hs
      refine ev_aload_n C (x := .ref o) rfl trivial dX14_readLine_24 ?_
      obtain ⟨eo25, hs⟩ := kO_at hs
      rcases xN_at hs with ⟨h25, e25, hs⟩ | ⟨E25, i25, g25, e25, hs⟩
      · skip
        refine ev_callV C (T_X14_readStep _ _ _ _ e25) (ci := 14) rfl eo25 wc_X14_readStep wm_X14_275 wi_X14_readStep ws_X14_readStep wz_X14 hy_X14_readStep ⟨(Nat.le_of_ble_eq_true rfl), (Nat.le_of_ble_eq_true rfl)⟩ ⟨(Nat.le_refl _), (Nat.le_refl _)⟩ (Nat.le_of_ble_eq_true rfl) rfl dX14_readLine_25 ?_
        cases hs
        exact ev_vret C rfl rfl (Nat.le_refl _) (Nat.le_refl _) rfl dX14_readLine_28
      · cases hs
        exact ev_callVX C (T_X14_readStep _ _ _ _ e25) (ci := 14) rfl eo25 wc_X14_readStep wm_X14_275 wi_X14_readStep ws_X14_readStep wz_X14 hy_X14_readStep ⟨(Nat.le_of_ble_eq_true rfl), (Nat.le_of_ble_eq_true rfl)⟩ ⟨(Nat.le_refl _), (Nat.le_refl _)⟩ (Nat.le_of_ble_eq_true rfl) rfl dX14_readLine_25 (ex_out C (by decide) rfl rfl (Nat.le_refl _) (Nat.le_refl _))
  · replace hs := (if_neg q5).symm.trans hs
    refine ev_aload_n C (x := .ref o) rfl trivial dX14_readLine_8 ?_
    refine ev_iconst C (v := 1) dX14_readLine_9 (by decide) ?_
    obtain ⟨eo10, hs⟩ := kO_at hs
    obtain ⟨x10, h10, e10, hs⟩ := cR_at hs
    refine ev_callV C (T_X14_stop _ _ _ _ _ e10) (ci := 14) rfl eo10 wc_X14_stop wm_X14_266 wi_X14_stop ws_X14_stop wz_X14 hy_X14_stop ⟨(Nat.le_of_ble_eq_true rfl), (Nat.le_of_ble_eq_true rfl)⟩ ⟨(Nat.le_refl _), (Nat.le_refl _)⟩ (Nat.le_of_ble_eq_true rfl) rfl dX14_readLine_10 ?_
    obtain ⟨e13, hs⟩ := kO_at hs
    cases hs
    exact ev_athrow C (ci := 12) rfl e13 dX14_readLine_13 (ex_out C (by decide) rfl rfl (Nat.le_refl _) (Nat.le_refl _))
end
-- X14_product
theorem dX14_product_0 : decode cX14_product 0 = .ok (.iconst 1, 1) := by decide +kernel
theorem dX14_product_1 : decode cX14_product 1 = .ok (.istore_n 3, 1) := by decide +kernel
theorem dX14_product_2 : decode cX14_product 2 = .ok (.iload_n 1, 1) := by decide +kernel
theorem dX14_product_3 : decode cX14_product 3 = .ok (.istore 4, 2) := by decide +kernel
theorem dX14_product_5 : decode cX14_product 5 = .ok (.iload 4, 2) := by decide +kernel
theorem dX14_product_7 : decode cX14_product 7 = .ok (.iload_n 2, 1) := by decide +kernel
theorem dX14_product_8 : decode cX14_product 8 = .ok (.if_icmp .gt 45, 3) := by decide +kernel
theorem dX14_product_11 : decode cX14_product 11 = .ok (.iconst 0, 1) := by decide +kernel
theorem dX14_product_12 : decode cX14_product 12 = .ok (.istore 5, 2) := by decide +kernel
theorem dX14_product_14 : decode cX14_product 14 = .ok (.iload 5, 2) := by decide +kernel
theorem dX14_product_16 : decode cX14_product 16 = .ok (.aload_n 0, 1) := by decide +kernel
theorem dX14_product_17 : decode cX14_product 17 = .ok (.getfield 252, 3) := by decide +kernel
theorem dX14_product_20 : decode cX14_product 20 = .ok (.iload 4, 2) := by decide +kernel
theorem dX14_product_22 : decode cX14_product 22 = .ok (.iaload, 1) := by decide +kernel
theorem dX14_product_23 : decode cX14_product 23 = .ok (.if_icmp .ge 24, 3) := by decide +kernel
theorem dX14_product_26 : decode cX14_product 26 = .ok (.iload_n 3, 1) := by decide +kernel
theorem dX14_product_27 : decode cX14_product 27 = .ok (.aload_n 0, 1) := by decide +kernel
theorem dX14_product_28 : decode cX14_product 28 = .ok (.iload 4, 2) := by decide +kernel
theorem dX14_product_30 : decode cX14_product 30 = .ok (.invokestatic 246, 3) := by decide +kernel
theorem dX14_product_33 : decode cX14_product 33 = .ok (.iload 5, 2) := by decide +kernel
theorem dX14_product_35 : decode cX14_product 35 = .ok (.iadd, 1) := by decide +kernel
theorem dX14_product_36 : decode cX14_product 36 = .ok (.invokevirtual 273, 3) := by decide +kernel
theorem dX14_product_39 : decode cX14_product 39 = .ok (.imul, 1) := by decide +kernel
theorem dX14_product_40 : decode cX14_product 40 = .ok (.istore_n 3, 1) := by decide +kernel
theorem dX14_product_41 : decode cX14_product 41 = .ok (.iinc 5 1, 3) := by decide +kernel
theorem dX14_product_44 : decode cX14_product 44 = .ok (.goto (-30), 3) := by decide +kernel
theorem dX14_product_47 : decode cX14_product 47 = .ok (.iinc 4 1, 3) := by decide +kernel
theorem dX14_product_50 : decode cX14_product 50 = .ok (.goto (-45), 3) := by decide +kernel
theorem dX14_product_53 : decode cX14_product 53 = .ok (.iload_n 3, 1) := by decide +kernel
theorem dX14_product_54 : decode cX14_product 54 = .ok (.ireturn, 1) := by decide +kernel
def s_X14_product_14_b (k5 : Nat → Int32 → Int32 → Int32 → aH → aO) (k14 : Nat → Int32 → Int32 → Int32 → Int32 → aH → aO) (l0 : Nat) (l2 : Int32) (l3 : Int32) (l4 : Int32) (l5 : Int32) (h : aH) : aO :=
  (gO h (.ref l0) 13 0).bind fun x17 => (ldI .int h (.ref x17) l4).bind fun x22 => if x22 ≤ l5 then (k5 l0 l2 l3 (l4 + 1) h) else (cI (s_X14_slotOf l4 h) fun x30 h30 => kO h30 l0 13 (cI (s_X13_size l0 (x30 + l5) h30) fun x36 h36 => k14 l0 l2 (l3 * x36) l4 (l5 + 1) h36))
def s_X14_product_14 (k5 : Nat → Int32 → Int32 → Int32 → aH → aO) (n : Nat) : Nat → Int32 → Int32 → Int32 → Int32 → aH → aO := lpF (fun _ _ _ _ _ _ => none) (s_X14_product_14_b k5) n
def s_X14_product_5_b  (k5 : Nat → Int32 → Int32 → Int32 → aH → aO) (l0 : Nat) (l2 : Int32) (l3 : Int32) (l4 : Int32) (h : aH) : aO :=
  if l2 < l4 then (some (.inl (some (.int l3)), h)) else (s_X14_product_14 k5 FU l0 l2 l3 l4 0 h)
def s_X14_product_5  (n : Nat) : Nat → Int32 → Int32 → Int32 → aH → aO := lpF (fun _ _ _ _ _ => none) (s_X14_product_5_b ) n
def s_X14_product (a1 : Nat) (a2 : Int32) (a3 : Int32) (h : aH) : aO :=
  s_X14_product_5 FU a1 a3 1 a2 h
section
variable {p : Program} {l : Launch} {e : Env} {s : State} {m : MethodId} {args : Array Value} {below : List Frame} {meth : Method} {c : Code} {D : va_G} {B0 : Nat} {X : Nat → Nat} {ws0 : va_W} {r : aR} {h' : aH} {mc ms : Nat}
theorem t_X14_product_14_b (C : Cx p l s m args meth c B0 X RX14 "product" cX14_product 6 (some .int) []) {k5 : Nat → Int32 → Int32 → Int32 → aH → aO} (K5 : ∀ (l0 : Nat) (l2 : Int32) (l3 : Int32) (l4 : Int32) (h : aH), k5 l0 l2 l3 l4 h = some (r, h') → Ev p l e { frames := 1, cells := mc, slots := ms, locals := 21 } s m args below meth c D B0 X ws0 r h' mc ms 6 mc ms 5 [some (.ref l0), none, some (.int l2), some (.int l3), some (.int l4), none] [] h) {k14 : Nat → Int32 → Int32 → Int32 → Int32 → aH → aO} (K14 : ∀ (l0 : Nat) (l2 : Int32) (l3 : Int32) (l4 : Int32) (l5 : Int32) (h : aH), k14 l0 l2 l3 l4 l5 h = some (r, h') → Ev p l e { frames := 1, cells := mc, slots := ms, locals := 21 } s m args below meth c D B0 X ws0 r h' mc ms 6 mc ms 14 [some (.ref l0), none, some (.int l2), some (.int l3), some (.int l4), some (.int l5)] [] h) {l0 : Nat} {l2 : Int32} {l3 : Int32} {l4 : Int32} {l5 : Int32} {h : aH} (hs : s_X14_product_14_b k5 k14 l0 l2 l3 l4 l5 h = some (r, h')) : Ev p l e { frames := 1, cells := mc, slots := ms, locals := 21 } s m args below meth c D B0 X ws0 r h' mc ms 6 mc ms 14 [some (.ref l0), none, some (.int l2), some (.int l3), some (.int l4), some (.int l5)] [] h := by
  unfold s_X14_product_14_b at hs
  refine ev_iload C rfl dX14_product_14 ?_
  refine ev_aload_n C (x := .ref l0) rfl trivial dX14_product_16 ?_
  obtain ⟨x17, e17, hs⟩ := aB hs
  refine ev_getN C (ci := 13) (k := 0) rfl wu_13 (by decide) wg_X14_252 (gO_F e17) dX14_product_17 ?_
  refine ev_iload C rfl dX14_product_20 ?_
  obtain ⟨x22, e22, hs⟩ := aB hs
  refine ev_iald C e22 dX14_product_22 ?_
  refine ev_icmp_ge C (tgt := 47) (by decide) dX14_product_23 (fun q23 => ?_) (fun q23 => ?_)
  · replace hs := (if_pos q23).symm.trans hs
    refine ev_iinc C (i := 4) (n := 1) (x := l4) (v := l4 + 1) rfl (congrArg (fun z => l4 + z) (show Int32.ofInt 1 = 1 by decide)) (by decide) dX14_product_47 ?_
    refine ev_goto C (tgt := 5) (by decide) dX14_product_50 ?_
    exact Ev.keep [true, true, true, true, true, false] (K5 _ _ _ _ _ hs)
  · replace hs := (if_neg q23).symm.trans hs
    refine ev_iload_n C rfl dX14_product_26 ?_
    refine ev_aload_n C (x := .ref l0) rfl trivial dX14_product_27 ?_
    refine ev_iload C rfl dX14_product_28 ?_
    obtain ⟨x30, h30, e30, hs⟩ := cI_at hs
    refine ev_callS C (T_X14_slotOf _ _ _ _ e30) wc_X14_slotOf wm_X14_246 wt_X14_slotOf wz_X14 hy_X14_slotOf ⟨(Nat.le_of_ble_eq_true rfl), (Nat.le_of_ble_eq_true rfl)⟩ ⟨(Nat.le_refl _), (Nat.le_refl _)⟩ (Nat.le_of_ble_eq_true rfl) rfl dX14_product_30 ?_
    refine ev_iload C rfl dX14_product_33 ?_
    refine ev_iadd C dX14_product_35 ?_
    obtain ⟨eo36, hs⟩ := kO_at hs
    obtain ⟨x36, h36, e36, hs⟩ := cI_at hs
    refine ev_callV C (T_X13_size _ _ _ _ _ e36) (ci := 13) rfl eo36 wc_X13_size wm_X14_273 wi_X13_size ws_X13_size wz_X13 hy_X13_size ⟨(Nat.le_of_ble_eq_true rfl), (Nat.le_of_ble_eq_true rfl)⟩ ⟨(Nat.le_refl _), (Nat.le_refl _)⟩ (Nat.le_of_ble_eq_true rfl) rfl dX14_product_36 ?_
    refine ev_imul C dX14_product_39 ?_
    refine ev_istore_n C (by decide) dX14_product_40 ?_
    refine ev_iinc C (i := 5) (n := 1) (x := l5) (v := l5 + 1) rfl (congrArg (fun z => l5 + z) (show Int32.ofInt 1 = 1 by decide)) (by decide) dX14_product_41 ?_
    refine ev_goto C (tgt := 14) (by decide) dX14_product_44 ?_
    exact (K14 _ _ _ _ _ _ hs)
theorem t_X14_product_14 (C : Cx p l s m args meth c B0 X RX14 "product" cX14_product 6 (some .int) []) {k5 : Nat → Int32 → Int32 → Int32 → aH → aO} (K5 : ∀ (l0 : Nat) (l2 : Int32) (l3 : Int32) (l4 : Int32) (h : aH), k5 l0 l2 l3 l4 h = some (r, h') → Ev p l e { frames := 1, cells := mc, slots := ms, locals := 21 } s m args below meth c D B0 X ws0 r h' mc ms 6 mc ms 5 [some (.ref l0), none, some (.int l2), some (.int l3), some (.int l4), none] [] h) : ∀ (n : Nat) {l0 : Nat} {l2 : Int32} {l3 : Int32} {l4 : Int32} {l5 : Int32} {h : aH} (hs : s_X14_product_14 k5 n l0 l2 l3 l4 l5 h = some (r, h')), Ev p l e { frames := 1, cells := mc, slots := ms, locals := 21 } s m args below meth c D B0 X ws0 r h' mc ms 6 mc ms 14 [some (.ref l0), none, some (.int l2), some (.int l3), some (.int l4), some (.int l5)] [] h
  | 0, _, _, _, _, _, _, hs => nomatch hs
  | n + 1, _, _, _, _, _, _, hs => t_X14_product_14_b C K5 (k14 := s_X14_product_14 k5 n) (fun _ _ _ _ _ _ hs => t_X14_product_14 C K5 n hs) hs
theorem t_X14_product_5_b (C : Cx p l s m args meth c B0 X RX14 "product" cX14_product 6 (some .int) [])   {k5 : Nat → Int32 → Int32 → Int32 → aH → aO} (K5 : ∀ (l0 : Nat) (l2 : Int32) (l3 : Int32) (l4 : Int32) (h : aH), k5 l0 l2 l3 l4 h = some (r, h') → Ev p l e { frames := 1, cells := mc, slots := ms, locals := 21 } s m args below meth c D B0 X ws0 r h' mc ms 6 mc ms 5 [some (.ref l0), none, some (.int l2), some (.int l3), some (.int l4), none] [] h) {l0 : Nat} {l2 : Int32} {l3 : Int32} {l4 : Int32} {h : aH} (hs : s_X14_product_5_b  k5 l0 l2 l3 l4 h = some (r, h')) : Ev p l e { frames := 1, cells := mc, slots := ms, locals := 21 } s m args below meth c D B0 X ws0 r h' mc ms 6 mc ms 5 [some (.ref l0), none, some (.int l2), some (.int l3), some (.int l4), none] [] h := by
  unfold s_X14_product_5_b at hs
  refine ev_iload C rfl dX14_product_5 ?_
  refine ev_iload_n C rfl dX14_product_7 ?_
  refine ev_icmp_gt C (tgt := 53) (by decide) dX14_product_8 (fun q8 => ?_) (fun q8 => ?_)
  · replace hs := (if_pos q8).symm.trans hs
    refine ev_iload_n C rfl dX14_product_53 ?_
    cases hs
    exact ev_iret C rfl rfl (Nat.le_refl _) (Nat.le_refl _) rfl dX14_product_54
  · replace hs := (if_neg q8).symm.trans hs
    refine ev_iconst C (v := 0) dX14_product_11 (by decide) ?_
    refine ev_istore C (by decide) dX14_product_12 ?_
    exact (t_X14_product_14 C K5 FU hs)
theorem t_X14_product_5 (C : Cx p l s m args meth c B0 X RX14 "product" cX14_product 6 (some .int) [])   : ∀ (n : Nat) {l0 : Nat} {l2 : Int32} {l3 : Int32} {l4 : Int32} {h : aH} (hs : s_X14_product_5  n l0 l2 l3 l4 h = some (r, h')), Ev p l e { frames := 1, cells := mc, slots := ms, locals := 21 } s m args below meth c D B0 X ws0 r h' mc ms 6 mc ms 5 [some (.ref l0), none, some (.int l2), some (.int l3), some (.int l4), none] [] h
  | 0, _, _, _, _, _, hs => nomatch hs
  | n + 1, _, _, _, _, _, hs => t_X14_product_5_b C  (k5 := s_X14_product_5  n) (fun _ _ _ _ _ hs => t_X14_product_5 C  n hs) hs
theorem hy_X14_product : yX14_product.cls ≠ "java/lang/invoke/MethodHandle" ∧ yX14_product.cls ≠ "java/lang/invoke/VarHandle" ∧ (parseMethodDescriptor yX14_product.desc).map (fun d => d.parameters.length) = some 3 := by decide +kernel
theorem T_X14_product (a1 : Nat) (a2 : Int32) (a3 : Int32) (h : aH) (r : aR) (h' : aH) (hs : s_X14_product a1 a2 a3 h = some (r, h')) : Mt yX14_product (Cond.code yX14_product cX14_product 6 (some .int) :: aTB) 1 21 0 0 [.ref a1, .int a2, .int a3] h r h' := by
  unfold s_X14_product at hs
  refine Mt_of (k := 3) (by decide) rfl (fun p l e s m args below meth c D B0 X ws0 C => ?_)
  show Ev p l e { frames := 1, cells := 0, slots := 0, locals := 21 } s m args below meth c D B0 X ws0 r h' 0 0 6 0 0 0 [some (.ref a1), some (.int a2), some (.int a3), none, none, none] [] h
  refine ev_iconst C (v := 1) dX14_product_0 (by decide) ?_
  refine ev_istore_n C (by decide) dX14_product_1 ?_
  refine ev_iload_n C rfl dX14_product_2 ?_
  refine ev_istore C (by decide) dX14_product_3 ?_
  exact Ev.keep [true, false, true, true, true, true] (t_X14_product_5 C  FU hs)
end
-- X14_readThing
theorem dX14_readThing_0 : decode cX14_readThing 0 = .ok (.iconst 1, 1) := by decide +kernel
theorem dX14_readThing_1 : decode cX14_readThing 1 = .ok (.istore_n 1, 1) := by decide +kernel
theorem dX14_readThing_2 : decode cX14_readThing 2 = .ok (.iload_n 1, 1) := by decide +kernel
theorem dX14_readThing_3 : decode cX14_readThing 3 = .ok (.ifCond .eq 25, 3) := by decide +kernel
theorem dX14_readThing_6 : decode cX14_readThing 6 = .ok (.aload_n 0, 1) := by decide +kernel
theorem dX14_readThing_7 : decode cX14_readThing 7 = .ok (.invokevirtual 257, 3) := by decide +kernel
theorem dX14_readThing_10 : decode cX14_readThing 10 = .ok (.aload_n 0, 1) := by decide +kernel
theorem dX14_readThing_11 : decode cX14_readThing 11 = .ok (.bipush 59, 2) := by decide +kernel
theorem dX14_readThing_13 : decode cX14_readThing 13 = .ok (.invokevirtual 260, 3) := by decide +kernel
theorem dX14_readThing_16 : decode cX14_readThing 16 = .ok (.istore_n 1, 1) := by decide +kernel
theorem dX14_readThing_17 : decode cX14_readThing 17 = .ok (.iload_n 1, 1) := by decide +kernel
theorem dX14_readThing_18 : decode cX14_readThing 18 = .ok (.ifCond .eq (-16), 3) := by decide +kernel
theorem dX14_readThing_21 : decode cX14_readThing 21 = .ok (.aload_n 0, 1) := by decide +kernel
theorem dX14_readThing_22 : decode cX14_readThing 22 = .ok (.invokevirtual 263, 3) := by decide +kernel
theorem dX14_readThing_25 : decode cX14_readThing 25 = .ok (.goto (-23), 3) := by decide +kernel
theorem dX14_readThing_28 : decode cX14_readThing 28 = .ok (.aload_n 0, 1) := by decide +kernel
theorem dX14_readThing_29 : decode cX14_readThing 29 = .ok (.getfield 196, 3) := by decide +kernel
theorem dX14_readThing_32 : decode cX14_readThing 32 = .ok (.iconst 1, 1) := by decide +kernel
theorem dX14_readThing_33 : decode cX14_readThing 33 = .ok (.if_icmp .eq 9, 3) := by decide +kernel
theorem dX14_readThing_36 : decode cX14_readThing 36 = .ok (.aload_n 0, 1) := by decide +kernel
theorem dX14_readThing_37 : decode cX14_readThing 37 = .ok (.iconst 1, 1) := by decide +kernel
theorem dX14_readThing_38 : decode cX14_readThing 38 = .ok (.invokevirtual 266, 3) := by decide +kernel
theorem dX14_readThing_41 : decode cX14_readThing 41 = .ok (.athrow, 1) := by decide +kernel
theorem dX14_readThing_42 : decode cX14_readThing 42 = .ok (.aload_n 0, 1) := by decide +kernel
theorem dX14_readThing_43 : decode cX14_readThing 43 = .ok (.getfield 249, 3) := by decide +kernel
theorem dX14_readThing_46 : decode cX14_readThing 46 = .ok (.getfield 252, 3) := by decide +kernel
theorem dX14_readThing_49 : decode cX14_readThing 49 = .ok (.iconst 0, 1) := by decide +kernel
theorem dX14_readThing_50 : decode cX14_readThing 50 = .ok (.iaload, 1) := by decide +kernel
theorem dX14_readThing_51 : decode cX14_readThing 51 = .ok (.ifCond .eq 46, 3) := by decide +kernel
theorem dX14_readThing_54 : decode cX14_readThing 54 = .ok (.aload_n 0, 1) := by decide +kernel
theorem dX14_readThing_55 : decode cX14_readThing 55 = .ok (.getfield 249, 3) := by decide +kernel
theorem dX14_readThing_58 : decode cX14_readThing 58 = .ok (.iconst 0, 1) := by decide +kernel
theorem dX14_readThing_59 : decode cX14_readThing 59 = .ok (.iconst 0, 1) := by decide +kernel
theorem dX14_readThing_60 : decode cX14_readThing 60 = .ok (.invokestatic 269, 3) := by decide +kernel
theorem dX14_readThing_63 : decode cX14_readThing 63 = .ok (.sipush 400, 3) := by decide +kernel
theorem dX14_readThing_66 : decode cX14_readThing 66 = .ok (.if_icmp .gt 31, 3) := by decide +kernel
theorem dX14_readThing_69 : decode cX14_readThing 69 = .ok (.aload_n 0, 1) := by decide +kernel
theorem dX14_readThing_70 : decode cX14_readThing 70 = .ok (.getfield 249, 3) := by decide +kernel
theorem dX14_readThing_73 : decode cX14_readThing 73 = .ok (.iconst 1, 1) := by decide +kernel
theorem dX14_readThing_74 : decode cX14_readThing 74 = .ok (.iconst 1, 1) := by decide +kernel
theorem dX14_readThing_75 : decode cX14_readThing 75 = .ok (.invokestatic 269, 3) := by decide +kernel
theorem dX14_readThing_78 : decode cX14_readThing 78 = .ok (.bipush 9, 2) := by decide +kernel
theorem dX14_readThing_80 : decode cX14_readThing 80 = .ok (.if_icmp .gt 17, 3) := by decide +kernel
theorem dX14_readThing_83 : decode cX14_readThing 83 = .ok (.aload_n 0, 1) := by decide +kernel
theorem dX14_readThing_84 : decode cX14_readThing 84 = .ok (.getfield 249, 3) := by decide +kernel
theorem dX14_readThing_87 : decode cX14_readThing 87 = .ok (.iconst 2, 1) := by decide +kernel
theorem dX14_readThing_88 : decode cX14_readThing 88 = .ok (.iconst 3, 1) := by decide +kernel
theorem dX14_readThing_89 : decode cX14_readThing 89 = .ok (.invokestatic 269, 3) := by decide +kernel
theorem dX14_readThing_92 : decode cX14_readThing 92 = .ok (.bipush 27, 2) := by decide +kernel
theorem dX14_readThing_94 : decode cX14_readThing 94 = .ok (.if_icmp .le 9, 3) := by decide +kernel
theorem dX14_readThing_97 : decode cX14_readThing 97 = .ok (.aload_n 0, 1) := by decide +kernel
theorem dX14_readThing_98 : decode cX14_readThing 98 = .ok (.iconst 5, 1) := by decide +kernel
theorem dX14_readThing_99 : decode cX14_readThing 99 = .ok (.invokevirtual 266, 3) := by decide +kernel
theorem dX14_readThing_102 : decode cX14_readThing 102 = .ok (.athrow, 1) := by decide +kernel
theorem dX14_readThing_103 : decode cX14_readThing 103 = .ok (.return_, 1) := by decide +kernel
def s_X14_readThing_97  (l0 : Nat) (h : aH) : aO :=
  kO h l0 14 (cR (s_X14_stop l0 5 h) fun x99 h99 => kO h99 x99 12 (some (.inr (RX12, x99), h99)))
def s_X14_readThing_2_b  (k2 : Nat → Int32 → aH → aO) (l0 : Nat) (l1 : Int32) (h : aH) : aO :=
  if l1 = 0 then ((gI h (.ref l0) 14 12).bind fun x29 => if x29 = 1 then ((gO h (.ref l0) 14 6).bind fun x43 => (gO h (.ref x43) 13 0).bind fun x46 => (ldI .int h (.ref x46) 0).bind fun x50 => if x50 = 0 then (s_X14_readThing_97 l0 h) else ((gO h (.ref l0) 14 6).bind fun x55 => cI (s_X14_product x55 0 0 h) fun x60 h60 => if 400 < x60 then (s_X14_readThing_97 l0 h60) else ((gO h60 (.ref l0) 14 6).bind fun x70 => cI (s_X14_product x70 1 1 h60) fun x75 h75 => if 9 < x75 then (s_X14_readThing_97 l0 h75) else ((gO h75 (.ref l0) 14 6).bind fun x84 => cI (s_X14_product x84 2 3 h75) fun x89 h89 => if x89 ≤ 27 then (some (.inl none, h89)) else (s_X14_readThing_97 l0 h89))))) else (kO h l0 14 (cR (s_X14_stop l0 1 h) fun x38 h38 => kO h38 x38 12 (some (.inr (RX12, x38), h38))))) else (kO h l0 14 (xN (s_X14_readLine l0 h) (fun h7 => kO h7 l0 14 (cI (s_X14_is l0 59 h7) fun x13 h13 => if x13 = 0 then (k2 l0 x13 h13) else (kO h13 l0 14 (cN (s_X14_next l0 h13) fun h22 => k2 l0 x13 h22)))) (fun E i h => some (.inr (E, i), h))))
def s_X14_readThing_2  (n : Nat) : Nat → Int32 → aH → aO := lpF (fun _ _ _ => none) (s_X14_readThing_2_b ) n
def s_X14_readThing (o : Nat) (h : aH) : aO :=
  s_X14_readThing_2 FU o 1 h
section
variable {p : Program} {l : Launch} {e : Env} {s : State} {m : MethodId} {args : Array Value} {below : List Frame} {meth : Method} {c : Code} {D : va_G} {B0 : Nat} {X : Nat → Nat} {ws0 : va_W} {r : aR} {h' : aH} {mc ms : Nat}
theorem t_X14_readThing_97 (C : Cx p l s m args meth c B0 X RX14 "readThing" cX14_readThing 2 none [])   {l0 : Nat} {h : aH} (hs : s_X14_readThing_97  l0 h = some (r, h')) : Ev p l e { frames := 16, cells := mc, slots := ms, locals := 346 } s m args below meth c D B0 X ws0 r h' mc ms 2 mc ms 97 [some (.ref l0), none] [] h := by
  unfold s_X14_readThing_97 at hs
  refine ev_aload_n C (x := .ref l0) rfl trivial dX14_readThing_97 ?_
  refine ev_iconst C (v := 5) dX14_readThing_98 (by decide) ?_
  obtain ⟨eo99, hs⟩ := kO_at hs
  obtain ⟨x99, h99, e99, hs⟩ := cR_at hs
  refine ev_callV C (T_X14_stop _ _ _ _ _ e99) (ci := 14) rfl eo99 wc_X14_stop wm_X14_266 wi_X14_stop ws_X14_stop wz_X14 hy_X14_stop ⟨(Nat.le_of_ble_eq_true rfl), (Nat.le_of_ble_eq_true rfl)⟩ ⟨(Nat.le_refl _), (Nat.le_refl _)⟩ (Nat.le_of_ble_eq_true rfl) rfl dX14_readThing_99 ?_
  obtain ⟨e102, hs⟩ := kO_at hs
  cases hs
  exact ev_athrow C (ci := 12) rfl e102 dX14_readThing_102 (ex_out C (by decide) rfl rfl (Nat.le_refl _) (Nat.le_refl _))
theorem t_X14_readThing_2_b (C : Cx p l s m args meth c B0 X RX14 "readThing" cX14_readThing 2 none [])   {k2 : Nat → Int32 → aH → aO} (K2 : ∀ (l0 : Nat) (l1 : Int32) (h : aH), k2 l0 l1 h = some (r, h') → Ev p l e { frames := 16, cells := mc, slots := ms, locals := 346 } s m args below meth c D B0 X ws0 r h' mc ms 2 mc ms 2 [some (.ref l0), some (.int l1)] [] h) {l0 : Nat} {l1 : Int32} {h : aH} (hs : s_X14_readThing_2_b  k2 l0 l1 h = some (r, h')) : Ev p l e { frames := 16, cells := mc, slots := ms, locals := 346 } s m args below meth c D B0 X ws0 r h' mc ms 2 mc ms 2 [some (.ref l0), some (.int l1)] [] h := by
  unfold s_X14_readThing_2_b at hs
  refine ev_iload_n C rfl dX14_readThing_2 ?_
  refine ev_if_eq C (tgt := 28) (by decide) dX14_readThing_3 (fun q3 => ?_) (fun q3 => ?_)
  · replace hs := (if_pos q3).symm.trans hs
    refine ev_aload_n C (x := .ref l0) rfl trivial dX14_readThing_28 ?_
    obtain ⟨x29, e29, hs⟩ := aB hs
    refine ev_get C (ci := 14) (k := 12) rfl wu_14 (by decide) wf_X14_196 (gI_F e29) dX14_readThing_29 ?_
    refine ev_iconst C (v := 1) dX14_readThing_32 (by decide) ?_
    refine ev_icmp_eq C (tgt := 42) (by decide) dX14_readThing_33 (fun q33 => ?_) (fun q33 => ?_)
    · replace hs := (if_pos q33).symm.trans hs
      refine ev_aload_n C (x := .ref l0) rfl trivial dX14_readThing_42 ?_
      obtain ⟨x43, e43, hs⟩ := aB hs
      refine ev_get C (ci := 14) (k := 6) rfl wu_14 (by decide) wf_X14_249 (gO_F e43) dX14_readThing_43 ?_
      obtain ⟨x46, e46, hs⟩ := aB hs
      refine ev_getN C (ci := 13) (k := 0) rfl wu_13 (by decide) wg_X14_252 (gO_F e46) dX14_readThing_46 ?_
      refine ev_iconst C (v := 0) dX14_readThing_49 (by decide) ?_
      obtain ⟨x50, e50, hs⟩ := aB hs
      refine ev_iald C e50 dX14_readThing_50 ?_
      refine ev_if_eq C (tgt := 97) (by decide) dX14_readThing_51 (fun q51 => ?_) (fun q51 => ?_)
      · replace hs := (if_pos q51).symm.trans hs
        exact Ev.keep [true, false] (t_X14_readThing_97 C  hs)
      · replace hs := (if_neg q51).symm.trans hs
        refine ev_aload_n C (x := .ref l0) rfl trivial dX14_readThing_54 ?_
        obtain ⟨x55, e55, hs⟩ := aB hs
        refine ev_get C (ci := 14) (k := 6) rfl wu_14 (by decide) wf_X14_249 (gO_F e55) dX14_readThing_55 ?_
        refine ev_iconst C (v := 0) dX14_readThing_58 (by decide) ?_
        refine ev_iconst C (v := 0) dX14_readThing_59 (by decide) ?_
        obtain ⟨x60, h60, e60, hs⟩ := cI_at hs
        refine ev_callS C (T_X14_product _ _ _ _ _ _ e60) wc_X14_product wm_X14_269 wt_X14_product wz_X14 hy_X14_product ⟨(Nat.le_of_ble_eq_true rfl), (Nat.le_of_ble_eq_true rfl)⟩ ⟨(Nat.le_refl _), (Nat.le_refl _)⟩ (Nat.le_of_ble_eq_true rfl) rfl dX14_readThing_60 ?_
        refine ev_sipush C (v := 400) dX14_readThing_63 (by decide) ?_
        refine ev_icmp_gt C (tgt := 97) (by decide) dX14_readThing_66 (fun q66 => ?_) (fun q66 => ?_)
        · replace hs := (if_pos q66).symm.trans hs
          exact Ev.keep [true, false] (t_X14_readThing_97 C  hs)
        · replace hs := (if_neg q66).symm.trans hs
          refine ev_aload_n C (x := .ref l0) rfl trivial dX14_readThing_69 ?_
          obtain ⟨x70, e70, hs⟩ := aB hs
          refine ev_get C (ci := 14) (k := 6) rfl wu_14 (by decide) wf_X14_249 (gO_F e70) dX14_readThing_70 ?_
          refine ev_iconst C (v := 1) dX14_readThing_73 (by decide) ?_
          refine ev_iconst C (v := 1) dX14_readThing_74 (by decide) ?_
          obtain ⟨x75, h75, e75, hs⟩ := cI_at hs
          refine ev_callS C (T_X14_product _ _ _ _ _ _ e75) wc_X14_product wm_X14_269 wt_X14_product wz_X14 hy_X14_product ⟨(Nat.le_of_ble_eq_true rfl), (Nat.le_of_ble_eq_true rfl)⟩ ⟨(Nat.le_refl _), (Nat.le_refl _)⟩ (Nat.le_of_ble_eq_true rfl) rfl dX14_readThing_75 ?_
          refine ev_bipush C (v := 9) dX14_readThing_78 (by decide) ?_
          refine ev_icmp_gt C (tgt := 97) (by decide) dX14_readThing_80 (fun q80 => ?_) (fun q80 => ?_)
          · replace hs := (if_pos q80).symm.trans hs
            exact Ev.keep [true, false] (t_X14_readThing_97 C  hs)
          · replace hs := (if_neg q80).symm.trans hs
            refine ev_aload_n C (x := .ref l0) rfl trivial dX14_readThing_83 ?_
            obtain ⟨x84, e84, hs⟩ := aB hs
            refine ev_get C (ci := 14) (k := 6) rfl wu_14 (by decide) wf_X14_249 (gO_F e84) dX14_readThing_84 ?_
            refine ev_iconst C (v := 2) dX14_readThing_87 (by decide) ?_
            refine ev_iconst C (v := 3) dX14_readThing_88 (by decide) ?_
            obtain ⟨x89, h89, e89, hs⟩ := cI_at hs
            refine ev_callS C (T_X14_product _ _ _ _ _ _ e89) wc_X14_product wm_X14_269 wt_X14_product wz_X14 hy_X14_product ⟨(Nat.le_of_ble_eq_true rfl), (Nat.le_of_ble_eq_true rfl)⟩ ⟨(Nat.le_refl _), (Nat.le_refl _)⟩ (Nat.le_of_ble_eq_true rfl) rfl dX14_readThing_89 ?_
            refine ev_bipush C (v := 27) dX14_readThing_92 (by decide) ?_
            refine ev_icmp_le C (tgt := 103) (by decide) dX14_readThing_94 (fun q94 => ?_) (fun q94 => ?_)
            · replace hs := (if_pos q94).symm.trans hs
              cases hs
              exact ev_vret C rfl rfl (Nat.le_refl _) (Nat.le_refl _) rfl dX14_readThing_103
            · replace hs := (if_neg q94).symm.trans hs
              exact Ev.keep [true, false] (t_X14_readThing_97 C  hs)
    · replace hs := (if_neg q33).symm.trans hs
      refine ev_aload_n C (x := .ref l0) rfl trivial dX14_readThing_36 ?_
      refine ev_iconst C (v := 1) dX14_readThing_37 (by decide) ?_
      obtain ⟨eo38, hs⟩ := kO_at hs
      obtain ⟨x38, h38, e38, hs⟩ := cR_at hs
      refine ev_callV C (T_X14_stop _ _ _ _ _ e38) (ci := 14) rfl eo38 wc_X14_stop wm_X14_266 wi_X14_stop ws_X14_stop wz_X14 hy_X14_stop ⟨(Nat.le_of_ble_eq_true rfl), (Nat.le_of_ble_eq_true rfl)⟩ ⟨(Nat.le_refl _), (Nat.le_refl _)⟩ (Nat.le_of_ble_eq_true rfl) rfl dX14_readThing_38 ?_
      obtain ⟨e41, hs⟩ := kO_at hs
      cases hs
      exact ev_athrow C (ci := 12) rfl e41 dX14_readThing_41 (ex_out C (by decide) rfl rfl (Nat.le_refl _) (Nat.le_refl _))
  · replace hs := (if_neg q3).symm.trans hs
    refine ev_aload_n C (x := .ref l0) rfl trivial dX14_readThing_6 ?_
    obtain ⟨eo7, hs⟩ := kO_at hs
    rcases xN_at hs with ⟨h7, e7, hs⟩ | ⟨E7, i7, g7, e7, hs⟩
    · skip
      refine ev_callV C (T_X14_readLine _ _ _ _ e7) (ci := 14) rfl eo7 wc_X14_readLine wm_X14_257 wi_X14_readLine ws_X14_readLine wz_X14 hy_X14_readLine ⟨(Nat.le_of_ble_eq_true rfl), (Nat.le_of_ble_eq_true rfl)⟩ ⟨(Nat.le_refl _), (Nat.le_refl _)⟩ (Nat.le_of_ble_eq_true rfl) rfl dX14_readThing_7 ?_
      refine ev_aload_n C (x := .ref l0) rfl trivial dX14_readThing_10 ?_
      refine ev_bipush C (v := 59) dX14_readThing_11 (by decide) ?_
      obtain ⟨eo13, hs⟩ := kO_at hs
      obtain ⟨x13, h13, e13, hs⟩ := cI_at hs
      refine ev_callV C (T_X14_is _ _ _ _ _ e13) (ci := 14) rfl eo13 wc_X14_is wm_X14_260 wi_X14_is ws_X14_is wz_X14 hy_X14_is ⟨(Nat.le_of_ble_eq_true rfl), (Nat.le_of_ble_eq_true rfl)⟩ ⟨(Nat.le_refl _), (Nat.le_refl _)⟩ (Nat.le_of_ble_eq_true rfl) rfl dX14_readThing_13 ?_
      refine ev_istore_n C (by decide) dX14_readThing_16 ?_
      refine ev_iload_n C rfl dX14_readThing_17 ?_
      refine ev_if_eq C (tgt := 2) (by decide) dX14_readThing_18 (fun q18 => ?_) (fun q18 => ?_)
      · replace hs := (if_pos q18).symm.trans hs
        exact (K2 _ _ _ hs)
      · replace hs := (if_neg q18).symm.trans hs
        refine ev_aload_n C (x := .ref l0) rfl trivial dX14_readThing_21 ?_
        obtain ⟨eo22, hs⟩ := kO_at hs
        obtain ⟨h22, e22, hs⟩ := cN_at hs
        refine ev_callV C (T_X14_next _ _ _ _ e22) (ci := 14) rfl eo22 wc_X14_next wm_X14_263 wi_X14_next ws_X14_next wz_X14 hy_X14_next ⟨(Nat.le_of_ble_eq_true rfl), (Nat.le_of_ble_eq_true rfl)⟩ ⟨(Nat.le_refl _), (Nat.le_refl _)⟩ (Nat.le_of_ble_eq_true rfl) rfl dX14_readThing_22 ?_
        refine ev_goto C (tgt := 2) (by decide) dX14_readThing_25 ?_
        exact (K2 _ _ _ hs)
    · cases hs
      exact ev_callVX C (T_X14_readLine _ _ _ _ e7) (ci := 14) rfl eo7 wc_X14_readLine wm_X14_257 wi_X14_readLine ws_X14_readLine wz_X14 hy_X14_readLine ⟨(Nat.le_of_ble_eq_true rfl), (Nat.le_of_ble_eq_true rfl)⟩ ⟨(Nat.le_refl _), (Nat.le_refl _)⟩ (Nat.le_of_ble_eq_true rfl) rfl dX14_readThing_7 (ex_out C (by decide) rfl rfl (Nat.le_refl _) (Nat.le_refl _))
theorem t_X14_readThing_2 (C : Cx p l s m args meth c B0 X RX14 "readThing" cX14_readThing 2 none [])   : ∀ (n : Nat) {l0 : Nat} {l1 : Int32} {h : aH} (hs : s_X14_readThing_2  n l0 l1 h = some (r, h')), Ev p l e { frames := 16, cells := mc, slots := ms, locals := 346 } s m args below meth c D B0 X ws0 r h' mc ms 2 mc ms 2 [some (.ref l0), some (.int l1)] [] h
  | 0, _, _, _, hs => nomatch hs
  | n + 1, _, _, _, hs => t_X14_readThing_2_b C  (k2 := s_X14_readThing_2  n) (fun _ _ _ hs => t_X14_readThing_2 C  n hs) hs
theorem hy_X14_readThing : yX14_readThing.cls ≠ "java/lang/invoke/MethodHandle" ∧ yX14_readThing.cls ≠ "java/lang/invoke/VarHandle" ∧ (parseMethodDescriptor yX14_readThing.desc).map (fun d => d.parameters.length) = some 0 := by decide +kernel
theorem T_X14_readThing (o : Nat) (h : aH) (r : aR) (h' : aH) (hs : s_X14_readThing o h = some (r, h')) : Mt yX14_readThing (Cond.code yX14_readThing cX14_readThing 2 none :: aTB) 16 346 0 0 [.ref o] h r h' := by
  unfold s_X14_readThing at hs
  refine Mt_of (k := 1) (by decide) rfl (fun p l e s m args below meth c D B0 X ws0 C => ?_)
  show Ev p l e { frames := 16, cells := 0, slots := 0, locals := 346 } s m args below meth c D B0 X ws0 r h' 0 0 2 0 0 0 [some (.ref o), none] [] h
  refine ev_iconst C (v := 1) dX14_readThing_0 (by decide) ?_
  refine ev_istore_n C (by decide) dX14_readThing_1 ?_
  exact (t_X14_readThing_2 C  FU hs)
end
-- X14_feed
theorem dX14_feed_0 : decode cX14_feed 0 = .ok (.aload_n 0, 1) := by decide +kernel
theorem dX14_feed_1 : decode cX14_feed 1 = .ok (.iconst 0, 1) := by decide +kernel
theorem dX14_feed_2 : decode cX14_feed 2 = .ok (.putfield 154, 3) := by decide +kernel
theorem dX14_feed_5 : decode cX14_feed 5 = .ok (.aload_n 0, 1) := by decide +kernel
theorem dX14_feed_6 : decode cX14_feed 6 = .ok (.getfield 354, 3) := by decide +kernel
theorem dX14_feed_9 : decode cX14_feed 9 = .ok (.bipush 20, 2) := by decide +kernel
theorem dX14_feed_11 : decode cX14_feed 11 = .ok (.iadd, 1) := by decide +kernel
theorem dX14_feed_12 : decode cX14_feed 12 = .ok (.sipush 400, 3) := by decide +kernel
theorem dX14_feed_15 : decode cX14_feed 15 = .ok (.if_icmp .le 5, 3) := by decide +kernel
theorem dX14_feed_18 : decode cX14_feed 18 = .ok (.iconst (-1), 1) := by decide +kernel
theorem dX14_feed_19 : decode cX14_feed 19 = .ok (.ireturn, 1) := by decide +kernel
theorem dX14_feed_20 : decode cX14_feed 20 = .ok (.iconst 0, 1) := by decide +kernel
theorem dX14_feed_21 : decode cX14_feed 21 = .ok (.istore 6, 2) := by decide +kernel
theorem dX14_feed_23 : decode cX14_feed 23 = .ok (.iload 6, 2) := by decide +kernel
theorem dX14_feed_25 : decode cX14_feed 25 = .ok (.bipush 20, 2) := by decide +kernel
theorem dX14_feed_27 : decode cX14_feed 27 = .ok (.if_icmp .ge 90, 3) := by decide +kernel
theorem dX14_feed_30 : decode cX14_feed 30 = .ok (.iload 6, 2) := by decide +kernel
theorem dX14_feed_32 : decode cX14_feed 32 = .ok (.iconst 4, 1) := by decide +kernel
theorem dX14_feed_33 : decode cX14_feed 33 = .ok (.if_icmp .ge 7, 3) := by decide +kernel
theorem dX14_feed_36 : decode cX14_feed 36 = .ok (.iload_n 1, 1) := by decide +kernel
theorem dX14_feed_37 : decode cX14_feed 37 = .ok (.goto 39, 3) := by decide +kernel
theorem dX14_feed_40 : decode cX14_feed 40 = .ok (.iload 6, 2) := by decide +kernel
theorem dX14_feed_42 : decode cX14_feed 42 = .ok (.bipush 8, 2) := by decide +kernel
theorem dX14_feed_44 : decode cX14_feed 44 = .ok (.if_icmp .ge 7, 3) := by decide +kernel
theorem dX14_feed_47 : decode cX14_feed 47 = .ok (.iload_n 2, 1) := by decide +kernel
theorem dX14_feed_48 : decode cX14_feed 48 = .ok (.goto 28, 3) := by decide +kernel
theorem dX14_feed_51 : decode cX14_feed 51 = .ok (.iload 6, 2) := by decide +kernel
theorem dX14_feed_53 : decode cX14_feed 53 = .ok (.bipush 12, 2) := by decide +kernel
theorem dX14_feed_55 : decode cX14_feed 55 = .ok (.if_icmp .ge 7, 3) := by decide +kernel
theorem dX14_feed_58 : decode cX14_feed 58 = .ok (.iload_n 3, 1) := by decide +kernel
theorem dX14_feed_59 : decode cX14_feed 59 = .ok (.goto 17, 3) := by decide +kernel
theorem dX14_feed_62 : decode cX14_feed 62 = .ok (.iload 6, 2) := by decide +kernel
theorem dX14_feed_64 : decode cX14_feed 64 = .ok (.bipush 16, 2) := by decide +kernel
theorem dX14_feed_66 : decode cX14_feed 66 = .ok (.if_icmp .ge 8, 3) := by decide +kernel
theorem dX14_feed_69 : decode cX14_feed 69 = .ok (.iload 4, 2) := by decide +kernel
theorem dX14_feed_71 : decode cX14_feed 71 = .ok (.goto 5, 3) := by decide +kernel
theorem dX14_feed_74 : decode cX14_feed 74 = .ok (.iload 5, 2) := by decide +kernel
theorem dX14_feed_76 : decode cX14_feed 76 = .ok (.istore 7, 2) := by decide +kernel
theorem dX14_feed_78 : decode cX14_feed 78 = .ok (.aload_n 0, 1) := by decide +kernel
theorem dX14_feed_79 : decode cX14_feed 79 = .ok (.getfield 27, 3) := by decide +kernel
theorem dX14_feed_82 : decode cX14_feed 82 = .ok (.aload_n 0, 1) := by decide +kernel
theorem dX14_feed_83 : decode cX14_feed 83 = .ok (.getfield 354, 3) := by decide +kernel
theorem dX14_feed_86 : decode cX14_feed 86 = .ok (.iload 7, 2) := by decide +kernel
theorem dX14_feed_88 : decode cX14_feed 88 = .ok (.bipush 24, 2) := by decide +kernel
theorem dX14_feed_90 : decode cX14_feed 90 = .ok (.bipush 8, 2) := by decide +kernel
theorem dX14_feed_92 : decode cX14_feed 92 = .ok (.iload 6, 2) := by decide +kernel
theorem dX14_feed_94 : decode cX14_feed 94 = .ok (.iconst 4, 1) := by decide +kernel
theorem dX14_feed_95 : decode cX14_feed 95 = .ok (.irem, 1) := by decide +kernel
theorem dX14_feed_96 : decode cX14_feed 96 = .ok (.imul, 1) := by decide +kernel
theorem dX14_feed_97 : decode cX14_feed 97 = .ok (.isub, 1) := by decide +kernel
theorem dX14_feed_98 : decode cX14_feed 98 = .ok (.ishr, 1) := by decide +kernel
theorem dX14_feed_99 : decode cX14_feed 99 = .ok (.i2b, 1) := by decide +kernel
theorem dX14_feed_100 : decode cX14_feed 100 = .ok (.bastore, 1) := by decide +kernel
theorem dX14_feed_101 : decode cX14_feed 101 = .ok (.aload_n 0, 1) := by decide +kernel
theorem dX14_feed_102 : decode cX14_feed 102 = .ok (.dup, 1) := by decide +kernel
theorem dX14_feed_103 : decode cX14_feed 103 = .ok (.getfield 354, 3) := by decide +kernel
theorem dX14_feed_106 : decode cX14_feed 106 = .ok (.iconst 1, 1) := by decide +kernel
theorem dX14_feed_107 : decode cX14_feed 107 = .ok (.iadd, 1) := by decide +kernel
theorem dX14_feed_108 : decode cX14_feed 108 = .ok (.putfield 354, 3) := by decide +kernel
theorem dX14_feed_111 : decode cX14_feed 111 = .ok (.iinc 6 1, 3) := by decide +kernel
theorem dX14_feed_114 : decode cX14_feed 114 = .ok (.goto (-91), 3) := by decide +kernel
theorem dX14_feed_117 : decode cX14_feed 117 = .ok (.aload_n 0, 1) := by decide +kernel
theorem dX14_feed_118 : decode cX14_feed 118 = .ok (.getfield 354, 3) := by decide +kernel
theorem dX14_feed_121 : decode cX14_feed 121 = .ok (.ireturn, 1) := by decide +kernel
def s_X14_feed_76 (k23 : Nat → Int32 → Int32 → Int32 → Int32 → Int32 → Int32 → aH → aO) (l0 : Nat) (l1 : Int32) (l2 : Int32) (l3 : Int32) (l4 : Int32) (l5 : Int32) (l6 : Int32) (s0 : Int32) (h : aH) : aO :=
  (gO h (.ref l0) 14 8).bind fun x79 => (gI h (.ref l0) 14 9).bind fun x83 => nz 4 ((stN .byte h (.ref x79) x83 ((s0 >>> ((24 - (8 * (l6 - l6 / 4 * 4))) &&& 31)).toInt8.toInt32)).bind fun h100 => (gI h100 (.ref l0) 14 9).bind fun x103 => (pF h100 (.ref l0) 14 9 (.int (x103 + 1))).bind fun h108 => k23 l0 l1 l2 l3 l4 l5 (l6 + 1) h108)
def s_X14_feed_23_b  (k23 : Nat → Int32 → Int32 → Int32 → Int32 → Int32 → Int32 → aH → aO) (l0 : Nat) (l1 : Int32) (l2 : Int32) (l3 : Int32) (l4 : Int32) (l5 : Int32) (l6 : Int32) (h : aH) : aO :=
  if 20 ≤ l6 then ((gI h (.ref l0) 14 9).bind fun x118 => some (.inl (some (.int x118)), h)) else (if 4 ≤ l6 then (if 8 ≤ l6 then (if 12 ≤ l6 then (if 16 ≤ l6 then (s_X14_feed_76 k23 l0 l1 l2 l3 l4 l5 l6 l5 h) else (s_X14_feed_76 k23 l0 l1 l2 l3 l4 l5 l6 l4 h)) else (s_X14_feed_76 k23 l0 l1 l2 l3 l4 l5 l6 l3 h)) else (s_X14_feed_76 k23 l0 l1 l2 l3 l4 l5 l6 l2 h)) else (s_X14_feed_76 k23 l0 l1 l2 l3 l4 l5 l6 l1 h))
def s_X14_feed_23  (n : Nat) : Nat → Int32 → Int32 → Int32 → Int32 → Int32 → Int32 → aH → aO := lpF (fun _ _ _ _ _ _ _ _ => none) (s_X14_feed_23_b ) n
def s_X14_feed (o : Nat) (a1 : Int32) (a2 : Int32) (a3 : Int32) (a4 : Int32) (a5 : Int32) (h : aH) : aO :=
  (pF h (.ref o) 14 0 (.int 0)).bind fun h2 => (gI h2 (.ref o) 14 9).bind fun x6 => if (x6 + 20) ≤ 400 then (s_X14_feed_23 FU o a1 a2 a3 a4 a5 0 h2) else (some (.inl (some (.int (-1))), h2))
section
variable {p : Program} {l : Launch} {e : Env} {s : State} {m : MethodId} {args : Array Value} {below : List Frame} {meth : Method} {c : Code} {D : va_G} {B0 : Nat} {X : Nat → Nat} {ws0 : va_W} {r : aR} {h' : aH} {mc ms : Nat}
theorem t_X14_feed_76 (C : Cx p l s m args meth c B0 X RX14 "feed" cX14_feed 8 (some .int) []) {k23 : Nat → Int32 → Int32 → Int32 → Int32 → Int32 → Int32 → aH → aO} (K23 : ∀ (l0 : Nat) (l1 : Int32) (l2 : Int32) (l3 : Int32) (l4 : Int32) (l5 : Int32) (l6 : Int32) (h : aH), k23 l0 l1 l2 l3 l4 l5 l6 h = some (r, h') → Ev p l e { frames := 0, cells := mc, slots := ms, locals := 0 } s m args below meth c D B0 X ws0 r h' mc ms 8 mc ms 23 [some (.ref l0), some (.int l1), some (.int l2), some (.int l3), some (.int l4), some (.int l5), some (.int l6), none] [] h) {l0 : Nat} {l1 : Int32} {l2 : Int32} {l3 : Int32} {l4 : Int32} {l5 : Int32} {l6 : Int32} {s0 : Int32} {h : aH} (hs : s_X14_feed_76 k23 l0 l1 l2 l3 l4 l5 l6 s0 h = some (r, h')) : Ev p l e { frames := 0, cells := mc, slots := ms, locals := 0 } s m args below meth c D B0 X ws0 r h' mc ms 8 mc ms 76 [some (.ref l0), some (.int l1), some (.int l2), some (.int l3), some (.int l4), some (.int l5), some (.int l6), none] [.int s0] h := by
  unfold s_X14_feed_76 at hs
  refine ev_istore C (by decide) dX14_feed_76 ?_
  refine ev_aload_n C (x := .ref l0) rfl trivial dX14_feed_78 ?_
  obtain ⟨x79, e79, hs⟩ := aB hs
  refine ev_get C (ci := 14) (k := 8) rfl wu_14 (by decide) wf_X14_27 (gO_F e79) dX14_feed_79 ?_
  refine ev_aload_n C (x := .ref l0) rfl trivial dX14_feed_82 ?_
  obtain ⟨x83, e83, hs⟩ := aB hs
  refine ev_get C (ci := 14) (k := 9) rfl wu_14 (by decide) wf_X14_354 (gI_F e83) dX14_feed_83 ?_
  refine ev_iload C rfl dX14_feed_86 ?_
  refine ev_bipush C (v := 24) dX14_feed_88 (by decide) ?_
  refine ev_bipush C (v := 8) dX14_feed_90 (by decide) ?_
  refine ev_iload C rfl dX14_feed_92 ?_
  refine ev_iconst C (v := 4) dX14_feed_94 (by decide) ?_
  obtain ⟨n95, hs⟩ := nz_at hs
  refine ev_irem C n95 dX14_feed_95 ?_
  refine ev_imul C dX14_feed_96 ?_
  refine ev_isub C dX14_feed_97 ?_
  refine ev_ishr C dX14_feed_98 ?_
  refine ev_i2b C dX14_feed_99 ?_
  obtain ⟨h100, e100, hs⟩ := aB hs
  refine ev_bast C e100 dX14_feed_100 ?_
  refine ev_aload_n C (x := .ref l0) rfl trivial dX14_feed_101 ?_
  refine ev_dup C rfl dX14_feed_102 ?_
  obtain ⟨x103, e103, hs⟩ := aB hs
  refine ev_get C (ci := 14) (k := 9) rfl wu_14 (by decide) wf_X14_354 (gI_F e103) dX14_feed_103 ?_
  refine ev_iconst C (v := 1) dX14_feed_106 (by decide) ?_
  refine ev_iadd C dX14_feed_107 ?_
  obtain ⟨h108, e108, hs⟩ := aB hs
  refine ev_put C (ci := 14) (k := 9) rfl wu_14 (by decide) tyX14 tyX14_ok nmX14 wf_X14_354 rfl trivial e108 dX14_feed_108 ?_
  refine ev_iinc C (i := 6) (n := 1) (x := l6) (v := l6 + 1) rfl (congrArg (fun z => l6 + z) (show Int32.ofInt 1 = 1 by decide)) (by decide) dX14_feed_111 ?_
  refine ev_goto C (tgt := 23) (by decide) dX14_feed_114 ?_
  exact Ev.keep [true, true, true, true, true, true, true, false] (K23 _ _ _ _ _ _ _ _ hs)
theorem t_X14_feed_23_b (C : Cx p l s m args meth c B0 X RX14 "feed" cX14_feed 8 (some .int) [])   {k23 : Nat → Int32 → Int32 → Int32 → Int32 → Int32 → Int32 → aH → aO} (K23 : ∀ (l0 : Nat) (l1 : Int32) (l2 : Int32) (l3 : Int32) (l4 : Int32) (l5 : Int32) (l6 : Int32) (h : aH), k23 l0 l1 l2 l3 l4 l5 l6 h = some (r, h') → Ev p l e { frames := 0, cells := mc, slots := ms, locals := 0 } s m args below meth c D B0 X ws0 r h' mc ms 8 mc ms 23 [some (.ref l0), some (.int l1), some (.int l2), some (.int l3), some (.int l4), some (.int l5), some (.int l6), none] [] h) {l0 : Nat} {l1 : Int32} {l2 : Int32} {l3 : Int32} {l4 : Int32} {l5 : Int32} {l6 : Int32} {h : aH} (hs : s_X14_feed_23_b  k23 l0 l1 l2 l3 l4 l5 l6 h = some (r, h')) : Ev p l e { frames := 0, cells := mc, slots := ms, locals := 0 } s m args below meth c D B0 X ws0 r h' mc ms 8 mc ms 23 [some (.ref l0), some (.int l1), some (.int l2), some (.int l3), some (.int l4), some (.int l5), some (.int l6), none] [] h := by
  unfold s_X14_feed_23_b at hs
  refine ev_iload C rfl dX14_feed_23 ?_
  refine ev_bipush C (v := 20) dX14_feed_25 (by decide) ?_
  refine ev_icmp_ge C (tgt := 117) (by decide) dX14_feed_27 (fun q27 => ?_) (fun q27 => ?_)
  · replace hs := (if_pos q27).symm.trans hs
    refine ev_aload_n C (x := .ref l0) rfl trivial dX14_feed_117 ?_
    obtain ⟨x118, e118, hs⟩ := aB hs
    refine ev_get C (ci := 14) (k := 9) rfl wu_14 (by decide) wf_X14_354 (gI_F e118) dX14_feed_118 ?_
    cases hs
    exact ev_iret C rfl rfl (Nat.le_refl _) (Nat.le_refl _) rfl dX14_feed_121
  · replace hs := (if_neg q27).symm.trans hs
    refine ev_iload C rfl dX14_feed_30 ?_
    refine ev_iconst C (v := 4) dX14_feed_32 (by decide) ?_
    refine ev_icmp_ge C (tgt := 40) (by decide) dX14_feed_33 (fun q33 => ?_) (fun q33 => ?_)
    · replace hs := (if_pos q33).symm.trans hs
      refine ev_iload C rfl dX14_feed_40 ?_
      refine ev_bipush C (v := 8) dX14_feed_42 (by decide) ?_
      refine ev_icmp_ge C (tgt := 51) (by decide) dX14_feed_44 (fun q44 => ?_) (fun q44 => ?_)
      · replace hs := (if_pos q44).symm.trans hs
        refine ev_iload C rfl dX14_feed_51 ?_
        refine ev_bipush C (v := 12) dX14_feed_53 (by decide) ?_
        refine ev_icmp_ge C (tgt := 62) (by decide) dX14_feed_55 (fun q55 => ?_) (fun q55 => ?_)
        · replace hs := (if_pos q55).symm.trans hs
          refine ev_iload C rfl dX14_feed_62 ?_
          refine ev_bipush C (v := 16) dX14_feed_64 (by decide) ?_
          refine ev_icmp_ge C (tgt := 74) (by decide) dX14_feed_66 (fun q66 => ?_) (fun q66 => ?_)
          · replace hs := (if_pos q66).symm.trans hs
            refine ev_iload C rfl dX14_feed_74 ?_
            exact (t_X14_feed_76 C K23 hs)
          · replace hs := (if_neg q66).symm.trans hs
            refine ev_iload C rfl dX14_feed_69 ?_
            refine ev_goto C (tgt := 76) (by decide) dX14_feed_71 ?_
            exact (t_X14_feed_76 C K23 hs)
        · replace hs := (if_neg q55).symm.trans hs
          refine ev_iload_n C rfl dX14_feed_58 ?_
          refine ev_goto C (tgt := 76) (by decide) dX14_feed_59 ?_
          exact (t_X14_feed_76 C K23 hs)
      · replace hs := (if_neg q44).symm.trans hs
        refine ev_iload_n C rfl dX14_feed_47 ?_
        refine ev_goto C (tgt := 76) (by decide) dX14_feed_48 ?_
        exact (t_X14_feed_76 C K23 hs)
    · replace hs := (if_neg q33).symm.trans hs
      refine ev_iload_n C rfl dX14_feed_36 ?_
      refine ev_goto C (tgt := 76) (by decide) dX14_feed_37 ?_
      exact (t_X14_feed_76 C K23 hs)
theorem t_X14_feed_23 (C : Cx p l s m args meth c B0 X RX14 "feed" cX14_feed 8 (some .int) [])   : ∀ (n : Nat) {l0 : Nat} {l1 : Int32} {l2 : Int32} {l3 : Int32} {l4 : Int32} {l5 : Int32} {l6 : Int32} {h : aH} (hs : s_X14_feed_23  n l0 l1 l2 l3 l4 l5 l6 h = some (r, h')), Ev p l e { frames := 0, cells := mc, slots := ms, locals := 0 } s m args below meth c D B0 X ws0 r h' mc ms 8 mc ms 23 [some (.ref l0), some (.int l1), some (.int l2), some (.int l3), some (.int l4), some (.int l5), some (.int l6), none] [] h
  | 0, _, _, _, _, _, _, _, _, hs => nomatch hs
  | n + 1, _, _, _, _, _, _, _, _, hs => t_X14_feed_23_b C  (k23 := s_X14_feed_23  n) (fun _ _ _ _ _ _ _ _ hs => t_X14_feed_23 C  n hs) hs
theorem hy_X14_feed : yX14_feed.cls ≠ "java/lang/invoke/MethodHandle" ∧ yX14_feed.cls ≠ "java/lang/invoke/VarHandle" ∧ (parseMethodDescriptor yX14_feed.desc).map (fun d => d.parameters.length) = some 5 := by decide +kernel
theorem T_X14_feed (o : Nat) (a1 : Int32) (a2 : Int32) (a3 : Int32) (a4 : Int32) (a5 : Int32) (h : aH) (r : aR) (h' : aH) (hs : s_X14_feed o a1 a2 a3 a4 a5 h = some (r, h')) : Mt yX14_feed (Cond.code yX14_feed cX14_feed 8 (some .int) :: aTB) 0 0 0 0 [.ref o, .int a1, .int a2, .int a3, .int a4, .int a5] h r h' := by
  unfold s_X14_feed at hs
  refine Mt_of (k := 2) (by decide) rfl (fun p l e s m args below meth c D B0 X ws0 C => ?_)
  show Ev p l e { frames := 0, cells := 0, slots := 0, locals := 0 } s m args below meth c D B0 X ws0 r h' 0 0 8 0 0 0 [some (.ref o), some (.int a1), some (.int a2), some (.int a3), some (.int a4), some (.int a5), none, none] [] h
  refine ev_aload_n C (x := .ref o) rfl trivial dX14_feed_0 ?_
  refine ev_iconst C (v := 0) dX14_feed_1 (by decide) ?_
  obtain ⟨h2, e2, hs⟩ := aB hs
  refine ev_put C (ci := 14) (k := 0) rfl wu_14 (by decide) tyX14 tyX14_ok nmX14 wf_X14_154 rfl trivial e2 dX14_feed_2 ?_
  refine ev_aload_n C (x := .ref o) rfl trivial dX14_feed_5 ?_
  obtain ⟨x6, e6, hs⟩ := aB hs
  refine ev_get C (ci := 14) (k := 9) rfl wu_14 (by decide) wf_X14_354 (gI_F e6) dX14_feed_6 ?_
  refine ev_bipush C (v := 20) dX14_feed_9 (by decide) ?_
  refine ev_iadd C dX14_feed_11 ?_
  refine ev_sipush C (v := 400) dX14_feed_12 (by decide) ?_
  refine ev_icmp_le C (tgt := 20) (by decide) dX14_feed_15 (fun q15 => ?_) (fun q15 => ?_)
  · replace hs := (if_pos q15).symm.trans hs
    refine ev_iconst C (v := 0) dX14_feed_20 (by decide) ?_
    refine ev_istore C (by decide) dX14_feed_21 ?_
    exact (t_X14_feed_23 C  FU hs)
  · replace hs := (if_neg q15).symm.trans hs
    refine ev_iconst C (v := (-1)) dX14_feed_18 (by decide) ?_
    cases hs
    exact ev_iret C rfl rfl (Nat.le_refl _) (Nat.le_refl _) rfl dX14_feed_19
end
-- X14_begins
theorem dX14_begins_0 : decode cX14_begins 0 = .ok (.aload_n 0, 1) := by decide +kernel
theorem dX14_begins_1 : decode cX14_begins 1 = .ok (.iload_n 1, 1) := by decide +kernel
theorem dX14_begins_2 : decode cX14_begins 2 = .ok (.putfield 174, 3) := by decide +kernel
theorem dX14_begins_5 : decode cX14_begins 5 = .ok (.aload_n 0, 1) := by decide +kernel
theorem dX14_begins_6 : decode cX14_begins 6 = .ok (.iconst 0, 1) := by decide +kernel
theorem dX14_begins_7 : decode cX14_begins 7 = .ok (.putfield 354, 3) := by decide +kernel
theorem dX14_begins_10 : decode cX14_begins 10 = .ok (.aload_n 0, 1) := by decide +kernel
theorem dX14_begins_11 : decode cX14_begins 11 = .ok (.iconst 0, 1) := by decide +kernel
theorem dX14_begins_12 : decode cX14_begins 12 = .ok (.putfield 189, 3) := by decide +kernel
theorem dX14_begins_15 : decode cX14_begins 15 = .ok (.aload_n 0, 1) := by decide +kernel
theorem dX14_begins_16 : decode cX14_begins 16 = .ok (.iconst 0, 1) := by decide +kernel
theorem dX14_begins_17 : decode cX14_begins 17 = .ok (.putfield 357, 3) := by decide +kernel
theorem dX14_begins_20 : decode cX14_begins 20 = .ok (.aload_n 0, 1) := by decide +kernel
theorem dX14_begins_21 : decode cX14_begins 21 = .ok (.iconst 0, 1) := by decide +kernel
theorem dX14_begins_22 : decode cX14_begins 22 = .ok (.putfield 351, 3) := by decide +kernel
theorem dX14_begins_25 : decode cX14_begins 25 = .ok (.aload_n 0, 1) := by decide +kernel
theorem dX14_begins_26 : decode cX14_begins 26 = .ok (.invokevirtual 263, 3) := by decide +kernel
theorem dX14_begins_29 : decode cX14_begins 29 = .ok (.return_, 1) := by decide +kernel
def s_X14_begins (o : Nat) (a1 : Int32) (h : aH) : aO :=
  (pF h (.ref o) 14 10 (.int a1)).bind fun h2 => (pF h2 (.ref o) 14 9 (.int 0)).bind fun h7 => (pF h7 (.ref o) 14 11 (.int 0)).bind fun h12 => (pF h12 (.ref o) 14 3 (.int 0)).bind fun h17 => (pF h17 (.ref o) 14 16 (.int 0)).bind fun h22 => kO h22 o 14 (cN (s_X14_next o h22) fun h26 => some (.inl none, h26))
section
variable {p : Program} {l : Launch} {e : Env} {s : State} {m : MethodId} {args : Array Value} {below : List Frame} {meth : Method} {c : Code} {D : va_G} {B0 : Nat} {X : Nat → Nat} {ws0 : va_W} {r : aR} {h' : aH} {mc ms : Nat}
theorem hy_X14_begins : yX14_begins.cls ≠ "java/lang/invoke/MethodHandle" ∧ yX14_begins.cls ≠ "java/lang/invoke/VarHandle" ∧ (parseMethodDescriptor yX14_begins.desc).map (fun d => d.parameters.length) = some 1 := by decide +kernel
theorem T_X14_begins (o : Nat) (a1 : Int32) (h : aH) (r : aR) (h' : aH) (hs : s_X14_begins o a1 h = some (r, h')) : Mt yX14_begins (Cond.code yX14_begins cX14_begins 2 none :: aTB) 2 43 0 0 [.ref o, .int a1] h r h' := by
  unfold s_X14_begins at hs
  refine Mt_of (k := 0) (by decide) rfl (fun p l e s m args below meth c D B0 X ws0 C => ?_)
  show Ev p l e { frames := 2, cells := 0, slots := 0, locals := 43 } s m args below meth c D B0 X ws0 r h' 0 0 2 0 0 0 [some (.ref o), some (.int a1)] [] h
  refine ev_aload_n C (x := .ref o) rfl trivial dX14_begins_0 ?_
  refine ev_iload_n C rfl dX14_begins_1 ?_
  obtain ⟨h2, e2, hs⟩ := aB hs
  refine ev_put C (ci := 14) (k := 10) rfl wu_14 (by decide) tyX14 tyX14_ok nmX14 wf_X14_174 rfl trivial e2 dX14_begins_2 ?_
  refine ev_aload_n C (x := .ref o) rfl trivial dX14_begins_5 ?_
  refine ev_iconst C (v := 0) dX14_begins_6 (by decide) ?_
  obtain ⟨h7, e7, hs⟩ := aB hs
  refine ev_put C (ci := 14) (k := 9) rfl wu_14 (by decide) tyX14 tyX14_ok nmX14 wf_X14_354 rfl trivial e7 dX14_begins_7 ?_
  refine ev_aload_n C (x := .ref o) rfl trivial dX14_begins_10 ?_
  refine ev_iconst C (v := 0) dX14_begins_11 (by decide) ?_
  obtain ⟨h12, e12, hs⟩ := aB hs
  refine ev_put C (ci := 14) (k := 11) rfl wu_14 (by decide) tyX14 tyX14_ok nmX14 wf_X14_189 rfl trivial e12 dX14_begins_12 ?_
  refine ev_aload_n C (x := .ref o) rfl trivial dX14_begins_15 ?_
  refine ev_iconst C (v := 0) dX14_begins_16 (by decide) ?_
  obtain ⟨h17, e17, hs⟩ := aB hs
  refine ev_put C (ci := 14) (k := 3) rfl wu_14 (by decide) tyX14 tyX14_ok nmX14 wf_X14_357 rfl trivial e17 dX14_begins_17 ?_
  refine ev_aload_n C (x := .ref o) rfl trivial dX14_begins_20 ?_
  refine ev_iconst C (v := 0) dX14_begins_21 (by decide) ?_
  obtain ⟨h22, e22, hs⟩ := aB hs
  refine ev_put C (ci := 14) (k := 16) rfl wu_14 (by decide) tyX14 tyX14_ok nmX14 wf_X14_351 rfl trivial e22 dX14_begins_22 ?_
  refine ev_aload_n C (x := .ref o) rfl trivial dX14_begins_25 ?_
  obtain ⟨eo26, hs⟩ := kO_at hs
  obtain ⟨h26, e26, hs⟩ := cN_at hs
  refine ev_callV C (T_X14_next _ _ _ _ e26) (ci := 14) rfl eo26 wc_X14_next wm_X14_263 wi_X14_next ws_X14_next wz_X14 hy_X14_next ⟨(Nat.le_of_ble_eq_true rfl), (Nat.le_of_ble_eq_true rfl)⟩ ⟨(Nat.le_refl _), (Nat.le_refl _)⟩ (Nat.le_of_ble_eq_true rfl) rfl dX14_begins_26 ?_
  cases hs
  exact ev_vret C rfl rfl (Nat.le_refl _) (Nat.le_refl _) rfl dX14_begins_29
end
-- X14_faulty
theorem dX14_faulty_0 : decode cX14_faulty 0 = .ok (.aload_n 0, 1) := by decide +kernel
theorem dX14_faulty_1 : decode cX14_faulty 1 = .ok (.aload_n 1, 1) := by decide +kernel
theorem dX14_faulty_2 : decode cX14_faulty 2 = .ok (.getfield 163, 3) := by decide +kernel
theorem dX14_faulty_5 : decode cX14_faulty 5 = .ok (.putfield 357, 3) := by decide +kernel
theorem dX14_faulty_8 : decode cX14_faulty 8 = .ok (.aload_n 0, 1) := by decide +kernel
theorem dX14_faulty_9 : decode cX14_faulty 9 = .ok (.iconst 4, 1) := by decide +kernel
theorem dX14_faulty_10 : decode cX14_faulty 10 = .ok (.putfield 157, 3) := by decide +kernel
theorem dX14_faulty_13 : decode cX14_faulty 13 = .ok (.aload_n 0, 1) := by decide +kernel
theorem dX14_faulty_14 : decode cX14_faulty 14 = .ok (.aload_n 1, 1) := by decide +kernel
theorem dX14_faulty_15 : decode cX14_faulty 15 = .ok (.getfield 166, 3) := by decide +kernel
theorem dX14_faulty_18 : decode cX14_faulty 18 = .ok (.putfield 9, 3) := by decide +kernel
theorem dX14_faulty_21 : decode cX14_faulty 21 = .ok (.iconst (-1), 1) := by decide +kernel
theorem dX14_faulty_22 : decode cX14_faulty 22 = .ok (.ireturn, 1) := by decide +kernel
def s_X14_faulty (o : Nat) (a1 : Nat) (h : aH) : aO :=
  (gI h (.ref a1) 12 6).bind fun x2 => (pF h (.ref o) 14 3 (.int x2)).bind fun h5 => (pF h5 (.ref o) 14 1 (.int 4)).bind fun h10 => (gI h10 (.ref a1) 12 7).bind fun x15 => (pF h10 (.ref o) 14 2 (.int x15)).bind fun h18 => some (.inl (some (.int (-1))), h18)
section
variable {p : Program} {l : Launch} {e : Env} {s : State} {m : MethodId} {args : Array Value} {below : List Frame} {meth : Method} {c : Code} {D : va_G} {B0 : Nat} {X : Nat → Nat} {ws0 : va_W} {r : aR} {h' : aH} {mc ms : Nat}
theorem hy_X14_faulty : yX14_faulty.cls ≠ "java/lang/invoke/MethodHandle" ∧ yX14_faulty.cls ≠ "java/lang/invoke/VarHandle" ∧ (parseMethodDescriptor yX14_faulty.desc).map (fun d => d.parameters.length) = some 1 := by decide +kernel
theorem T_X14_faulty (o : Nat) (a1 : Nat) (h : aH) (r : aR) (h' : aH) (hs : s_X14_faulty o a1 h = some (r, h')) : Mt yX14_faulty (Cond.code yX14_faulty cX14_faulty 2 (some .int) :: aTB) 0 0 0 0 [.ref o, .ref a1] h r h' := by
  unfold s_X14_faulty at hs
  refine Mt_of (k := 0) (by decide) rfl (fun p l e s m args below meth c D B0 X ws0 C => ?_)
  show Ev p l e { frames := 0, cells := 0, slots := 0, locals := 0 } s m args below meth c D B0 X ws0 r h' 0 0 2 0 0 0 [some (.ref o), some (.ref a1)] [] h
  refine ev_aload_n C (x := .ref o) rfl trivial dX14_faulty_0 ?_
  refine ev_aload_n C (x := .ref a1) rfl trivial dX14_faulty_1 ?_
  obtain ⟨x2, e2, hs⟩ := aB hs
  refine ev_getN C (ci := 12) (k := 6) rfl wu_12 (by decide) wg_X14_163 (gI_F e2) dX14_faulty_2 ?_
  obtain ⟨h5, e5, hs⟩ := aB hs
  refine ev_put C (ci := 14) (k := 3) rfl wu_14 (by decide) tyX14 tyX14_ok nmX14 wf_X14_357 rfl trivial e5 dX14_faulty_5 ?_
  refine ev_aload_n C (x := .ref o) rfl trivial dX14_faulty_8 ?_
  refine ev_iconst C (v := 4) dX14_faulty_9 (by decide) ?_
  obtain ⟨h10, e10, hs⟩ := aB hs
  refine ev_put C (ci := 14) (k := 1) rfl wu_14 (by decide) tyX14 tyX14_ok nmX14 wf_X14_157 rfl trivial e10 dX14_faulty_10 ?_
  refine ev_aload_n C (x := .ref o) rfl trivial dX14_faulty_13 ?_
  refine ev_aload_n C (x := .ref a1) rfl trivial dX14_faulty_14 ?_
  obtain ⟨x15, e15, hs⟩ := aB hs
  refine ev_getN C (ci := 12) (k := 7) rfl wu_12 (by decide) wg_X14_166 (gI_F e15) dX14_faulty_15 ?_
  obtain ⟨h18, e18, hs⟩ := aB hs
  refine ev_put C (ci := 14) (k := 2) rfl wu_14 (by decide) tyX14 tyX14_ok nmX14 wf_X14_9 rfl trivial e18 dX14_faulty_18 ?_
  refine ev_iconst C (v := (-1)) dX14_faulty_21 (by decide) ?_
  cases hs
  exact ev_iret C rfl rfl (Nat.le_refl _) (Nat.le_refl _) rfl dX14_faulty_22
end
-- X14_forgets
theorem dX14_forgets_0 : decode cX14_forgets 0 = .ok (.aload_n 0, 1) := by decide +kernel
theorem dX14_forgets_1 : decode cX14_forgets 1 = .ok (.iconst 0, 1) := by decide +kernel
theorem dX14_forgets_2 : decode cX14_forgets 2 = .ok (.putfield 471, 3) := by decide +kernel
theorem dX14_forgets_5 : decode cX14_forgets 5 = .ok (.iconst 0, 1) := by decide +kernel
theorem dX14_forgets_6 : decode cX14_forgets 6 = .ok (.istore_n 1, 1) := by decide +kernel
theorem dX14_forgets_7 : decode cX14_forgets 7 = .ok (.iload_n 1, 1) := by decide +kernel
theorem dX14_forgets_8 : decode cX14_forgets 8 = .ok (.bipush 62, 2) := by decide +kernel
theorem dX14_forgets_10 : decode cX14_forgets 10 = .ok (.if_icmp .ge 16, 3) := by decide +kernel
theorem dX14_forgets_13 : decode cX14_forgets 13 = .ok (.aload_n 0, 1) := by decide +kernel
theorem dX14_forgets_14 : decode cX14_forgets 14 = .ok (.getfield 136, 3) := by decide +kernel
theorem dX14_forgets_17 : decode cX14_forgets 17 = .ok (.iload_n 1, 1) := by decide +kernel
theorem dX14_forgets_18 : decode cX14_forgets 18 = .ok (.iconst (-1), 1) := by decide +kernel
theorem dX14_forgets_19 : decode cX14_forgets 19 = .ok (.iastore, 1) := by decide +kernel
theorem dX14_forgets_20 : decode cX14_forgets 20 = .ok (.iinc 1 1, 3) := by decide +kernel
theorem dX14_forgets_23 : decode cX14_forgets 23 = .ok (.goto (-16), 3) := by decide +kernel
theorem dX14_forgets_26 : decode cX14_forgets 26 = .ok (.return_, 1) := by decide +kernel
def s_X14_forgets_7_b  (k7 : Nat → Int32 → aH → aO) (l0 : Nat) (l1 : Int32) (h : aH) : aO :=
  if 62 ≤ l1 then (some (.inl none, h)) else ((gO h (.ref l0) 14 62).bind fun x14 => (stI h (.ref x14) l1 (-1)).bind fun h19 => k7 l0 (l1 + 1) h19)
def s_X14_forgets_7  (n : Nat) : Nat → Int32 → aH → aO := lpF (fun _ _ _ => none) (s_X14_forgets_7_b ) n
def s_X14_forgets (o : Nat) (h : aH) : aO :=
  (pF h (.ref o) 14 59 (.int 0)).bind fun h2 => s_X14_forgets_7 FU o 0 h2
section
variable {p : Program} {l : Launch} {e : Env} {s : State} {m : MethodId} {args : Array Value} {below : List Frame} {meth : Method} {c : Code} {D : va_G} {B0 : Nat} {X : Nat → Nat} {ws0 : va_W} {r : aR} {h' : aH} {mc ms : Nat}
theorem t_X14_forgets_7_b (C : Cx p l s m args meth c B0 X RX14 "forgets" cX14_forgets 2 none [])   {k7 : Nat → Int32 → aH → aO} (K7 : ∀ (l0 : Nat) (l1 : Int32) (h : aH), k7 l0 l1 h = some (r, h') → Ev p l e { frames := 0, cells := mc, slots := ms, locals := 0 } s m args below meth c D B0 X ws0 r h' mc ms 2 mc ms 7 [some (.ref l0), some (.int l1)] [] h) {l0 : Nat} {l1 : Int32} {h : aH} (hs : s_X14_forgets_7_b  k7 l0 l1 h = some (r, h')) : Ev p l e { frames := 0, cells := mc, slots := ms, locals := 0 } s m args below meth c D B0 X ws0 r h' mc ms 2 mc ms 7 [some (.ref l0), some (.int l1)] [] h := by
  unfold s_X14_forgets_7_b at hs
  refine ev_iload_n C rfl dX14_forgets_7 ?_
  refine ev_bipush C (v := 62) dX14_forgets_8 (by decide) ?_
  refine ev_icmp_ge C (tgt := 26) (by decide) dX14_forgets_10 (fun q10 => ?_) (fun q10 => ?_)
  · replace hs := (if_pos q10).symm.trans hs
    cases hs
    exact ev_vret C rfl rfl (Nat.le_refl _) (Nat.le_refl _) rfl dX14_forgets_26
  · replace hs := (if_neg q10).symm.trans hs
    refine ev_aload_n C (x := .ref l0) rfl trivial dX14_forgets_13 ?_
    obtain ⟨x14, e14, hs⟩ := aB hs
    refine ev_get C (ci := 14) (k := 62) rfl wu_14 (by decide) wf_X14_136 (gO_F e14) dX14_forgets_14 ?_
    refine ev_iload_n C rfl dX14_forgets_17 ?_
    refine ev_iconst C (v := (-1)) dX14_forgets_18 (by decide) ?_
    obtain ⟨h19, e19, hs⟩ := aB hs
    refine ev_iast C e19 dX14_forgets_19 ?_
    refine ev_iinc C (i := 1) (n := 1) (x := l1) (v := l1 + 1) rfl (congrArg (fun z => l1 + z) (show Int32.ofInt 1 = 1 by decide)) (by decide) dX14_forgets_20 ?_
    refine ev_goto C (tgt := 7) (by decide) dX14_forgets_23 ?_
    exact (K7 _ _ _ hs)
theorem t_X14_forgets_7 (C : Cx p l s m args meth c B0 X RX14 "forgets" cX14_forgets 2 none [])   : ∀ (n : Nat) {l0 : Nat} {l1 : Int32} {h : aH} (hs : s_X14_forgets_7  n l0 l1 h = some (r, h')), Ev p l e { frames := 0, cells := mc, slots := ms, locals := 0 } s m args below meth c D B0 X ws0 r h' mc ms 2 mc ms 7 [some (.ref l0), some (.int l1)] [] h
  | 0, _, _, _, hs => nomatch hs
  | n + 1, _, _, _, hs => t_X14_forgets_7_b C  (k7 := s_X14_forgets_7  n) (fun _ _ _ hs => t_X14_forgets_7 C  n hs) hs
theorem hy_X14_forgets : yX14_forgets.cls ≠ "java/lang/invoke/MethodHandle" ∧ yX14_forgets.cls ≠ "java/lang/invoke/VarHandle" ∧ (parseMethodDescriptor yX14_forgets.desc).map (fun d => d.parameters.length) = some 0 := by decide +kernel
theorem T_X14_forgets (o : Nat) (h : aH) (r : aR) (h' : aH) (hs : s_X14_forgets o h = some (r, h')) : Mt yX14_forgets (Cond.code yX14_forgets cX14_forgets 2 none :: aTB) 0 0 0 0 [.ref o] h r h' := by
  unfold s_X14_forgets at hs
  refine Mt_of (k := 1) (by decide) rfl (fun p l e s m args below meth c D B0 X ws0 C => ?_)
  show Ev p l e { frames := 0, cells := 0, slots := 0, locals := 0 } s m args below meth c D B0 X ws0 r h' 0 0 2 0 0 0 [some (.ref o), none] [] h
  refine ev_aload_n C (x := .ref o) rfl trivial dX14_forgets_0 ?_
  refine ev_iconst C (v := 0) dX14_forgets_1 (by decide) ?_
  obtain ⟨h2, e2, hs⟩ := aB hs
  refine ev_put C (ci := 14) (k := 59) rfl wu_14 (by decide) tyX14 tyX14_ok nmX14 wf_X14_471 rfl trivial e2 dX14_forgets_2 ?_
  refine ev_iconst C (v := 0) dX14_forgets_5 (by decide) ?_
  refine ev_istore_n C (by decide) dX14_forgets_6 ?_
  exact (t_X14_forgets_7 C  FU hs)
end
-- X14_spreads
theorem dX14_spreads_0 : decode cX14_spreads 0 = .ok (.iload_n 2, 1) := by decide +kernel
theorem dX14_spreads_1 : decode cX14_spreads 1 = .ok (.istore_n 3, 1) := by decide +kernel
theorem dX14_spreads_2 : decode cX14_spreads 2 = .ok (.aload_n 0, 1) := by decide +kernel
theorem dX14_spreads_3 : decode cX14_spreads 3 = .ok (.getfield 376, 3) := by decide +kernel
theorem dX14_spreads_6 : decode cX14_spreads 6 = .ok (.getfield 252, 3) := by decide +kernel
theorem dX14_spreads_9 : decode cX14_spreads 9 = .ok (.iload_n 1, 1) := by decide +kernel
theorem dX14_spreads_10 : decode cX14_spreads 10 = .ok (.iaload, 1) := by decide +kernel
theorem dX14_spreads_11 : decode cX14_spreads 11 = .ok (.iconst 1, 1) := by decide +kernel
theorem dX14_spreads_12 : decode cX14_spreads 12 = .ok (.isub, 1) := by decide +kernel
theorem dX14_spreads_13 : decode cX14_spreads 13 = .ok (.istore 4, 2) := by decide +kernel
theorem dX14_spreads_15 : decode cX14_spreads 15 = .ok (.iload 4, 2) := by decide +kernel
theorem dX14_spreads_17 : decode cX14_spreads 17 = .ok (.ifCond .lt 59, 3) := by decide +kernel
theorem dX14_spreads_20 : decode cX14_spreads 20 = .ok (.iload_n 1, 1) := by decide +kernel
theorem dX14_spreads_21 : decode cX14_spreads 21 = .ok (.invokestatic 246, 3) := by decide +kernel
theorem dX14_spreads_24 : decode cX14_spreads 24 = .ok (.iload 4, 2) := by decide +kernel
theorem dX14_spreads_26 : decode cX14_spreads 26 = .ok (.iadd, 1) := by decide +kernel
theorem dX14_spreads_27 : decode cX14_spreads 27 = .ok (.istore 5, 2) := by decide +kernel
theorem dX14_spreads_29 : decode cX14_spreads 29 = .ok (.aload_n 0, 1) := by decide +kernel
theorem dX14_spreads_30 : decode cX14_spreads 30 = .ok (.getfield 44, 3) := by decide +kernel
theorem dX14_spreads_33 : decode cX14_spreads 33 = .ok (.iload 5, 2) := by decide +kernel
theorem dX14_spreads_35 : decode cX14_spreads 35 = .ok (.aload_n 0, 1) := by decide +kernel
theorem dX14_spreads_36 : decode cX14_spreads 36 = .ok (.getfield 376, 3) := by decide +kernel
theorem dX14_spreads_39 : decode cX14_spreads 39 = .ok (.getfield 307, 3) := by decide +kernel
theorem dX14_spreads_42 : decode cX14_spreads 42 = .ok (.iload 5, 2) := by decide +kernel
theorem dX14_spreads_44 : decode cX14_spreads 44 = .ok (.iaload, 1) := by decide +kernel
theorem dX14_spreads_45 : decode cX14_spreads 45 = .ok (.iload_n 3, 1) := by decide +kernel
theorem dX14_spreads_46 : decode cX14_spreads 46 = .ok (.aload_n 0, 1) := by decide +kernel
theorem dX14_spreads_47 : decode cX14_spreads 47 = .ok (.getfield 376, 3) := by decide +kernel
theorem dX14_spreads_50 : decode cX14_spreads 50 = .ok (.iload 5, 2) := by decide +kernel
theorem dX14_spreads_52 : decode cX14_spreads 52 = .ok (.invokevirtual 273, 3) := by decide +kernel
theorem dX14_spreads_55 : decode cX14_spreads 55 = .ok (.irem, 1) := by decide +kernel
theorem dX14_spreads_56 : decode cX14_spreads 56 = .ok (.iadd, 1) := by decide +kernel
theorem dX14_spreads_57 : decode cX14_spreads 57 = .ok (.iastore, 1) := by decide +kernel
theorem dX14_spreads_58 : decode cX14_spreads 58 = .ok (.iload_n 3, 1) := by decide +kernel
theorem dX14_spreads_59 : decode cX14_spreads 59 = .ok (.aload_n 0, 1) := by decide +kernel
theorem dX14_spreads_60 : decode cX14_spreads 60 = .ok (.getfield 376, 3) := by decide +kernel
theorem dX14_spreads_63 : decode cX14_spreads 63 = .ok (.iload 5, 2) := by decide +kernel
theorem dX14_spreads_65 : decode cX14_spreads 65 = .ok (.invokevirtual 273, 3) := by decide +kernel
theorem dX14_spreads_68 : decode cX14_spreads 68 = .ok (.idiv, 1) := by decide +kernel
theorem dX14_spreads_69 : decode cX14_spreads 69 = .ok (.istore_n 3, 1) := by decide +kernel
theorem dX14_spreads_70 : decode cX14_spreads 70 = .ok (.iinc 4 (-1), 3) := by decide +kernel
theorem dX14_spreads_73 : decode cX14_spreads 73 = .ok (.goto (-58), 3) := by decide +kernel
theorem dX14_spreads_76 : decode cX14_spreads 76 = .ok (.iload_n 3, 1) := by decide +kernel
theorem dX14_spreads_77 : decode cX14_spreads 77 = .ok (.ireturn, 1) := by decide +kernel
def s_X14_spreads_15_b  (k15 : Nat → Int32 → Int32 → Int32 → aH → aO) (l0 : Nat) (l1 : Int32) (l3 : Int32) (l4 : Int32) (h : aH) : aO :=
  if l4 < 0 then (some (.inl (some (.int l3)), h)) else (cI (s_X14_slotOf l1 h) fun x21 h21 => (gO h21 (.ref l0) 14 29).bind fun x30 => (gO h21 (.ref l0) 14 4).bind fun x36 => (gO h21 (.ref x36) 13 1).bind fun x39 => (ldI .int h21 (.ref x39) (x21 + l4)).bind fun x44 => (gO h21 (.ref l0) 14 4).bind fun x47 => kO h21 x47 13 (cI (s_X13_size x47 (x21 + l4) h21) fun x52 h52 => nz x52 ((stI h52 (.ref x30) (x21 + l4) (x44 + (l3 - l3 / x52 * x52))).bind fun h57 => (gO h57 (.ref l0) 14 4).bind fun x60 => kO h57 x60 13 (cI (s_X13_size x60 (x21 + l4) h57) fun x65 h65 => nz x65 (k15 l0 l1 (l3 / x65) (l4 + (-1)) h65)))))
def s_X14_spreads_15  (n : Nat) : Nat → Int32 → Int32 → Int32 → aH → aO := lpF (fun _ _ _ _ _ => none) (s_X14_spreads_15_b ) n
def s_X14_spreads (o : Nat) (a1 : Int32) (a2 : Int32) (h : aH) : aO :=
  (gO h (.ref o) 14 4).bind fun x3 => (gO h (.ref x3) 13 0).bind fun x6 => (ldI .int h (.ref x6) a1).bind fun x10 => s_X14_spreads_15 FU o a1 a2 (x10 - 1) h
section
variable {p : Program} {l : Launch} {e : Env} {s : State} {m : MethodId} {args : Array Value} {below : List Frame} {meth : Method} {c : Code} {D : va_G} {B0 : Nat} {X : Nat → Nat} {ws0 : va_W} {r : aR} {h' : aH} {mc ms : Nat}
theorem t_X14_spreads_15_b (C : Cx p l s m args meth c B0 X RX14 "spreads" cX14_spreads 6 (some .int) [])   {k15 : Nat → Int32 → Int32 → Int32 → aH → aO} (K15 : ∀ (l0 : Nat) (l1 : Int32) (l3 : Int32) (l4 : Int32) (h : aH), k15 l0 l1 l3 l4 h = some (r, h') → Ev p l e { frames := 1, cells := mc, slots := ms, locals := 21 } s m args below meth c D B0 X ws0 r h' mc ms 6 mc ms 15 [some (.ref l0), some (.int l1), none, some (.int l3), some (.int l4), none] [] h) {l0 : Nat} {l1 : Int32} {l3 : Int32} {l4 : Int32} {h : aH} (hs : s_X14_spreads_15_b  k15 l0 l1 l3 l4 h = some (r, h')) : Ev p l e { frames := 1, cells := mc, slots := ms, locals := 21 } s m args below meth c D B0 X ws0 r h' mc ms 6 mc ms 15 [some (.ref l0), some (.int l1), none, some (.int l3), some (.int l4), none] [] h := by
  unfold s_X14_spreads_15_b at hs
  refine ev_iload C rfl dX14_spreads_15 ?_
  refine ev_if_lt C (tgt := 76) (by decide) dX14_spreads_17 (fun q17 => ?_) (fun q17 => ?_)
  · replace hs := (if_pos q17).symm.trans hs
    refine ev_iload_n C rfl dX14_spreads_76 ?_
    cases hs
    exact ev_iret C rfl rfl (Nat.le_refl _) (Nat.le_refl _) rfl dX14_spreads_77
  · replace hs := (if_neg q17).symm.trans hs
    refine ev_iload_n C rfl dX14_spreads_20 ?_
    obtain ⟨x21, h21, e21, hs⟩ := cI_at hs
    refine ev_callS C (T_X14_slotOf _ _ _ _ e21) wc_X14_slotOf wm_X14_246 wt_X14_slotOf wz_X14 hy_X14_slotOf ⟨(Nat.le_of_ble_eq_true rfl), (Nat.le_of_ble_eq_true rfl)⟩ ⟨(Nat.le_refl _), (Nat.le_refl _)⟩ (Nat.le_of_ble_eq_true rfl) rfl dX14_spreads_21 ?_
    refine ev_iload C rfl dX14_spreads_24 ?_
    refine ev_iadd C dX14_spreads_26 ?_
    refine ev_istore C (by decide) dX14_spreads_27 ?_
    refine ev_aload_n C (x := .ref l0) rfl trivial dX14_spreads_29 ?_
    obtain ⟨x30, e30, hs⟩ := aB hs
    refine ev_get C (ci := 14) (k := 29) rfl wu_14 (by decide) wf_X14_44 (gO_F e30) dX14_spreads_30 ?_
    refine ev_iload C rfl dX14_spreads_33 ?_
    refine ev_aload_n C (x := .ref l0) rfl trivial dX14_spreads_35 ?_
    obtain ⟨x36, e36, hs⟩ := aB hs
    refine ev_get C (ci := 14) (k := 4) rfl wu_14 (by decide) wf_X14_376 (gO_F e36) dX14_spreads_36 ?_
    obtain ⟨x39, e39, hs⟩ := aB hs
    refine ev_getN C (ci := 13) (k := 1) rfl wu_13 (by decide) wg_X14_307 (gO_F e39) dX14_spreads_39 ?_
    refine ev_iload C rfl dX14_spreads_42 ?_
    obtain ⟨x44, e44, hs⟩ := aB hs
    refine ev_iald C e44 dX14_spreads_44 ?_
    refine ev_iload_n C rfl dX14_spreads_45 ?_
    refine ev_aload_n C (x := .ref l0) rfl trivial dX14_spreads_46 ?_
    obtain ⟨x47, e47, hs⟩ := aB hs
    refine ev_get C (ci := 14) (k := 4) rfl wu_14 (by decide) wf_X14_376 (gO_F e47) dX14_spreads_47 ?_
    refine ev_iload C rfl dX14_spreads_50 ?_
    obtain ⟨eo52, hs⟩ := kO_at hs
    obtain ⟨x52, h52, e52, hs⟩ := cI_at hs
    refine ev_callV C (T_X13_size _ _ _ _ _ e52) (ci := 13) rfl eo52 wc_X13_size wm_X14_273 wi_X13_size ws_X13_size wz_X13 hy_X13_size ⟨(Nat.le_of_ble_eq_true rfl), (Nat.le_of_ble_eq_true rfl)⟩ ⟨(Nat.le_refl _), (Nat.le_refl _)⟩ (Nat.le_of_ble_eq_true rfl) rfl dX14_spreads_52 ?_
    obtain ⟨n55, hs⟩ := nz_at hs
    refine ev_irem C n55 dX14_spreads_55 ?_
    refine ev_iadd C dX14_spreads_56 ?_
    obtain ⟨h57, e57, hs⟩ := aB hs
    refine ev_iast C e57 dX14_spreads_57 ?_
    refine ev_iload_n C rfl dX14_spreads_58 ?_
    refine ev_aload_n C (x := .ref l0) rfl trivial dX14_spreads_59 ?_
    obtain ⟨x60, e60, hs⟩ := aB hs
    refine ev_get C (ci := 14) (k := 4) rfl wu_14 (by decide) wf_X14_376 (gO_F e60) dX14_spreads_60 ?_
    refine ev_iload C rfl dX14_spreads_63 ?_
    obtain ⟨eo65, hs⟩ := kO_at hs
    obtain ⟨x65, h65, e65, hs⟩ := cI_at hs
    refine ev_callV C (T_X13_size _ _ _ _ _ e65) (ci := 13) rfl eo65 wc_X13_size wm_X14_273 wi_X13_size ws_X13_size wz_X13 hy_X13_size ⟨(Nat.le_of_ble_eq_true rfl), (Nat.le_of_ble_eq_true rfl)⟩ ⟨(Nat.le_refl _), (Nat.le_refl _)⟩ (Nat.le_of_ble_eq_true rfl) rfl dX14_spreads_65 ?_
    obtain ⟨n68, hs⟩ := nz_at hs
    refine ev_idiv C n68 dX14_spreads_68 ?_
    refine ev_istore_n C (by decide) dX14_spreads_69 ?_
    refine ev_iinc C (i := 4) (n := -1) (x := l4) (v := l4 + (-1)) rfl (congrArg (fun z => l4 + z) (show Int32.ofInt (-1) = (-1) by decide)) (by decide) dX14_spreads_70 ?_
    refine ev_goto C (tgt := 15) (by decide) dX14_spreads_73 ?_
    exact Ev.keep [true, true, true, true, true, false] (K15 _ _ _ _ _ hs)
theorem t_X14_spreads_15 (C : Cx p l s m args meth c B0 X RX14 "spreads" cX14_spreads 6 (some .int) [])   : ∀ (n : Nat) {l0 : Nat} {l1 : Int32} {l3 : Int32} {l4 : Int32} {h : aH} (hs : s_X14_spreads_15  n l0 l1 l3 l4 h = some (r, h')), Ev p l e { frames := 1, cells := mc, slots := ms, locals := 21 } s m args below meth c D B0 X ws0 r h' mc ms 6 mc ms 15 [some (.ref l0), some (.int l1), none, some (.int l3), some (.int l4), none] [] h
  | 0, _, _, _, _, _, hs => nomatch hs
  | n + 1, _, _, _, _, _, hs => t_X14_spreads_15_b C  (k15 := s_X14_spreads_15  n) (fun _ _ _ _ _ hs => t_X14_spreads_15 C  n hs) hs
theorem hy_X14_spreads : yX14_spreads.cls ≠ "java/lang/invoke/MethodHandle" ∧ yX14_spreads.cls ≠ "java/lang/invoke/VarHandle" ∧ (parseMethodDescriptor yX14_spreads.desc).map (fun d => d.parameters.length) = some 2 := by decide +kernel
theorem T_X14_spreads (o : Nat) (a1 : Int32) (a2 : Int32) (h : aH) (r : aR) (h' : aH) (hs : s_X14_spreads o a1 a2 h = some (r, h')) : Mt yX14_spreads (Cond.code yX14_spreads cX14_spreads 6 (some .int) :: aTB) 1 21 0 0 [.ref o, .int a1, .int a2] h r h' := by
  unfold s_X14_spreads at hs
  refine Mt_of (k := 3) (by decide) rfl (fun p l e s m args below meth c D B0 X ws0 C => ?_)
  show Ev p l e { frames := 1, cells := 0, slots := 0, locals := 21 } s m args below meth c D B0 X ws0 r h' 0 0 6 0 0 0 [some (.ref o), some (.int a1), some (.int a2), none, none, none] [] h
  refine ev_iload_n C rfl dX14_spreads_0 ?_
  refine ev_istore_n C (by decide) dX14_spreads_1 ?_
  refine ev_aload_n C (x := .ref o) rfl trivial dX14_spreads_2 ?_
  obtain ⟨x3, e3, hs⟩ := aB hs
  refine ev_get C (ci := 14) (k := 4) rfl wu_14 (by decide) wf_X14_376 (gO_F e3) dX14_spreads_3 ?_
  obtain ⟨x6, e6, hs⟩ := aB hs
  refine ev_getN C (ci := 13) (k := 0) rfl wu_13 (by decide) wg_X14_252 (gO_F e6) dX14_spreads_6 ?_
  refine ev_iload_n C rfl dX14_spreads_9 ?_
  obtain ⟨x10, e10, hs⟩ := aB hs
  refine ev_iald C e10 dX14_spreads_10 ?_
  refine ev_iconst C (v := 1) dX14_spreads_11 (by decide) ?_
  refine ev_isub C dX14_spreads_12 ?_
  refine ev_istore C (by decide) dX14_spreads_13 ?_
  exact Ev.keep [true, true, false, true, true, true] (t_X14_spreads_15 C  FU hs)
end
-- X14_lays
theorem dX14_lays_0 : decode cX14_lays 0 = .ok (.aload_n 0, 1) := by decide +kernel
theorem dX14_lays_1 : decode cX14_lays 1 = .ok (.iconst 0, 1) := by decide +kernel
theorem dX14_lays_2 : decode cX14_lays 2 = .ok (.iload_n 1, 1) := by decide +kernel
theorem dX14_lays_3 : decode cX14_lays 3 = .ok (.invokevirtual 455, 3) := by decide +kernel
theorem dX14_lays_6 : decode cX14_lays 6 = .ok (.istore_n 2, 1) := by decide +kernel
theorem dX14_lays_7 : decode cX14_lays 7 = .ok (.return_, 1) := by decide +kernel
def s_X14_lays (o : Nat) (a1 : Int32) (h : aH) : aO :=
  kO h o 14 (cI (s_X14_spreads o 0 a1 h) fun x3 h3 => some (.inl none, h3))
section
variable {p : Program} {l : Launch} {e : Env} {s : State} {m : MethodId} {args : Array Value} {below : List Frame} {meth : Method} {c : Code} {D : va_G} {B0 : Nat} {X : Nat → Nat} {ws0 : va_W} {r : aR} {h' : aH} {mc ms : Nat}
theorem hy_X14_lays : yX14_lays.cls ≠ "java/lang/invoke/MethodHandle" ∧ yX14_lays.cls ≠ "java/lang/invoke/VarHandle" ∧ (parseMethodDescriptor yX14_lays.desc).map (fun d => d.parameters.length) = some 1 := by decide +kernel
theorem T_X14_lays (o : Nat) (a1 : Int32) (h : aH) (r : aR) (h' : aH) (hs : s_X14_lays o a1 h = some (r, h')) : Mt yX14_lays (Cond.code yX14_lays cX14_lays 3 none :: aTB) 2 46 0 0 [.ref o, .int a1] h r h' := by
  unfold s_X14_lays at hs
  refine Mt_of (k := 1) (by decide) rfl (fun p l e s m args below meth c D B0 X ws0 C => ?_)
  show Ev p l e { frames := 2, cells := 0, slots := 0, locals := 46 } s m args below meth c D B0 X ws0 r h' 0 0 3 0 0 0 [some (.ref o), some (.int a1), none] [] h
  refine ev_aload_n C (x := .ref o) rfl trivial dX14_lays_0 ?_
  refine ev_iconst C (v := 0) dX14_lays_1 (by decide) ?_
  refine ev_iload_n C rfl dX14_lays_2 ?_
  obtain ⟨eo3, hs⟩ := kO_at hs
  obtain ⟨x3, h3, e3, hs⟩ := cI_at hs
  refine ev_callV C (T_X14_spreads _ _ _ _ _ _ e3) (ci := 14) rfl eo3 wc_X14_spreads wm_X14_455 wi_X14_spreads ws_X14_spreads wz_X14 hy_X14_spreads ⟨(Nat.le_of_ble_eq_true rfl), (Nat.le_of_ble_eq_true rfl)⟩ ⟨(Nat.le_refl _), (Nat.le_refl _)⟩ (Nat.le_of_ble_eq_true rfl) rfl dX14_lays_3 ?_
  refine ev_istore_n C (by decide) dX14_lays_6 ?_
  cases hs
  exact ev_vret C rfl rfl (Nat.le_refl _) (Nat.le_refl _) rfl dX14_lays_7
end
-- X14_pushed
theorem dX14_pushed_0 : decode cX14_pushed 0 = .ok (.aload_n 0, 1) := by decide +kernel
theorem dX14_pushed_1 : decode cX14_pushed 1 = .ok (.iconst 1, 1) := by decide +kernel
theorem dX14_pushed_2 : decode cX14_pushed 2 = .ok (.iload_n 1, 1) := by decide +kernel
theorem dX14_pushed_3 : decode cX14_pushed 3 = .ok (.invokevirtual 455, 3) := by decide +kernel
theorem dX14_pushed_6 : decode cX14_pushed 6 = .ok (.istore_n 2, 1) := by decide +kernel
theorem dX14_pushed_7 : decode cX14_pushed 7 = .ok (.return_, 1) := by decide +kernel
def s_X14_pushed (o : Nat) (a1 : Int32) (h : aH) : aO :=
  kO h o 14 (cI (s_X14_spreads o 1 a1 h) fun x3 h3 => some (.inl none, h3))
section
variable {p : Program} {l : Launch} {e : Env} {s : State} {m : MethodId} {args : Array Value} {below : List Frame} {meth : Method} {c : Code} {D : va_G} {B0 : Nat} {X : Nat → Nat} {ws0 : va_W} {r : aR} {h' : aH} {mc ms : Nat}
theorem hy_X14_pushed : yX14_pushed.cls ≠ "java/lang/invoke/MethodHandle" ∧ yX14_pushed.cls ≠ "java/lang/invoke/VarHandle" ∧ (parseMethodDescriptor yX14_pushed.desc).map (fun d => d.parameters.length) = some 1 := by decide +kernel
theorem T_X14_pushed (o : Nat) (a1 : Int32) (h : aH) (r : aR) (h' : aH) (hs : s_X14_pushed o a1 h = some (r, h')) : Mt yX14_pushed (Cond.code yX14_pushed cX14_pushed 3 none :: aTB) 2 46 0 0 [.ref o, .int a1] h r h' := by
  unfold s_X14_pushed at hs
  refine Mt_of (k := 1) (by decide) rfl (fun p l e s m args below meth c D B0 X ws0 C => ?_)
  show Ev p l e { frames := 2, cells := 0, slots := 0, locals := 46 } s m args below meth c D B0 X ws0 r h' 0 0 3 0 0 0 [some (.ref o), some (.int a1), none] [] h
  refine ev_aload_n C (x := .ref o) rfl trivial dX14_pushed_0 ?_
  refine ev_iconst C (v := 1) dX14_pushed_1 (by decide) ?_
  refine ev_iload_n C rfl dX14_pushed_2 ?_
  obtain ⟨eo3, hs⟩ := kO_at hs
  obtain ⟨x3, h3, e3, hs⟩ := cI_at hs
  refine ev_callV C (T_X14_spreads _ _ _ _ _ _ e3) (ci := 14) rfl eo3 wc_X14_spreads wm_X14_455 wi_X14_spreads ws_X14_spreads wz_X14 hy_X14_spreads ⟨(Nat.le_of_ble_eq_true rfl), (Nat.le_of_ble_eq_true rfl)⟩ ⟨(Nat.le_refl _), (Nat.le_refl _)⟩ (Nat.le_of_ble_eq_true rfl) rfl dX14_pushed_3 ?_
  refine ev_istore_n C (by decide) dX14_pushed_6 ?_
  cases hs
  exact ev_vret C rfl rfl (Nat.le_refl _) (Nat.le_refl _) rfl dX14_pushed_7
end
-- X14_worlded
theorem dX14_worlded_0 : decode cX14_worlded 0 = .ok (.aload_n 0, 1) := by decide +kernel
theorem dX14_worlded_1 : decode cX14_worlded 1 = .ok (.iconst 2, 1) := by decide +kernel
theorem dX14_worlded_2 : decode cX14_worlded 2 = .ok (.aload_n 0, 1) := by decide +kernel
theorem dX14_worlded_3 : decode cX14_worlded 3 = .ok (.iconst 3, 1) := by decide +kernel
theorem dX14_worlded_4 : decode cX14_worlded 4 = .ok (.iload_n 1, 1) := by decide +kernel
theorem dX14_worlded_5 : decode cX14_worlded 5 = .ok (.invokevirtual 455, 3) := by decide +kernel
theorem dX14_worlded_8 : decode cX14_worlded 8 = .ok (.invokevirtual 455, 3) := by decide +kernel
theorem dX14_worlded_11 : decode cX14_worlded 11 = .ok (.istore_n 2, 1) := by decide +kernel
theorem dX14_worlded_12 : decode cX14_worlded 12 = .ok (.return_, 1) := by decide +kernel
def s_X14_worlded (o : Nat) (a1 : Int32) (h : aH) : aO :=
  kO h o 14 (cI (s_X14_spreads o 3 a1 h) fun x5 h5 => kO h5 o 14 (cI (s_X14_spreads o 2 x5 h5) fun x8 h8 => some (.inl none, h8)))
section
variable {p : Program} {l : Launch} {e : Env} {s : State} {m : MethodId} {args : Array Value} {below : List Frame} {meth : Method} {c : Code} {D : va_G} {B0 : Nat} {X : Nat → Nat} {ws0 : va_W} {r : aR} {h' : aH} {mc ms : Nat}
theorem hy_X14_worlded : yX14_worlded.cls ≠ "java/lang/invoke/MethodHandle" ∧ yX14_worlded.cls ≠ "java/lang/invoke/VarHandle" ∧ (parseMethodDescriptor yX14_worlded.desc).map (fun d => d.parameters.length) = some 1 := by decide +kernel
theorem T_X14_worlded (o : Nat) (a1 : Int32) (h : aH) (r : aR) (h' : aH) (hs : s_X14_worlded o a1 h = some (r, h')) : Mt yX14_worlded (Cond.code yX14_worlded cX14_worlded 3 none :: aTB) 2 46 0 0 [.ref o, .int a1] h r h' := by
  unfold s_X14_worlded at hs
  refine Mt_of (k := 1) (by decide) rfl (fun p l e s m args below meth c D B0 X ws0 C => ?_)
  show Ev p l e { frames := 2, cells := 0, slots := 0, locals := 46 } s m args below meth c D B0 X ws0 r h' 0 0 3 0 0 0 [some (.ref o), some (.int a1), none] [] h
  refine ev_aload_n C (x := .ref o) rfl trivial dX14_worlded_0 ?_
  refine ev_iconst C (v := 2) dX14_worlded_1 (by decide) ?_
  refine ev_aload_n C (x := .ref o) rfl trivial dX14_worlded_2 ?_
  refine ev_iconst C (v := 3) dX14_worlded_3 (by decide) ?_
  refine ev_iload_n C rfl dX14_worlded_4 ?_
  obtain ⟨eo5, hs⟩ := kO_at hs
  obtain ⟨x5, h5, e5, hs⟩ := cI_at hs
  refine ev_callV C (T_X14_spreads _ _ _ _ _ _ e5) (ci := 14) rfl eo5 wc_X14_spreads wm_X14_455 wi_X14_spreads ws_X14_spreads wz_X14 hy_X14_spreads ⟨(Nat.le_of_ble_eq_true rfl), (Nat.le_of_ble_eq_true rfl)⟩ ⟨(Nat.le_refl _), (Nat.le_refl _)⟩ (Nat.le_of_ble_eq_true rfl) rfl dX14_worlded_5 ?_
  obtain ⟨eo8, hs⟩ := kO_at hs
  obtain ⟨x8, h8, e8, hs⟩ := cI_at hs
  refine ev_callV C (T_X14_spreads _ _ _ _ _ _ e8) (ci := 14) rfl eo8 wc_X14_spreads wm_X14_455 wi_X14_spreads ws_X14_spreads wz_X14 hy_X14_spreads ⟨(Nat.le_of_ble_eq_true rfl), (Nat.le_of_ble_eq_true rfl)⟩ ⟨(Nat.le_refl _), (Nat.le_refl _)⟩ (Nat.le_of_ble_eq_true rfl) rfl dX14_worlded_8 ?_
  refine ev_istore_n C (by decide) dX14_worlded_11 ?_
  cases hs
  exact ev_vret C rfl rfl (Nat.le_refl _) (Nat.le_refl _) rfl dX14_worlded_12
end
-- X14_bound
theorem dX14_bound_0 : decode cX14_bound 0 = .ok (.ldc2_w 436, 3) := by decide +kernel
theorem dX14_bound_3 : decode cX14_bound 3 = .ok (.ldc2_w 438, 3) := by decide +kernel
theorem dX14_bound_6 : decode cX14_bound 6 = .ok (.lload_n 0, 1) := by decide +kernel
theorem dX14_bound_7 : decode cX14_bound 7 = .ok (.invokestatic 440, 3) := by decide +kernel
theorem dX14_bound_10 : decode cX14_bound 10 = .ok (.invokestatic 446, 3) := by decide +kernel
theorem dX14_bound_13 : decode cX14_bound 13 = .ok (.l2i, 1) := by decide +kernel
theorem dX14_bound_14 : decode cX14_bound 14 = .ok (.ireturn, 1) := by decide +kernel
def s_X14_bound (a1 : Int64) (h : aH) : aO :=
  some (.inl (some (.int ((jmaxL (-1000000) (jminL 1000000 a1)).toInt32))), h)
section
variable {p : Program} {l : Launch} {e : Env} {s : State} {m : MethodId} {args : Array Value} {below : List Frame} {meth : Method} {c : Code} {D : va_G} {B0 : Nat} {X : Nat → Nat} {ws0 : va_W} {r : aR} {h' : aH} {mc ms : Nat}
theorem hy_X14_bound : yX14_bound.cls ≠ "java/lang/invoke/MethodHandle" ∧ yX14_bound.cls ≠ "java/lang/invoke/VarHandle" ∧ (parseMethodDescriptor yX14_bound.desc).map (fun d => d.parameters.length) = some 1 := by decide +kernel
theorem T_X14_bound (a1 : Int64) (h : aH) (r : aR) (h' : aH) (hs : s_X14_bound a1 h = some (r, h')) : Mt yX14_bound (Cond.code yX14_bound cX14_bound 2 (some .int) :: aTB) 1 23 0 0 [.long a1] h r h' := by
  unfold s_X14_bound at hs
  refine Mt_of (k := 0) (by decide) rfl (fun p l e s m args below meth c D B0 X ws0 C => ?_)
  show Ev p l e { frames := 1, cells := 0, slots := 0, locals := 23 } s m args below meth c D B0 X ws0 r h' 0 0 2 0 0 0 [some (.long a1), none] [] h
  refine ev_ldc2 C wv_X14_436 dX14_bound_0 ?_
  refine ev_ldc2 C wv_X14_438 dX14_bound_3 ?_
  refine ev_lload_n C rfl dX14_bound_6 ?_
  refine ev_mminL C wm_X14_440 wt_mminL wz_J9 wc_mminL (Nat.le_of_ble_eq_true rfl) (Nat.le_of_ble_eq_true rfl) (Nat.le_refl _) (Nat.le_refl _) dX14_bound_7 ?_
  refine ev_mmaxL C wm_X14_446 wt_mmaxL wz_J9 wc_mmaxL (Nat.le_of_ble_eq_true rfl) (Nat.le_of_ble_eq_true rfl) (Nat.le_refl _) (Nat.le_refl _) dX14_bound_10 ?_
  refine ev_l2i C dX14_bound_13 ?_
  cases hs
  exact ev_iret C rfl rfl (Nat.le_refl _) (Nat.le_refl _) rfl dX14_bound_14
end
-- X14_valueOf
theorem dX14_valueOf_0 : decode cX14_valueOf 0 = .ok (.iconst 0, 1) := by decide +kernel
theorem dX14_valueOf_1 : decode cX14_valueOf 1 = .ok (.istore 4, 2) := by decide +kernel
theorem dX14_valueOf_3 : decode cX14_valueOf 3 = .ok (.iload_n 2, 1) := by decide +kernel
theorem dX14_valueOf_4 : decode cX14_valueOf 4 = .ok (.istore 5, 2) := by decide +kernel
theorem dX14_valueOf_6 : decode cX14_valueOf 6 = .ok (.iload 5, 2) := by decide +kernel
theorem dX14_valueOf_8 : decode cX14_valueOf 8 = .ok (.iload_n 3, 1) := by decide +kernel
theorem dX14_valueOf_9 : decode cX14_valueOf 9 = .ok (.if_icmp .ge 280, 3) := by decide +kernel
theorem dX14_valueOf_12 : decode cX14_valueOf 12 = .ok (.aload_n 1, 1) := by decide +kernel
theorem dX14_valueOf_13 : decode cX14_valueOf 13 = .ok (.getfield 430, 3) := by decide +kernel
theorem dX14_valueOf_16 : decode cX14_valueOf 16 = .ok (.iload 5, 2) := by decide +kernel
theorem dX14_valueOf_18 : decode cX14_valueOf 18 = .ok (.iaload, 1) := by decide +kernel
theorem dX14_valueOf_19 : decode cX14_valueOf 19 = .ok (.istore 6, 2) := by decide +kernel
theorem dX14_valueOf_21 : decode cX14_valueOf 21 = .ok (.iload 6, 2) := by decide +kernel
theorem dX14_valueOf_23 : decode cX14_valueOf 23 = .ok (.ifCond .eq 9, 3) := by decide +kernel
theorem dX14_valueOf_26 : decode cX14_valueOf 26 = .ok (.iload 6, 2) := by decide +kernel
theorem dX14_valueOf_28 : decode cX14_valueOf 28 = .ok (.iconst 1, 1) := by decide +kernel
theorem dX14_valueOf_29 : decode cX14_valueOf 29 = .ok (.if_icmp .ne 43, 3) := by decide +kernel
theorem dX14_valueOf_32 : decode cX14_valueOf 32 = .ok (.aload_n 0, 1) := by decide +kernel
theorem dX14_valueOf_33 : decode cX14_valueOf 33 = .ok (.getfield 48, 3) := by decide +kernel
theorem dX14_valueOf_36 : decode cX14_valueOf 36 = .ok (.iload 4, 2) := by decide +kernel
theorem dX14_valueOf_38 : decode cX14_valueOf 38 = .ok (.iload 6, 2) := by decide +kernel
theorem dX14_valueOf_40 : decode cX14_valueOf 40 = .ok (.ifCond .ne 13, 3) := by decide +kernel
theorem dX14_valueOf_43 : decode cX14_valueOf 43 = .ok (.aload_n 1, 1) := by decide +kernel
theorem dX14_valueOf_44 : decode cX14_valueOf 44 = .ok (.getfield 433, 3) := by decide +kernel
theorem dX14_valueOf_47 : decode cX14_valueOf 47 = .ok (.iload 5, 2) := by decide +kernel
theorem dX14_valueOf_49 : decode cX14_valueOf 49 = .ok (.iaload, 1) := by decide +kernel
theorem dX14_valueOf_50 : decode cX14_valueOf 50 = .ok (.goto 15, 3) := by decide +kernel
theorem dX14_valueOf_53 : decode cX14_valueOf 53 = .ok (.aload_n 0, 1) := by decide +kernel
theorem dX14_valueOf_54 : decode cX14_valueOf 54 = .ok (.getfield 44, 3) := by decide +kernel
theorem dX14_valueOf_57 : decode cX14_valueOf 57 = .ok (.aload_n 1, 1) := by decide +kernel
theorem dX14_valueOf_58 : decode cX14_valueOf 58 = .ok (.getfield 433, 3) := by decide +kernel
theorem dX14_valueOf_61 : decode cX14_valueOf 61 = .ok (.iload 5, 2) := by decide +kernel
theorem dX14_valueOf_63 : decode cX14_valueOf 63 = .ok (.iaload, 1) := by decide +kernel
theorem dX14_valueOf_64 : decode cX14_valueOf 64 = .ok (.iaload, 1) := by decide +kernel
theorem dX14_valueOf_65 : decode cX14_valueOf 65 = .ok (.iastore, 1) := by decide +kernel
theorem dX14_valueOf_66 : decode cX14_valueOf 66 = .ok (.iinc 4 1, 3) := by decide +kernel
theorem dX14_valueOf_69 : decode cX14_valueOf 69 = .ok (.goto 214, 3) := by decide +kernel
theorem dX14_valueOf_72 : decode cX14_valueOf 72 = .ok (.iload 6, 2) := by decide +kernel
theorem dX14_valueOf_74 : decode cX14_valueOf 74 = .ok (.iconst 5, 1) := by decide +kernel
theorem dX14_valueOf_75 : decode cX14_valueOf 75 = .ok (.if_icmp .ne 25, 3) := by decide +kernel
theorem dX14_valueOf_78 : decode cX14_valueOf 78 = .ok (.aload_n 0, 1) := by decide +kernel
theorem dX14_valueOf_79 : decode cX14_valueOf 79 = .ok (.getfield 48, 3) := by decide +kernel
theorem dX14_valueOf_82 : decode cX14_valueOf 82 = .ok (.iload 4, 2) := by decide +kernel
theorem dX14_valueOf_84 : decode cX14_valueOf 84 = .ok (.iconst 1, 1) := by decide +kernel
theorem dX14_valueOf_85 : decode cX14_valueOf 85 = .ok (.isub, 1) := by decide +kernel
theorem dX14_valueOf_86 : decode cX14_valueOf 86 = .ok (.aload_n 0, 1) := by decide +kernel
theorem dX14_valueOf_87 : decode cX14_valueOf 87 = .ok (.getfield 48, 3) := by decide +kernel
theorem dX14_valueOf_90 : decode cX14_valueOf 90 = .ok (.iload 4, 2) := by decide +kernel
theorem dX14_valueOf_92 : decode cX14_valueOf 92 = .ok (.iconst 1, 1) := by decide +kernel
theorem dX14_valueOf_93 : decode cX14_valueOf 93 = .ok (.isub, 1) := by decide +kernel
theorem dX14_valueOf_94 : decode cX14_valueOf 94 = .ok (.iaload, 1) := by decide +kernel
theorem dX14_valueOf_95 : decode cX14_valueOf 95 = .ok (.ineg, 1) := by decide +kernel
theorem dX14_valueOf_96 : decode cX14_valueOf 96 = .ok (.iastore, 1) := by decide +kernel
theorem dX14_valueOf_97 : decode cX14_valueOf 97 = .ok (.goto 186, 3) := by decide +kernel
theorem dX14_valueOf_100 : decode cX14_valueOf 100 = .ok (.iinc 4 (-1), 3) := by decide +kernel
theorem dX14_valueOf_103 : decode cX14_valueOf 103 = .ok (.aload_n 0, 1) := by decide +kernel
theorem dX14_valueOf_104 : decode cX14_valueOf 104 = .ok (.getfield 48, 3) := by decide +kernel
theorem dX14_valueOf_107 : decode cX14_valueOf 107 = .ok (.iload 4, 2) := by decide +kernel
theorem dX14_valueOf_109 : decode cX14_valueOf 109 = .ok (.iconst 1, 1) := by decide +kernel
theorem dX14_valueOf_110 : decode cX14_valueOf 110 = .ok (.isub, 1) := by decide +kernel
theorem dX14_valueOf_111 : decode cX14_valueOf 111 = .ok (.iaload, 1) := by decide +kernel
theorem dX14_valueOf_112 : decode cX14_valueOf 112 = .ok (.i2l, 1) := by decide +kernel
theorem dX14_valueOf_113 : decode cX14_valueOf 113 = .ok (.lstore 7, 2) := by decide +kernel
theorem dX14_valueOf_115 : decode cX14_valueOf 115 = .ok (.aload_n 0, 1) := by decide +kernel
theorem dX14_valueOf_116 : decode cX14_valueOf 116 = .ok (.getfield 48, 3) := by decide +kernel
theorem dX14_valueOf_119 : decode cX14_valueOf 119 = .ok (.iload 4, 2) := by decide +kernel
theorem dX14_valueOf_121 : decode cX14_valueOf 121 = .ok (.iaload, 1) := by decide +kernel
theorem dX14_valueOf_122 : decode cX14_valueOf 122 = .ok (.i2l, 1) := by decide +kernel
theorem dX14_valueOf_123 : decode cX14_valueOf 123 = .ok (.lstore 9, 2) := by decide +kernel
theorem dX14_valueOf_125 : decode cX14_valueOf 125 = .ok (.iload 6, 2) := by decide +kernel
theorem dX14_valueOf_127 : decode cX14_valueOf 127 = .ok (.bipush 6, 2) := by decide +kernel
theorem dX14_valueOf_129 : decode cX14_valueOf 129 = .ok (.if_icmp .ne 19, 3) := by decide +kernel
theorem dX14_valueOf_132 : decode cX14_valueOf 132 = .ok (.lload 7, 2) := by decide +kernel
theorem dX14_valueOf_134 : decode cX14_valueOf 134 = .ok (.lload 9, 2) := by decide +kernel
theorem dX14_valueOf_136 : decode cX14_valueOf 136 = .ok (.lcmp, 1) := by decide +kernel
theorem dX14_valueOf_137 : decode cX14_valueOf 137 = .ok (.ifCond .ge 7, 3) := by decide +kernel
theorem dX14_valueOf_140 : decode cX14_valueOf 140 = .ok (.iconst 1, 1) := by decide +kernel
theorem dX14_valueOf_141 : decode cX14_valueOf 141 = .ok (.goto 70, 3) := by decide +kernel
theorem dX14_valueOf_144 : decode cX14_valueOf 144 = .ok (.iconst 0, 1) := by decide +kernel
theorem dX14_valueOf_145 : decode cX14_valueOf 145 = .ok (.goto 66, 3) := by decide +kernel
theorem dX14_valueOf_148 : decode cX14_valueOf 148 = .ok (.iload 6, 2) := by decide +kernel
theorem dX14_valueOf_150 : decode cX14_valueOf 150 = .ok (.bipush 7, 2) := by decide +kernel
theorem dX14_valueOf_152 : decode cX14_valueOf 152 = .ok (.if_icmp .ne 19, 3) := by decide +kernel
theorem dX14_valueOf_155 : decode cX14_valueOf 155 = .ok (.lload 7, 2) := by decide +kernel
theorem dX14_valueOf_157 : decode cX14_valueOf 157 = .ok (.lload 9, 2) := by decide +kernel
theorem dX14_valueOf_159 : decode cX14_valueOf 159 = .ok (.lcmp, 1) := by decide +kernel
theorem dX14_valueOf_160 : decode cX14_valueOf 160 = .ok (.ifCond .le 7, 3) := by decide +kernel
theorem dX14_valueOf_163 : decode cX14_valueOf 163 = .ok (.iconst 1, 1) := by decide +kernel
theorem dX14_valueOf_164 : decode cX14_valueOf 164 = .ok (.goto 47, 3) := by decide +kernel
theorem dX14_valueOf_167 : decode cX14_valueOf 167 = .ok (.iconst 0, 1) := by decide +kernel
theorem dX14_valueOf_168 : decode cX14_valueOf 168 = .ok (.goto 43, 3) := by decide +kernel
theorem dX14_valueOf_171 : decode cX14_valueOf 171 = .ok (.iload 6, 2) := by decide +kernel
theorem dX14_valueOf_173 : decode cX14_valueOf 173 = .ok (.bipush 8, 2) := by decide +kernel
theorem dX14_valueOf_175 : decode cX14_valueOf 175 = .ok (.if_icmp .ne 19, 3) := by decide +kernel
theorem dX14_valueOf_178 : decode cX14_valueOf 178 = .ok (.lload 7, 2) := by decide +kernel
theorem dX14_valueOf_180 : decode cX14_valueOf 180 = .ok (.lload 9, 2) := by decide +kernel
theorem dX14_valueOf_182 : decode cX14_valueOf 182 = .ok (.lcmp, 1) := by decide +kernel
theorem dX14_valueOf_183 : decode cX14_valueOf 183 = .ok (.ifCond .ne 7, 3) := by decide +kernel
theorem dX14_valueOf_186 : decode cX14_valueOf 186 = .ok (.iconst 1, 1) := by decide +kernel
theorem dX14_valueOf_187 : decode cX14_valueOf 187 = .ok (.goto 24, 3) := by decide +kernel
theorem dX14_valueOf_190 : decode cX14_valueOf 190 = .ok (.iconst 0, 1) := by decide +kernel
theorem dX14_valueOf_191 : decode cX14_valueOf 191 = .ok (.goto 20, 3) := by decide +kernel
theorem dX14_valueOf_194 : decode cX14_valueOf 194 = .ok (.lload 7, 2) := by decide +kernel
theorem dX14_valueOf_196 : decode cX14_valueOf 196 = .ok (.lload 9, 2) := by decide +kernel
theorem dX14_valueOf_198 : decode cX14_valueOf 198 = .ok (.ladd, 1) := by decide +kernel
theorem dX14_valueOf_199 : decode cX14_valueOf 199 = .ok (.ldc2_w 449, 3) := by decide +kernel
theorem dX14_valueOf_202 : decode cX14_valueOf 202 = .ok (.lcmp, 1) := by decide +kernel
theorem dX14_valueOf_203 : decode cX14_valueOf 203 = .ok (.ifCond .ne 7, 3) := by decide +kernel
theorem dX14_valueOf_206 : decode cX14_valueOf 206 = .ok (.iconst 1, 1) := by decide +kernel
theorem dX14_valueOf_207 : decode cX14_valueOf 207 = .ok (.goto 4, 3) := by decide +kernel
theorem dX14_valueOf_210 : decode cX14_valueOf 210 = .ok (.iconst 0, 1) := by decide +kernel
theorem dX14_valueOf_211 : decode cX14_valueOf 211 = .ok (.istore 11, 2) := by decide +kernel
theorem dX14_valueOf_213 : decode cX14_valueOf 213 = .ok (.aload_n 0, 1) := by decide +kernel
theorem dX14_valueOf_214 : decode cX14_valueOf 214 = .ok (.getfield 48, 3) := by decide +kernel
theorem dX14_valueOf_217 : decode cX14_valueOf 217 = .ok (.iload 4, 2) := by decide +kernel
theorem dX14_valueOf_219 : decode cX14_valueOf 219 = .ok (.iconst 1, 1) := by decide +kernel
theorem dX14_valueOf_220 : decode cX14_valueOf 220 = .ok (.isub, 1) := by decide +kernel
theorem dX14_valueOf_221 : decode cX14_valueOf 221 = .ok (.iload 6, 2) := by decide +kernel
theorem dX14_valueOf_223 : decode cX14_valueOf 223 = .ok (.iconst 2, 1) := by decide +kernel
theorem dX14_valueOf_224 : decode cX14_valueOf 224 = .ok (.if_icmp .ne 14, 3) := by decide +kernel
theorem dX14_valueOf_227 : decode cX14_valueOf 227 = .ok (.lload 7, 2) := by decide +kernel
theorem dX14_valueOf_229 : decode cX14_valueOf 229 = .ok (.lload 9, 2) := by decide +kernel
theorem dX14_valueOf_231 : decode cX14_valueOf 231 = .ok (.ladd, 1) := by decide +kernel
theorem dX14_valueOf_232 : decode cX14_valueOf 232 = .ok (.invokestatic 451, 3) := by decide +kernel
theorem dX14_valueOf_235 : decode cX14_valueOf 235 = .ok (.goto 47, 3) := by decide +kernel
theorem dX14_valueOf_238 : decode cX14_valueOf 238 = .ok (.iload 6, 2) := by decide +kernel
theorem dX14_valueOf_240 : decode cX14_valueOf 240 = .ok (.iconst 3, 1) := by decide +kernel
theorem dX14_valueOf_241 : decode cX14_valueOf 241 = .ok (.if_icmp .ne 14, 3) := by decide +kernel
theorem dX14_valueOf_244 : decode cX14_valueOf 244 = .ok (.lload 7, 2) := by decide +kernel
theorem dX14_valueOf_246 : decode cX14_valueOf 246 = .ok (.lload 9, 2) := by decide +kernel
theorem dX14_valueOf_248 : decode cX14_valueOf 248 = .ok (.lsub, 1) := by decide +kernel
theorem dX14_valueOf_249 : decode cX14_valueOf 249 = .ok (.invokestatic 451, 3) := by decide +kernel
theorem dX14_valueOf_252 : decode cX14_valueOf 252 = .ok (.goto 30, 3) := by decide +kernel
theorem dX14_valueOf_255 : decode cX14_valueOf 255 = .ok (.iload 6, 2) := by decide +kernel
theorem dX14_valueOf_257 : decode cX14_valueOf 257 = .ok (.iconst 4, 1) := by decide +kernel
theorem dX14_valueOf_258 : decode cX14_valueOf 258 = .ok (.if_icmp .ne 14, 3) := by decide +kernel
theorem dX14_valueOf_261 : decode cX14_valueOf 261 = .ok (.lload 7, 2) := by decide +kernel
theorem dX14_valueOf_263 : decode cX14_valueOf 263 = .ok (.lload 9, 2) := by decide +kernel
theorem dX14_valueOf_265 : decode cX14_valueOf 265 = .ok (.lmul, 1) := by decide +kernel
theorem dX14_valueOf_266 : decode cX14_valueOf 266 = .ok (.invokestatic 451, 3) := by decide +kernel
theorem dX14_valueOf_269 : decode cX14_valueOf 269 = .ok (.goto 13, 3) := by decide +kernel
theorem dX14_valueOf_272 : decode cX14_valueOf 272 = .ok (.iload 11, 2) := by decide +kernel
theorem dX14_valueOf_274 : decode cX14_valueOf 274 = .ok (.ifCond .eq 7, 3) := by decide +kernel
theorem dX14_valueOf_277 : decode cX14_valueOf 277 = .ok (.iconst 1, 1) := by decide +kernel
theorem dX14_valueOf_278 : decode cX14_valueOf 278 = .ok (.goto 4, 3) := by decide +kernel
theorem dX14_valueOf_281 : decode cX14_valueOf 281 = .ok (.iconst 0, 1) := by decide +kernel
theorem dX14_valueOf_282 : decode cX14_valueOf 282 = .ok (.iastore, 1) := by decide +kernel
theorem dX14_valueOf_283 : decode cX14_valueOf 283 = .ok (.iinc 5 1, 3) := by decide +kernel
theorem dX14_valueOf_286 : decode cX14_valueOf 286 = .ok (.goto (-280), 3) := by decide +kernel
theorem dX14_valueOf_289 : decode cX14_valueOf 289 = .ok (.aload_n 0, 1) := by decide +kernel
theorem dX14_valueOf_290 : decode cX14_valueOf 290 = .ok (.getfield 48, 3) := by decide +kernel
theorem dX14_valueOf_293 : decode cX14_valueOf 293 = .ok (.iconst 0, 1) := by decide +kernel
theorem dX14_valueOf_294 : decode cX14_valueOf 294 = .ok (.iaload, 1) := by decide +kernel
theorem dX14_valueOf_295 : decode cX14_valueOf 295 = .ok (.ireturn, 1) := by decide +kernel
def s_X14_valueOf_65 (k6 : Nat → Nat → Int32 → Int32 → Int32 → aH → aO) (l0 : Nat) (l1 : Nat) (l3 : Int32) (l4 : Int32) (l5 : Int32) (s0 : Int32) (s1 : Int32) (s2 : Nat) (h : aH) : aO :=
  (stI h (.ref s2) s1 s0).bind fun h65 => k6 l0 l1 l3 (l4 + 1) (l5 + 1) h65
def s_X14_valueOf_32 (k6 : Nat → Nat → Int32 → Int32 → Int32 → aH → aO) (l0 : Nat) (l1 : Nat) (l3 : Int32) (l4 : Int32) (l5 : Int32) (l6 : Int32) (h : aH) : aO :=
  (gO h (.ref l0) 14 30).bind fun x33 => if l6 = 0 then ((gO h (.ref l1) 13 13).bind fun x44 => (ldI .int h (.ref x44) l5).bind fun x49 => s_X14_valueOf_65 k6 l0 l1 l3 l4 l5 x49 l4 x33 h) else ((gO h (.ref l0) 14 29).bind fun x54 => (gO h (.ref l1) 13 13).bind fun x58 => (ldI .int h (.ref x58) l5).bind fun x63 => (ldI .int h (.ref x54) x63).bind fun x64 => s_X14_valueOf_65 k6 l0 l1 l3 l4 l5 x64 l4 x33 h)
def s_X14_valueOf_282 (k6 : Nat → Nat → Int32 → Int32 → Int32 → aH → aO) (l0 : Nat) (l1 : Nat) (l3 : Int32) (l4 : Int32) (l5 : Int32) (s0 : Int32) (s1 : Int32) (s2 : Nat) (h : aH) : aO :=
  (stI h (.ref s2) s1 s0).bind fun h282 => k6 l0 l1 l3 l4 (l5 + 1) h282
def s_X14_valueOf_211 (k6 : Nat → Nat → Int32 → Int32 → Int32 → aH → aO) (l0 : Nat) (l1 : Nat) (l3 : Int32) (l4 : Int32) (l5 : Int32) (l6 : Int32) (l7 : Int64) (l9 : Int64) (s0 : Int32) (h : aH) : aO :=
  (gO h (.ref l0) 14 30).bind fun x214 => if l6 = 2 then (cI (s_X14_bound (l7 + l9) h) fun x232 h232 => s_X14_valueOf_282 k6 l0 l1 l3 l4 l5 x232 (l4 - 1) x214 h232) else (if l6 = 3 then (cI (s_X14_bound (l7 - l9) h) fun x249 h249 => s_X14_valueOf_282 k6 l0 l1 l3 l4 l5 x249 (l4 - 1) x214 h249) else (if l6 = 4 then (cI (s_X14_bound (l7 * l9) h) fun x266 h266 => s_X14_valueOf_282 k6 l0 l1 l3 l4 l5 x266 (l4 - 1) x214 h266) else (if s0 = 0 then (s_X14_valueOf_282 k6 l0 l1 l3 l4 l5 0 (l4 - 1) x214 h) else (s_X14_valueOf_282 k6 l0 l1 l3 l4 l5 1 (l4 - 1) x214 h))))
def s_X14_valueOf_6_b  (k6 : Nat → Nat → Int32 → Int32 → Int32 → aH → aO) (l0 : Nat) (l1 : Nat) (l3 : Int32) (l4 : Int32) (l5 : Int32) (h : aH) : aO :=
  if l3 ≤ l5 then ((gO h (.ref l0) 14 30).bind fun x290 => (ldI .int h (.ref x290) 0).bind fun x294 => some (.inl (some (.int x294)), h)) else ((gO h (.ref l1) 13 12).bind fun x13 => (ldI .int h (.ref x13) l5).bind fun x18 => if x18 = 0 then (s_X14_valueOf_32 k6 l0 l1 l3 l4 l5 x18 h) else (if x18 = 1 then (s_X14_valueOf_32 k6 l0 l1 l3 l4 l5 x18 h) else (if x18 = 5 then ((gO h (.ref l0) 14 30).bind fun x79 => (gO h (.ref l0) 14 30).bind fun x87 => (ldI .int h (.ref x87) (l4 - 1)).bind fun x94 => (stI h (.ref x79) (l4 - 1) (-x94)).bind fun h96 => k6 l0 l1 l3 l4 (l5 + 1) h96) else ((gO h (.ref l0) 14 30).bind fun x104 => (ldI .int h (.ref x104) ((l4 + (-1)) - 1)).bind fun x111 => (gO h (.ref l0) 14 30).bind fun x116 => (ldI .int h (.ref x116) (l4 + (-1))).bind fun x121 => if x18 = 6 then (if 0 ≤ (lg_cmp x111.toInt64 x121.toInt64) then (s_X14_valueOf_211 k6 l0 l1 l3 (l4 + (-1)) l5 x18 x111.toInt64 x121.toInt64 0 h) else (s_X14_valueOf_211 k6 l0 l1 l3 (l4 + (-1)) l5 x18 x111.toInt64 x121.toInt64 1 h)) else (if x18 = 7 then (if (lg_cmp x111.toInt64 x121.toInt64) ≤ 0 then (s_X14_valueOf_211 k6 l0 l1 l3 (l4 + (-1)) l5 x18 x111.toInt64 x121.toInt64 0 h) else (s_X14_valueOf_211 k6 l0 l1 l3 (l4 + (-1)) l5 x18 x111.toInt64 x121.toInt64 1 h)) else (if x18 = 8 then (if (lg_cmp x111.toInt64 x121.toInt64) = 0 then (s_X14_valueOf_211 k6 l0 l1 l3 (l4 + (-1)) l5 x18 x111.toInt64 x121.toInt64 1 h) else (s_X14_valueOf_211 k6 l0 l1 l3 (l4 + (-1)) l5 x18 x111.toInt64 x121.toInt64 0 h)) else (if (lg_cmp (x111.toInt64 + x121.toInt64) 2) = 0 then (s_X14_valueOf_211 k6 l0 l1 l3 (l4 + (-1)) l5 x18 x111.toInt64 x121.toInt64 1 h) else (s_X14_valueOf_211 k6 l0 l1 l3 (l4 + (-1)) l5 x18 x111.toInt64 x121.toInt64 0 h))))))))
def s_X14_valueOf_6  (n : Nat) : Nat → Nat → Int32 → Int32 → Int32 → aH → aO := lpF (fun _ _ _ _ _ _ => none) (s_X14_valueOf_6_b ) n
def s_X14_valueOf (o : Nat) (a1 : Nat) (a2 : Int32) (a3 : Int32) (h : aH) : aO :=
  s_X14_valueOf_6 FU o a1 a3 0 a2 h
section
variable {p : Program} {l : Launch} {e : Env} {s : State} {m : MethodId} {args : Array Value} {below : List Frame} {meth : Method} {c : Code} {D : va_G} {B0 : Nat} {X : Nat → Nat} {ws0 : va_W} {r : aR} {h' : aH} {mc ms : Nat}
theorem t_X14_valueOf_65 (C : Cx p l s m args meth c B0 X RX14 "valueOf" cX14_valueOf 12 (some .int) []) {k6 : Nat → Nat → Int32 → Int32 → Int32 → aH → aO} (K6 : ∀ (l0 : Nat) (l1 : Nat) (l3 : Int32) (l4 : Int32) (l5 : Int32) (h : aH), k6 l0 l1 l3 l4 l5 h = some (r, h') → Ev p l e { frames := 2, cells := mc, slots := ms, locals := 44 } s m args below meth c D B0 X ws0 r h' mc ms 12 mc ms 6 [some (.ref l0), some (.ref l1), none, some (.int l3), some (.int l4), some (.int l5), none, none, none, none, none, none] [] h) {l0 : Nat} {l1 : Nat} {l3 : Int32} {l4 : Int32} {l5 : Int32} {s0 : Int32} {s1 : Int32} {s2 : Nat} {h : aH} (hs : s_X14_valueOf_65 k6 l0 l1 l3 l4 l5 s0 s1 s2 h = some (r, h')) : Ev p l e { frames := 2, cells := mc, slots := ms, locals := 44 } s m args below meth c D B0 X ws0 r h' mc ms 12 mc ms 65 [some (.ref l0), some (.ref l1), none, some (.int l3), some (.int l4), some (.int l5), none, none, none, none, none, none] [.int s0, .int s1, .ref s2] h := by
  unfold s_X14_valueOf_65 at hs
  obtain ⟨h65, e65, hs⟩ := aB hs
  refine ev_iast C e65 dX14_valueOf_65 ?_
  refine ev_iinc C (i := 4) (n := 1) (x := l4) (v := l4 + 1) rfl (congrArg (fun z => l4 + z) (show Int32.ofInt 1 = 1 by decide)) (by decide) dX14_valueOf_66 ?_
  refine ev_goto C (tgt := 283) (by decide) dX14_valueOf_69 ?_
  refine ev_iinc C (i := 5) (n := 1) (x := l5) (v := l5 + 1) rfl (congrArg (fun z => l5 + z) (show Int32.ofInt 1 = 1 by decide)) (by decide) dX14_valueOf_283 ?_
  refine ev_goto C (tgt := 6) (by decide) dX14_valueOf_286 ?_
  exact (K6 _ _ _ _ _ _ hs)
theorem t_X14_valueOf_32 (C : Cx p l s m args meth c B0 X RX14 "valueOf" cX14_valueOf 12 (some .int) []) {k6 : Nat → Nat → Int32 → Int32 → Int32 → aH → aO} (K6 : ∀ (l0 : Nat) (l1 : Nat) (l3 : Int32) (l4 : Int32) (l5 : Int32) (h : aH), k6 l0 l1 l3 l4 l5 h = some (r, h') → Ev p l e { frames := 2, cells := mc, slots := ms, locals := 44 } s m args below meth c D B0 X ws0 r h' mc ms 12 mc ms 6 [some (.ref l0), some (.ref l1), none, some (.int l3), some (.int l4), some (.int l5), none, none, none, none, none, none] [] h) {l0 : Nat} {l1 : Nat} {l3 : Int32} {l4 : Int32} {l5 : Int32} {l6 : Int32} {h : aH} (hs : s_X14_valueOf_32 k6 l0 l1 l3 l4 l5 l6 h = some (r, h')) : Ev p l e { frames := 2, cells := mc, slots := ms, locals := 44 } s m args below meth c D B0 X ws0 r h' mc ms 12 mc ms 32 [some (.ref l0), some (.ref l1), none, some (.int l3), some (.int l4), some (.int l5), some (.int l6), none, none, none, none, none] [] h := by
  unfold s_X14_valueOf_32 at hs
  refine ev_aload_n C (x := .ref l0) rfl trivial dX14_valueOf_32 ?_
  obtain ⟨x33, e33, hs⟩ := aB hs
  refine ev_get C (ci := 14) (k := 30) rfl wu_14 (by decide) wf_X14_48 (gO_F e33) dX14_valueOf_33 ?_
  refine ev_iload C rfl dX14_valueOf_36 ?_
  refine ev_iload C rfl dX14_valueOf_38 ?_
  refine ev_if_ne C (tgt := 53) (by decide) dX14_valueOf_40 (fun q40 => ?_) (fun q40 => ?_)
  · replace hs := (if_neg q40).symm.trans hs
    refine ev_aload_n C (x := .ref l0) rfl trivial dX14_valueOf_53 ?_
    obtain ⟨x54, e54, hs⟩ := aB hs
    refine ev_get C (ci := 14) (k := 29) rfl wu_14 (by decide) wf_X14_44 (gO_F e54) dX14_valueOf_54 ?_
    refine ev_aload_n C (x := .ref l1) rfl trivial dX14_valueOf_57 ?_
    obtain ⟨x58, e58, hs⟩ := aB hs
    refine ev_getN C (ci := 13) (k := 13) rfl wu_13 (by decide) wg_X14_433 (gO_F e58) dX14_valueOf_58 ?_
    refine ev_iload C rfl dX14_valueOf_61 ?_
    obtain ⟨x63, e63, hs⟩ := aB hs
    refine ev_iald C e63 dX14_valueOf_63 ?_
    obtain ⟨x64, e64, hs⟩ := aB hs
    refine ev_iald C e64 dX14_valueOf_64 ?_
    exact Ev.keep [true, true, true, true, true, true, false, true, true, true, true, true] (t_X14_valueOf_65 C K6 hs)
  · replace hs := (if_pos q40).symm.trans hs
    refine ev_aload_n C (x := .ref l1) rfl trivial dX14_valueOf_43 ?_
    obtain ⟨x44, e44, hs⟩ := aB hs
    refine ev_getN C (ci := 13) (k := 13) rfl wu_13 (by decide) wg_X14_433 (gO_F e44) dX14_valueOf_44 ?_
    refine ev_iload C rfl dX14_valueOf_47 ?_
    obtain ⟨x49, e49, hs⟩ := aB hs
    refine ev_iald C e49 dX14_valueOf_49 ?_
    refine ev_goto C (tgt := 65) (by decide) dX14_valueOf_50 ?_
    exact Ev.keep [true, true, true, true, true, true, false, true, true, true, true, true] (t_X14_valueOf_65 C K6 hs)
theorem t_X14_valueOf_282 (C : Cx p l s m args meth c B0 X RX14 "valueOf" cX14_valueOf 12 (some .int) []) {k6 : Nat → Nat → Int32 → Int32 → Int32 → aH → aO} (K6 : ∀ (l0 : Nat) (l1 : Nat) (l3 : Int32) (l4 : Int32) (l5 : Int32) (h : aH), k6 l0 l1 l3 l4 l5 h = some (r, h') → Ev p l e { frames := 2, cells := mc, slots := ms, locals := 44 } s m args below meth c D B0 X ws0 r h' mc ms 12 mc ms 6 [some (.ref l0), some (.ref l1), none, some (.int l3), some (.int l4), some (.int l5), none, none, none, none, none, none] [] h) {l0 : Nat} {l1 : Nat} {l3 : Int32} {l4 : Int32} {l5 : Int32} {s0 : Int32} {s1 : Int32} {s2 : Nat} {h : aH} (hs : s_X14_valueOf_282 k6 l0 l1 l3 l4 l5 s0 s1 s2 h = some (r, h')) : Ev p l e { frames := 2, cells := mc, slots := ms, locals := 44 } s m args below meth c D B0 X ws0 r h' mc ms 12 mc ms 282 [some (.ref l0), some (.ref l1), none, some (.int l3), some (.int l4), some (.int l5), none, none, none, none, none, none] [.int s0, .int s1, .ref s2] h := by
  unfold s_X14_valueOf_282 at hs
  obtain ⟨h282, e282, hs⟩ := aB hs
  refine ev_iast C e282 dX14_valueOf_282 ?_
  refine ev_iinc C (i := 5) (n := 1) (x := l5) (v := l5 + 1) rfl (congrArg (fun z => l5 + z) (show Int32.ofInt 1 = 1 by decide)) (by decide) dX14_valueOf_283 ?_
  refine ev_goto C (tgt := 6) (by decide) dX14_valueOf_286 ?_
  exact (K6 _ _ _ _ _ _ hs)
theorem t_X14_valueOf_211 (C : Cx p l s m args meth c B0 X RX14 "valueOf" cX14_valueOf 12 (some .int) []) {k6 : Nat → Nat → Int32 → Int32 → Int32 → aH → aO} (K6 : ∀ (l0 : Nat) (l1 : Nat) (l3 : Int32) (l4 : Int32) (l5 : Int32) (h : aH), k6 l0 l1 l3 l4 l5 h = some (r, h') → Ev p l e { frames := 2, cells := mc, slots := ms, locals := 44 } s m args below meth c D B0 X ws0 r h' mc ms 12 mc ms 6 [some (.ref l0), some (.ref l1), none, some (.int l3), some (.int l4), some (.int l5), none, none, none, none, none, none] [] h) {l0 : Nat} {l1 : Nat} {l3 : Int32} {l4 : Int32} {l5 : Int32} {l6 : Int32} {l7 : Int64} {l9 : Int64} {s0 : Int32} {h : aH} (hs : s_X14_valueOf_211 k6 l0 l1 l3 l4 l5 l6 l7 l9 s0 h = some (r, h')) : Ev p l e { frames := 2, cells := mc, slots := ms, locals := 44 } s m args below meth c D B0 X ws0 r h' mc ms 12 mc ms 211 [some (.ref l0), some (.ref l1), none, some (.int l3), some (.int l4), some (.int l5), some (.int l6), some (.long l7), none, some (.long l9), none, none] [.int s0] h := by
  unfold s_X14_valueOf_211 at hs
  refine ev_istore C (by decide) dX14_valueOf_211 ?_
  refine ev_aload_n C (x := .ref l0) rfl trivial dX14_valueOf_213 ?_
  obtain ⟨x214, e214, hs⟩ := aB hs
  refine ev_get C (ci := 14) (k := 30) rfl wu_14 (by decide) wf_X14_48 (gO_F e214) dX14_valueOf_214 ?_
  refine ev_iload C rfl dX14_valueOf_217 ?_
  refine ev_iconst C (v := 1) dX14_valueOf_219 (by decide) ?_
  refine ev_isub C dX14_valueOf_220 ?_
  refine ev_iload C rfl dX14_valueOf_221 ?_
  refine ev_iconst C (v := 2) dX14_valueOf_223 (by decide) ?_
  refine ev_icmp_ne C (tgt := 238) (by decide) dX14_valueOf_224 (fun q224 => ?_) (fun q224 => ?_)
  · replace hs := (if_neg q224).symm.trans hs
    refine ev_iload C rfl dX14_valueOf_238 ?_
    refine ev_iconst C (v := 3) dX14_valueOf_240 (by decide) ?_
    refine ev_icmp_ne C (tgt := 255) (by decide) dX14_valueOf_241 (fun q241 => ?_) (fun q241 => ?_)
    · replace hs := (if_neg q241).symm.trans hs
      refine ev_iload C rfl dX14_valueOf_255 ?_
      refine ev_iconst C (v := 4) dX14_valueOf_257 (by decide) ?_
      refine ev_icmp_ne C (tgt := 272) (by decide) dX14_valueOf_258 (fun q258 => ?_) (fun q258 => ?_)
      · replace hs := (if_neg q258).symm.trans hs
        refine ev_iload C rfl dX14_valueOf_272 ?_
        refine ev_if_eq C (tgt := 281) (by decide) dX14_valueOf_274 (fun q274 => ?_) (fun q274 => ?_)
        · replace hs := (if_pos q274).symm.trans hs
          refine ev_iconst C (v := 0) dX14_valueOf_281 (by decide) ?_
          exact Ev.keep [true, true, true, true, true, true, false, false, true, false, true, false] (t_X14_valueOf_282 C K6 hs)
        · replace hs := (if_neg q274).symm.trans hs
          refine ev_iconst C (v := 1) dX14_valueOf_277 (by decide) ?_
          refine ev_goto C (tgt := 282) (by decide) dX14_valueOf_278 ?_
          exact Ev.keep [true, true, true, true, true, true, false, false, true, false, true, false] (t_X14_valueOf_282 C K6 hs)
      · replace hs := (if_pos q258).symm.trans hs
        refine ev_lload C rfl dX14_valueOf_261 ?_
        refine ev_lload C rfl dX14_valueOf_263 ?_
        refine ev_lmul C dX14_valueOf_265 ?_
        obtain ⟨x266, h266, e266, hs⟩ := cI_at hs
        refine ev_callS C (T_X14_bound _ _ _ _ e266) wc_X14_bound wm_X14_451 wt_X14_bound wz_X14 hy_X14_bound ⟨(Nat.le_of_ble_eq_true rfl), (Nat.le_of_ble_eq_true rfl)⟩ ⟨(Nat.le_refl _), (Nat.le_refl _)⟩ (Nat.le_of_ble_eq_true rfl) rfl dX14_valueOf_266 ?_
        refine ev_goto C (tgt := 282) (by decide) dX14_valueOf_269 ?_
        exact Ev.keep [true, true, true, true, true, true, false, false, true, false, true, false] (t_X14_valueOf_282 C K6 hs)
    · replace hs := (if_pos q241).symm.trans hs
      refine ev_lload C rfl dX14_valueOf_244 ?_
      refine ev_lload C rfl dX14_valueOf_246 ?_
      refine ev_lsub C dX14_valueOf_248 ?_
      obtain ⟨x249, h249, e249, hs⟩ := cI_at hs
      refine ev_callS C (T_X14_bound _ _ _ _ e249) wc_X14_bound wm_X14_451 wt_X14_bound wz_X14 hy_X14_bound ⟨(Nat.le_of_ble_eq_true rfl), (Nat.le_of_ble_eq_true rfl)⟩ ⟨(Nat.le_refl _), (Nat.le_refl _)⟩ (Nat.le_of_ble_eq_true rfl) rfl dX14_valueOf_249 ?_
      refine ev_goto C (tgt := 282) (by decide) dX14_valueOf_252 ?_
      exact Ev.keep [true, true, true, true, true, true, false, false, true, false, true, false] (t_X14_valueOf_282 C K6 hs)
  · replace hs := (if_pos q224).symm.trans hs
    refine ev_lload C rfl dX14_valueOf_227 ?_
    refine ev_lload C rfl dX14_valueOf_229 ?_
    refine ev_ladd C dX14_valueOf_231 ?_
    obtain ⟨x232, h232, e232, hs⟩ := cI_at hs
    refine ev_callS C (T_X14_bound _ _ _ _ e232) wc_X14_bound wm_X14_451 wt_X14_bound wz_X14 hy_X14_bound ⟨(Nat.le_of_ble_eq_true rfl), (Nat.le_of_ble_eq_true rfl)⟩ ⟨(Nat.le_refl _), (Nat.le_refl _)⟩ (Nat.le_of_ble_eq_true rfl) rfl dX14_valueOf_232 ?_
    refine ev_goto C (tgt := 282) (by decide) dX14_valueOf_235 ?_
    exact Ev.keep [true, true, true, true, true, true, false, false, true, false, true, false] (t_X14_valueOf_282 C K6 hs)
theorem t_X14_valueOf_6_b (C : Cx p l s m args meth c B0 X RX14 "valueOf" cX14_valueOf 12 (some .int) [])   {k6 : Nat → Nat → Int32 → Int32 → Int32 → aH → aO} (K6 : ∀ (l0 : Nat) (l1 : Nat) (l3 : Int32) (l4 : Int32) (l5 : Int32) (h : aH), k6 l0 l1 l3 l4 l5 h = some (r, h') → Ev p l e { frames := 2, cells := mc, slots := ms, locals := 44 } s m args below meth c D B0 X ws0 r h' mc ms 12 mc ms 6 [some (.ref l0), some (.ref l1), none, some (.int l3), some (.int l4), some (.int l5), none, none, none, none, none, none] [] h) {l0 : Nat} {l1 : Nat} {l3 : Int32} {l4 : Int32} {l5 : Int32} {h : aH} (hs : s_X14_valueOf_6_b  k6 l0 l1 l3 l4 l5 h = some (r, h')) : Ev p l e { frames := 2, cells := mc, slots := ms, locals := 44 } s m args below meth c D B0 X ws0 r h' mc ms 12 mc ms 6 [some (.ref l0), some (.ref l1), none, some (.int l3), some (.int l4), some (.int l5), none, none, none, none, none, none] [] h := by
  unfold s_X14_valueOf_6_b at hs
  refine ev_iload C rfl dX14_valueOf_6 ?_
  refine ev_iload_n C rfl dX14_valueOf_8 ?_
  refine ev_icmp_ge C (tgt := 289) (by decide) dX14_valueOf_9 (fun q9 => ?_) (fun q9 => ?_)
  · replace hs := (if_pos q9).symm.trans hs
    refine ev_aload_n C (x := .ref l0) rfl trivial dX14_valueOf_289 ?_
    obtain ⟨x290, e290, hs⟩ := aB hs
    refine ev_get C (ci := 14) (k := 30) rfl wu_14 (by decide) wf_X14_48 (gO_F e290) dX14_valueOf_290 ?_
    refine ev_iconst C (v := 0) dX14_valueOf_293 (by decide) ?_
    obtain ⟨x294, e294, hs⟩ := aB hs
    refine ev_iald C e294 dX14_valueOf_294 ?_
    cases hs
    exact ev_iret C rfl rfl (Nat.le_refl _) (Nat.le_refl _) rfl dX14_valueOf_295
  · replace hs := (if_neg q9).symm.trans hs
    refine ev_aload_n C (x := .ref l1) rfl trivial dX14_valueOf_12 ?_
    obtain ⟨x13, e13, hs⟩ := aB hs
    refine ev_getN C (ci := 13) (k := 12) rfl wu_13 (by decide) wg_X14_430 (gO_F e13) dX14_valueOf_13 ?_
    refine ev_iload C rfl dX14_valueOf_16 ?_
    obtain ⟨x18, e18, hs⟩ := aB hs
    refine ev_iald C e18 dX14_valueOf_18 ?_
    refine ev_istore C (by decide) dX14_valueOf_19 ?_
    refine ev_iload C rfl dX14_valueOf_21 ?_
    refine ev_if_eq C (tgt := 32) (by decide) dX14_valueOf_23 (fun q23 => ?_) (fun q23 => ?_)
    · replace hs := (if_pos q23).symm.trans hs
      exact (t_X14_valueOf_32 C K6 hs)
    · replace hs := (if_neg q23).symm.trans hs
      refine ev_iload C rfl dX14_valueOf_26 ?_
      refine ev_iconst C (v := 1) dX14_valueOf_28 (by decide) ?_
      refine ev_icmp_ne C (tgt := 72) (by decide) dX14_valueOf_29 (fun q29 => ?_) (fun q29 => ?_)
      · replace hs := (if_neg q29).symm.trans hs
        refine ev_iload C rfl dX14_valueOf_72 ?_
        refine ev_iconst C (v := 5) dX14_valueOf_74 (by decide) ?_
        refine ev_icmp_ne C (tgt := 100) (by decide) dX14_valueOf_75 (fun q75 => ?_) (fun q75 => ?_)
        · replace hs := (if_neg q75).symm.trans hs
          refine ev_iinc C (i := 4) (n := -1) (x := l4) (v := l4 + (-1)) rfl (congrArg (fun z => l4 + z) (show Int32.ofInt (-1) = (-1) by decide)) (by decide) dX14_valueOf_100 ?_
          refine ev_aload_n C (x := .ref l0) rfl trivial dX14_valueOf_103 ?_
          obtain ⟨x104, e104, hs⟩ := aB hs
          refine ev_get C (ci := 14) (k := 30) rfl wu_14 (by decide) wf_X14_48 (gO_F e104) dX14_valueOf_104 ?_
          refine ev_iload C rfl dX14_valueOf_107 ?_
          refine ev_iconst C (v := 1) dX14_valueOf_109 (by decide) ?_
          refine ev_isub C dX14_valueOf_110 ?_
          obtain ⟨x111, e111, hs⟩ := aB hs
          refine ev_iald C e111 dX14_valueOf_111 ?_
          refine ev_i2l C dX14_valueOf_112 ?_
          refine ev_lstore C (by decide) dX14_valueOf_113 ?_
          refine ev_aload_n C (x := .ref l0) rfl trivial dX14_valueOf_115 ?_
          obtain ⟨x116, e116, hs⟩ := aB hs
          refine ev_get C (ci := 14) (k := 30) rfl wu_14 (by decide) wf_X14_48 (gO_F e116) dX14_valueOf_116 ?_
          refine ev_iload C rfl dX14_valueOf_119 ?_
          obtain ⟨x121, e121, hs⟩ := aB hs
          refine ev_iald C e121 dX14_valueOf_121 ?_
          refine ev_i2l C dX14_valueOf_122 ?_
          refine ev_lstore C (by decide) dX14_valueOf_123 ?_
          refine ev_iload C rfl dX14_valueOf_125 ?_
          refine ev_bipush C (v := 6) dX14_valueOf_127 (by decide) ?_
          refine ev_icmp_ne C (tgt := 148) (by decide) dX14_valueOf_129 (fun q129 => ?_) (fun q129 => ?_)
          · replace hs := (if_neg q129).symm.trans hs
            refine ev_iload C rfl dX14_valueOf_148 ?_
            refine ev_bipush C (v := 7) dX14_valueOf_150 (by decide) ?_
            refine ev_icmp_ne C (tgt := 171) (by decide) dX14_valueOf_152 (fun q152 => ?_) (fun q152 => ?_)
            · replace hs := (if_neg q152).symm.trans hs
              refine ev_iload C rfl dX14_valueOf_171 ?_
              refine ev_bipush C (v := 8) dX14_valueOf_173 (by decide) ?_
              refine ev_icmp_ne C (tgt := 194) (by decide) dX14_valueOf_175 (fun q175 => ?_) (fun q175 => ?_)
              · replace hs := (if_neg q175).symm.trans hs
                refine ev_lload C rfl dX14_valueOf_194 ?_
                refine ev_lload C rfl dX14_valueOf_196 ?_
                refine ev_ladd C dX14_valueOf_198 ?_
                refine ev_ldc2 C wv_X14_449 dX14_valueOf_199 ?_
                refine ev_lcmp C dX14_valueOf_202 ?_
                refine ev_if_ne C (tgt := 210) (by decide) dX14_valueOf_203 (fun q203 => ?_) (fun q203 => ?_)
                · replace hs := (if_neg q203).symm.trans hs
                  refine ev_iconst C (v := 0) dX14_valueOf_210 (by decide) ?_
                  exact (t_X14_valueOf_211 C K6 hs)
                · replace hs := (if_pos q203).symm.trans hs
                  refine ev_iconst C (v := 1) dX14_valueOf_206 (by decide) ?_
                  refine ev_goto C (tgt := 211) (by decide) dX14_valueOf_207 ?_
                  exact (t_X14_valueOf_211 C K6 hs)
              · replace hs := (if_pos q175).symm.trans hs
                refine ev_lload C rfl dX14_valueOf_178 ?_
                refine ev_lload C rfl dX14_valueOf_180 ?_
                refine ev_lcmp C dX14_valueOf_182 ?_
                refine ev_if_ne C (tgt := 190) (by decide) dX14_valueOf_183 (fun q183 => ?_) (fun q183 => ?_)
                · replace hs := (if_neg q183).symm.trans hs
                  refine ev_iconst C (v := 0) dX14_valueOf_190 (by decide) ?_
                  refine ev_goto C (tgt := 211) (by decide) dX14_valueOf_191 ?_
                  exact (t_X14_valueOf_211 C K6 hs)
                · replace hs := (if_pos q183).symm.trans hs
                  refine ev_iconst C (v := 1) dX14_valueOf_186 (by decide) ?_
                  refine ev_goto C (tgt := 211) (by decide) dX14_valueOf_187 ?_
                  exact (t_X14_valueOf_211 C K6 hs)
            · replace hs := (if_pos q152).symm.trans hs
              refine ev_lload C rfl dX14_valueOf_155 ?_
              refine ev_lload C rfl dX14_valueOf_157 ?_
              refine ev_lcmp C dX14_valueOf_159 ?_
              refine ev_if_le C (tgt := 167) (by decide) dX14_valueOf_160 (fun q160 => ?_) (fun q160 => ?_)
              · replace hs := (if_pos q160).symm.trans hs
                refine ev_iconst C (v := 0) dX14_valueOf_167 (by decide) ?_
                refine ev_goto C (tgt := 211) (by decide) dX14_valueOf_168 ?_
                exact (t_X14_valueOf_211 C K6 hs)
              · replace hs := (if_neg q160).symm.trans hs
                refine ev_iconst C (v := 1) dX14_valueOf_163 (by decide) ?_
                refine ev_goto C (tgt := 211) (by decide) dX14_valueOf_164 ?_
                exact (t_X14_valueOf_211 C K6 hs)
          · replace hs := (if_pos q129).symm.trans hs
            refine ev_lload C rfl dX14_valueOf_132 ?_
            refine ev_lload C rfl dX14_valueOf_134 ?_
            refine ev_lcmp C dX14_valueOf_136 ?_
            refine ev_if_ge C (tgt := 144) (by decide) dX14_valueOf_137 (fun q137 => ?_) (fun q137 => ?_)
            · replace hs := (if_pos q137).symm.trans hs
              refine ev_iconst C (v := 0) dX14_valueOf_144 (by decide) ?_
              refine ev_goto C (tgt := 211) (by decide) dX14_valueOf_145 ?_
              exact (t_X14_valueOf_211 C K6 hs)
            · replace hs := (if_neg q137).symm.trans hs
              refine ev_iconst C (v := 1) dX14_valueOf_140 (by decide) ?_
              refine ev_goto C (tgt := 211) (by decide) dX14_valueOf_141 ?_
              exact (t_X14_valueOf_211 C K6 hs)
        · replace hs := (if_pos q75).symm.trans hs
          refine ev_aload_n C (x := .ref l0) rfl trivial dX14_valueOf_78 ?_
          obtain ⟨x79, e79, hs⟩ := aB hs
          refine ev_get C (ci := 14) (k := 30) rfl wu_14 (by decide) wf_X14_48 (gO_F e79) dX14_valueOf_79 ?_
          refine ev_iload C rfl dX14_valueOf_82 ?_
          refine ev_iconst C (v := 1) dX14_valueOf_84 (by decide) ?_
          refine ev_isub C dX14_valueOf_85 ?_
          refine ev_aload_n C (x := .ref l0) rfl trivial dX14_valueOf_86 ?_
          obtain ⟨x87, e87, hs⟩ := aB hs
          refine ev_get C (ci := 14) (k := 30) rfl wu_14 (by decide) wf_X14_48 (gO_F e87) dX14_valueOf_87 ?_
          refine ev_iload C rfl dX14_valueOf_90 ?_
          refine ev_iconst C (v := 1) dX14_valueOf_92 (by decide) ?_
          refine ev_isub C dX14_valueOf_93 ?_
          obtain ⟨x94, e94, hs⟩ := aB hs
          refine ev_iald C e94 dX14_valueOf_94 ?_
          refine ev_ineg C dX14_valueOf_95 ?_
          obtain ⟨h96, e96, hs⟩ := aB hs
          refine ev_iast C e96 dX14_valueOf_96 ?_
          refine ev_goto C (tgt := 283) (by decide) dX14_valueOf_97 ?_
          refine ev_iinc C (i := 5) (n := 1) (x := l5) (v := l5 + 1) rfl (congrArg (fun z => l5 + z) (show Int32.ofInt 1 = 1 by decide)) (by decide) dX14_valueOf_283 ?_
          refine ev_goto C (tgt := 6) (by decide) dX14_valueOf_286 ?_
          exact Ev.keep [true, true, true, true, true, true, false, true, true, true, true, true] (K6 _ _ _ _ _ _ hs)
      · replace hs := (if_pos q29).symm.trans hs
        exact (t_X14_valueOf_32 C K6 hs)
theorem t_X14_valueOf_6 (C : Cx p l s m args meth c B0 X RX14 "valueOf" cX14_valueOf 12 (some .int) [])   : ∀ (n : Nat) {l0 : Nat} {l1 : Nat} {l3 : Int32} {l4 : Int32} {l5 : Int32} {h : aH} (hs : s_X14_valueOf_6  n l0 l1 l3 l4 l5 h = some (r, h')), Ev p l e { frames := 2, cells := mc, slots := ms, locals := 44 } s m args below meth c D B0 X ws0 r h' mc ms 12 mc ms 6 [some (.ref l0), some (.ref l1), none, some (.int l3), some (.int l4), some (.int l5), none, none, none, none, none, none] [] h
  | 0, _, _, _, _, _, _, hs => nomatch hs
  | n + 1, _, _, _, _, _, _, hs => t_X14_valueOf_6_b C  (k6 := s_X14_valueOf_6  n) (fun _ _ _ _ _ _ hs => t_X14_valueOf_6 C  n hs) hs
theorem hy_X14_valueOf : yX14_valueOf.cls ≠ "java/lang/invoke/MethodHandle" ∧ yX14_valueOf.cls ≠ "java/lang/invoke/VarHandle" ∧ (parseMethodDescriptor yX14_valueOf.desc).map (fun d => d.parameters.length) = some 3 := by decide +kernel
theorem T_X14_valueOf (o : Nat) (a1 : Nat) (a2 : Int32) (a3 : Int32) (h : aH) (r : aR) (h' : aH) (hs : s_X14_valueOf o a1 a2 a3 h = some (r, h')) : Mt yX14_valueOf (Cond.code yX14_valueOf cX14_valueOf 12 (some .int) :: aTB) 2 44 0 0 [.ref o, .ref a1, .int a2, .int a3] h r h' := by
  unfold s_X14_valueOf at hs
  refine Mt_of (k := 8) (by decide) rfl (fun p l e s m args below meth c D B0 X ws0 C => ?_)
  show Ev p l e { frames := 2, cells := 0, slots := 0, locals := 44 } s m args below meth c D B0 X ws0 r h' 0 0 12 0 0 0 [some (.ref o), some (.ref a1), some (.int a2), some (.int a3), none, none, none, none, none, none, none, none] [] h
  refine ev_iconst C (v := 0) dX14_valueOf_0 (by decide) ?_
  refine ev_istore C (by decide) dX14_valueOf_1 ?_
  refine ev_iload_n C rfl dX14_valueOf_3 ?_
  refine ev_istore C (by decide) dX14_valueOf_4 ?_
  exact Ev.keep [true, true, false, true, true, true, true, true, true, true, true, true] (t_X14_valueOf_6 C  FU hs)
end
