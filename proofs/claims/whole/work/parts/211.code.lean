-- X14_count
theorem dX14_count_0 : decode cX14_count 0 = .ok (.aload_n 0, 1) := by decide +kernel
theorem dX14_count_1 : decode cX14_count 1 = .ok (.iconst 0, 1) := by decide +kernel
theorem dX14_count_2 : decode cX14_count 2 = .ok (.putfield 154, 3) := by decide +kernel
theorem dX14_count_5 : decode cX14_count 5 = .ok (.iload_n 1, 1) := by decide +kernel
theorem dX14_count_6 : decode cX14_count 6 = .ok (.bipush 11, 2) := by decide +kernel
theorem dX14_count_8 : decode cX14_count 8 = .ok (.if_icmp .ne 8, 3) := by decide +kernel
theorem dX14_count_11 : decode cX14_count 11 = .ok (.aload_n 0, 1) := by decide +kernel
theorem dX14_count_12 : decode cX14_count 12 = .ok (.getfield 354, 3) := by decide +kernel
theorem dX14_count_15 : decode cX14_count 15 = .ok (.ireturn, 1) := by decide +kernel
theorem dX14_count_16 : decode cX14_count 16 = .ok (.aload_n 0, 1) := by decide +kernel
theorem dX14_count_17 : decode cX14_count 17 = .ok (.getfield 376, 3) := by decide +kernel
theorem dX14_count_20 : decode cX14_count 20 = .ok (.ifnull 13, 3) := by decide +kernel
theorem dX14_count_23 : decode cX14_count 23 = .ok (.iload_n 1, 1) := by decide +kernel
theorem dX14_count_24 : decode cX14_count 24 = .ok (.iconst 0, 1) := by decide +kernel
theorem dX14_count_25 : decode cX14_count 25 = .ok (.bipush 13, 2) := by decide +kernel
theorem dX14_count_27 : decode cX14_count 27 = .ok (.invokestatic 313, 3) := by decide +kernel
theorem dX14_count_30 : decode cX14_count 30 = .ok (.ifCond .ne 5, 3) := by decide +kernel
theorem dX14_count_33 : decode cX14_count 33 = .ok (.iconst (-1), 1) := by decide +kernel
theorem dX14_count_34 : decode cX14_count 34 = .ok (.ireturn, 1) := by decide +kernel
theorem dX14_count_35 : decode cX14_count 35 = .ok (.iload_n 1, 1) := by decide +kernel
theorem dX14_count_36 : decode cX14_count 36 = .ok (.tableswitch 135 5 13 #[52, 57, 62, 67, 75, 112, 135, 125, 130], 52) := by decide +kernel
theorem dX14_count_88 : decode cX14_count 88 = .ok (.aload_n 0, 1) := by decide +kernel
theorem dX14_count_89 : decode cX14_count 89 = .ok (.getfield 379, 3) := by decide +kernel
theorem dX14_count_92 : decode cX14_count 92 = .ok (.ireturn, 1) := by decide +kernel
theorem dX14_count_93 : decode cX14_count 93 = .ok (.aload_n 0, 1) := by decide +kernel
theorem dX14_count_94 : decode cX14_count 94 = .ok (.getfield 382, 3) := by decide +kernel
theorem dX14_count_97 : decode cX14_count 97 = .ok (.ireturn, 1) := by decide +kernel
theorem dX14_count_98 : decode cX14_count 98 = .ok (.aload_n 0, 1) := by decide +kernel
theorem dX14_count_99 : decode cX14_count 99 = .ok (.getfield 388, 3) := by decide +kernel
theorem dX14_count_102 : decode cX14_count 102 = .ok (.ireturn, 1) := by decide +kernel
theorem dX14_count_103 : decode cX14_count 103 = .ok (.aload_n 0, 1) := by decide +kernel
theorem dX14_count_104 : decode cX14_count 104 = .ok (.getfield 376, 3) := by decide +kernel
theorem dX14_count_107 : decode cX14_count 107 = .ok (.getfield 320, 3) := by decide +kernel
theorem dX14_count_110 : decode cX14_count 110 = .ok (.ireturn, 1) := by decide +kernel
theorem dX14_count_111 : decode cX14_count 111 = .ok (.iconst 0, 1) := by decide +kernel
theorem dX14_count_112 : decode cX14_count 112 = .ok (.istore_n 2, 1) := by decide +kernel
theorem dX14_count_113 : decode cX14_count 113 = .ok (.iconst 0, 1) := by decide +kernel
theorem dX14_count_114 : decode cX14_count 114 = .ok (.istore_n 3, 1) := by decide +kernel
theorem dX14_count_115 : decode cX14_count 115 = .ok (.iload_n 3, 1) := by decide +kernel
theorem dX14_count_116 : decode cX14_count 116 = .ok (.aload_n 0, 1) := by decide +kernel
theorem dX14_count_117 : decode cX14_count 117 = .ok (.getfield 379, 3) := by decide +kernel
theorem dX14_count_120 : decode cX14_count 120 = .ok (.if_icmp .ge 26, 3) := by decide +kernel
theorem dX14_count_123 : decode cX14_count 123 = .ok (.iload_n 2, 1) := by decide +kernel
theorem dX14_count_124 : decode cX14_count 124 = .ok (.aload_n 0, 1) := by decide +kernel
theorem dX14_count_125 : decode cX14_count 125 = .ok (.getfield 37, 3) := by decide +kernel
theorem dX14_count_128 : decode cX14_count 128 = .ok (.iload_n 3, 1) := by decide +kernel
theorem dX14_count_129 : decode cX14_count 129 = .ok (.baload, 1) := by decide +kernel
theorem dX14_count_130 : decode cX14_count 130 = .ok (.ifCond .eq 7, 3) := by decide +kernel
theorem dX14_count_133 : decode cX14_count 133 = .ok (.iconst 1, 1) := by decide +kernel
theorem dX14_count_134 : decode cX14_count 134 = .ok (.goto 4, 3) := by decide +kernel
theorem dX14_count_137 : decode cX14_count 137 = .ok (.iconst 0, 1) := by decide +kernel
theorem dX14_count_138 : decode cX14_count 138 = .ok (.iadd, 1) := by decide +kernel
theorem dX14_count_139 : decode cX14_count 139 = .ok (.istore_n 2, 1) := by decide +kernel
theorem dX14_count_140 : decode cX14_count 140 = .ok (.iinc 3 1, 3) := by decide +kernel
theorem dX14_count_143 : decode cX14_count 143 = .ok (.goto (-28), 3) := by decide +kernel
theorem dX14_count_146 : decode cX14_count 146 = .ok (.iload_n 2, 1) := by decide +kernel
theorem dX14_count_147 : decode cX14_count 147 = .ok (.ireturn, 1) := by decide +kernel
theorem dX14_count_148 : decode cX14_count 148 = .ok (.aload_n 0, 1) := by decide +kernel
theorem dX14_count_149 : decode cX14_count 149 = .ok (.invokevirtual 468, 3) := by decide +kernel
theorem dX14_count_152 : decode cX14_count 152 = .ok (.ifCond .eq 7, 3) := by decide +kernel
theorem dX14_count_155 : decode cX14_count 155 = .ok (.iconst 1, 1) := by decide +kernel
theorem dX14_count_156 : decode cX14_count 156 = .ok (.goto 4, 3) := by decide +kernel
theorem dX14_count_159 : decode cX14_count 159 = .ok (.iconst 0, 1) := by decide +kernel
theorem dX14_count_160 : decode cX14_count 160 = .ok (.ireturn, 1) := by decide +kernel
theorem dX14_count_161 : decode cX14_count 161 = .ok (.aload_n 0, 1) := by decide +kernel
theorem dX14_count_162 : decode cX14_count 162 = .ok (.getfield 471, 3) := by decide +kernel
theorem dX14_count_165 : decode cX14_count 165 = .ok (.ireturn, 1) := by decide +kernel
theorem dX14_count_166 : decode cX14_count 166 = .ok (.aload_n 0, 1) := by decide +kernel
theorem dX14_count_167 : decode cX14_count 167 = .ok (.getfield 394, 3) := by decide +kernel
theorem dX14_count_170 : decode cX14_count 170 = .ok (.ireturn, 1) := by decide +kernel
theorem dX14_count_171 : decode cX14_count 171 = .ok (.aload_n 0, 1) := by decide +kernel
theorem dX14_count_172 : decode cX14_count 172 = .ok (.getfield 376, 3) := by decide +kernel
theorem dX14_count_175 : decode cX14_count 175 = .ok (.getfield 252, 3) := by decide +kernel
theorem dX14_count_178 : decode cX14_count 178 = .ok (.iload_n 1, 1) := by decide +kernel
theorem dX14_count_179 : decode cX14_count 179 = .ok (.iaload, 1) := by decide +kernel
theorem dX14_count_180 : decode cX14_count 180 = .ok (.ireturn, 1) := by decide +kernel
def s_X14_count_171  (l0 : Nat) (l1 : Int32) (h : aH) : aO :=
  (gO h (.ref l0) 14 4).bind fun x172 => (gO h (.ref x172) 13 0).bind fun x175 => (ldI .int h (.ref x175) l1).bind fun x179 => some (.inl (some (.int x179)), h)
def s_X14_count_138 (k115 : Nat → Int32 → Int32 → aH → aO) (l0 : Nat) (l3 : Int32) (s0 : Int32) (s1 : Int32) (h : aH) : aO :=
  k115 l0 (s1 + s0) (l3 + 1) h
def s_X14_count_115_b  (k115 : Nat → Int32 → Int32 → aH → aO) (l0 : Nat) (l2 : Int32) (l3 : Int32) (h : aH) : aO :=
  (gI h (.ref l0) 14 20).bind fun x117 => if x117 ≤ l3 then (some (.inl (some (.int l2)), h)) else ((gO h (.ref l0) 14 27).bind fun x125 => (ldI .boolean h (.ref x125) l3).bind fun x129 => if x129 = 0 then (s_X14_count_138 k115 l0 l3 0 l2 h) else (s_X14_count_138 k115 l0 l3 1 l2 h))
def s_X14_count_115  (n : Nat) : Nat → Int32 → Int32 → aH → aO := lpF (fun _ _ _ _ => none) (s_X14_count_115_b ) n
def s_X14_count (o : Nat) (a1 : Int32) (h : aH) : aO :=
  (pF h (.ref o) 14 0 (.int 0)).bind fun h2 => if a1 = 11 then ((gI h2 (.ref o) 14 9).bind fun x12 => some (.inl (some (.int x12)), h2)) else ((gW h2 (.ref o) 14 4).bind fun x17 => match x17 with | .null => (some (.inl (some (.int (-1))), h2)) | .ref n20 => (cI (s_X14_in a1 0 13 h2) fun x27 h27 => if x27 = 0 then (some (.inl (some (.int (-1))), h27)) else (if a1 = 5 then ((gI h27 (.ref o) 14 20).bind fun x89 => some (.inl (some (.int x89)), h27)) else (if a1 = 6 then ((gI h27 (.ref o) 14 21).bind fun x94 => some (.inl (some (.int x94)), h27)) else (if a1 = 7 then ((gI h27 (.ref o) 14 22).bind fun x99 => some (.inl (some (.int x99)), h27)) else (if a1 = 8 then ((gO h27 (.ref o) 14 4).bind fun x104 => (gI h27 (.ref x104) 13 6).bind fun x107 => some (.inl (some (.int x107)), h27)) else (if a1 = 9 then (s_X14_count_115 FU o 0 0 h27) else (if a1 = 10 then (kO h27 o 14 (cI (s_X14_isLinear o h27) fun x149 h149 => if x149 = 0 then (some (.inl (some (.int 0)), h149)) else (some (.inl (some (.int 1)), h149)))) else (if a1 = 11 then (s_X14_count_171 o a1 h27) else (if a1 = 12 then ((gI h27 (.ref o) 14 59).bind fun x162 => some (.inl (some (.int x162)), h27)) else (if a1 = 13 then ((gI h27 (.ref o) 14 32).bind fun x167 => some (.inl (some (.int x167)), h27)) else (s_X14_count_171 o a1 h27))))))))))) | _ => none)
section
variable {p : Program} {l : Launch} {e : Env} {s : State} {m : MethodId} {args : Array Value} {below : List Frame} {meth : Method} {c : Code} {D : va_G} {B0 : Nat} {X : Nat → Nat} {ws0 : va_W} {r : aR} {h' : aH} {mc ms : Nat}
theorem t_X14_count_171 (C : Cx p l s m args meth c B0 X RX14 "count" cX14_count 4 (some .int) [])   {l0 : Nat} {l1 : Int32} {h : aH} (hs : s_X14_count_171  l0 l1 h = some (r, h')) : Ev p l e { frames := 3, cells := mc, slots := ms, locals := 78 } s m args below meth c D B0 X ws0 r h' mc ms 4 mc ms 171 [some (.ref l0), some (.int l1), none, none] [] h := by
  unfold s_X14_count_171 at hs
  refine ev_aload_n C (x := .ref l0) rfl trivial dX14_count_171 ?_
  obtain ⟨x172, e172, hs⟩ := aB hs
  refine ev_get C (ci := 14) (k := 4) rfl wu_14 (by decide) wf_X14_376 (gO_F e172) dX14_count_172 ?_
  obtain ⟨x175, e175, hs⟩ := aB hs
  refine ev_getN C (ci := 13) (k := 0) rfl wu_13 (by decide) wg_X14_252 (gO_F e175) dX14_count_175 ?_
  refine ev_iload_n C rfl dX14_count_178 ?_
  obtain ⟨x179, e179, hs⟩ := aB hs
  refine ev_iald C e179 dX14_count_179 ?_
  cases hs
  exact ev_iret C rfl rfl (Nat.le_refl _) (Nat.le_refl _) rfl dX14_count_180
theorem t_X14_count_138 (C : Cx p l s m args meth c B0 X RX14 "count" cX14_count 4 (some .int) []) {k115 : Nat → Int32 → Int32 → aH → aO} (K115 : ∀ (l0 : Nat) (l2 : Int32) (l3 : Int32) (h : aH), k115 l0 l2 l3 h = some (r, h') → Ev p l e { frames := 3, cells := mc, slots := ms, locals := 78 } s m args below meth c D B0 X ws0 r h' mc ms 4 mc ms 115 [some (.ref l0), none, some (.int l2), some (.int l3)] [] h) {l0 : Nat} {l3 : Int32} {s0 : Int32} {s1 : Int32} {h : aH} (hs : s_X14_count_138 k115 l0 l3 s0 s1 h = some (r, h')) : Ev p l e { frames := 3, cells := mc, slots := ms, locals := 78 } s m args below meth c D B0 X ws0 r h' mc ms 4 mc ms 138 [some (.ref l0), none, none, some (.int l3)] [.int s0, .int s1] h := by
  unfold s_X14_count_138 at hs
  refine ev_iadd C dX14_count_138 ?_
  refine ev_istore_n C (by decide) dX14_count_139 ?_
  refine ev_iinc C (i := 3) (n := 1) (x := l3) (v := l3 + 1) rfl (congrArg (fun z => l3 + z) (show Int32.ofInt 1 = 1 by decide)) (by decide) dX14_count_140 ?_
  refine ev_goto C (tgt := 115) (by decide) dX14_count_143 ?_
  exact (K115 _ _ _ _ hs)
theorem t_X14_count_115_b (C : Cx p l s m args meth c B0 X RX14 "count" cX14_count 4 (some .int) [])   {k115 : Nat → Int32 → Int32 → aH → aO} (K115 : ∀ (l0 : Nat) (l2 : Int32) (l3 : Int32) (h : aH), k115 l0 l2 l3 h = some (r, h') → Ev p l e { frames := 3, cells := mc, slots := ms, locals := 78 } s m args below meth c D B0 X ws0 r h' mc ms 4 mc ms 115 [some (.ref l0), none, some (.int l2), some (.int l3)] [] h) {l0 : Nat} {l2 : Int32} {l3 : Int32} {h : aH} (hs : s_X14_count_115_b  k115 l0 l2 l3 h = some (r, h')) : Ev p l e { frames := 3, cells := mc, slots := ms, locals := 78 } s m args below meth c D B0 X ws0 r h' mc ms 4 mc ms 115 [some (.ref l0), none, some (.int l2), some (.int l3)] [] h := by
  unfold s_X14_count_115_b at hs
  refine ev_iload_n C rfl dX14_count_115 ?_
  refine ev_aload_n C (x := .ref l0) rfl trivial dX14_count_116 ?_
  obtain ⟨x117, e117, hs⟩ := aB hs
  refine ev_get C (ci := 14) (k := 20) rfl wu_14 (by decide) wf_X14_379 (gI_F e117) dX14_count_117 ?_
  refine ev_icmp_ge C (tgt := 146) (by decide) dX14_count_120 (fun q120 => ?_) (fun q120 => ?_)
  · replace hs := (if_pos q120).symm.trans hs
    refine ev_iload_n C rfl dX14_count_146 ?_
    cases hs
    exact ev_iret C rfl rfl (Nat.le_refl _) (Nat.le_refl _) rfl dX14_count_147
  · replace hs := (if_neg q120).symm.trans hs
    refine ev_iload_n C rfl dX14_count_123 ?_
    refine ev_aload_n C (x := .ref l0) rfl trivial dX14_count_124 ?_
    obtain ⟨x125, e125, hs⟩ := aB hs
    refine ev_get C (ci := 14) (k := 27) rfl wu_14 (by decide) wf_X14_37 (gO_F e125) dX14_count_125 ?_
    refine ev_iload_n C rfl dX14_count_128 ?_
    obtain ⟨x129, e129, hs⟩ := aB hs
    refine ev_zald C e129 dX14_count_129 ?_
    refine ev_if_eq C (tgt := 137) (by decide) dX14_count_130 (fun q130 => ?_) (fun q130 => ?_)
    · replace hs := (if_pos q130).symm.trans hs
      refine ev_iconst C (v := 0) dX14_count_137 (by decide) ?_
      exact Ev.keep [true, true, false, true] (t_X14_count_138 C K115 hs)
    · replace hs := (if_neg q130).symm.trans hs
      refine ev_iconst C (v := 1) dX14_count_133 (by decide) ?_
      refine ev_goto C (tgt := 138) (by decide) dX14_count_134 ?_
      exact Ev.keep [true, true, false, true] (t_X14_count_138 C K115 hs)
theorem t_X14_count_115 (C : Cx p l s m args meth c B0 X RX14 "count" cX14_count 4 (some .int) [])   : ∀ (n : Nat) {l0 : Nat} {l2 : Int32} {l3 : Int32} {h : aH} (hs : s_X14_count_115  n l0 l2 l3 h = some (r, h')), Ev p l e { frames := 3, cells := mc, slots := ms, locals := 78 } s m args below meth c D B0 X ws0 r h' mc ms 4 mc ms 115 [some (.ref l0), none, some (.int l2), some (.int l3)] [] h
  | 0, _, _, _, _, hs => nomatch hs
  | n + 1, _, _, _, _, hs => t_X14_count_115_b C  (k115 := s_X14_count_115  n) (fun _ _ _ _ hs => t_X14_count_115 C  n hs) hs
theorem hy_X14_count : yX14_count.cls ≠ "java/lang/invoke/MethodHandle" ∧ yX14_count.cls ≠ "java/lang/invoke/VarHandle" ∧ (parseMethodDescriptor yX14_count.desc).map (fun d => d.parameters.length) = some 1 := by decide +kernel
theorem T_X14_count (o : Nat) (a1 : Int32) (h : aH) (r : aR) (h' : aH) (hs : s_X14_count o a1 h = some (r, h')) : Mt yX14_count (Cond.code yX14_count cX14_count 4 (some .int) :: aTB) 3 78 0 0 [.ref o, .int a1] h r h' := by
  unfold s_X14_count at hs
  refine Mt_of (k := 2) (by decide) rfl (fun p l e s m args below meth c D B0 X ws0 C => ?_)
  show Ev p l e { frames := 3, cells := 0, slots := 0, locals := 78 } s m args below meth c D B0 X ws0 r h' 0 0 4 0 0 0 [some (.ref o), some (.int a1), none, none] [] h
  refine ev_aload_n C (x := .ref o) rfl trivial dX14_count_0 ?_
  refine ev_iconst C (v := 0) dX14_count_1 (by decide) ?_
  obtain ⟨h2, e2, hs⟩ := aB hs
  refine ev_put C (ci := 14) (k := 0) rfl wu_14 (by decide) tyX14 tyX14_ok nmX14 wf_X14_154 rfl trivial e2 dX14_count_2 ?_
  refine ev_iload_n C rfl dX14_count_5 ?_
  refine ev_bipush C (v := 11) dX14_count_6 (by decide) ?_
  refine ev_icmp_ne C (tgt := 16) (by decide) dX14_count_8 (fun q8 => ?_) (fun q8 => ?_)
  · replace hs := (if_neg q8).symm.trans hs
    refine ev_aload_n C (x := .ref o) rfl trivial dX14_count_16 ?_
    obtain ⟨x17, e17, hs⟩ := aB hs
    refine ev_get C (ci := 14) (k := 4) rfl wu_14 (by decide) wf_X14_376 (gW_F e17).1 dX14_count_17 ?_
    cases x17 with
    | null =>
      refine ev_ifnull_n C (tgt := 33) (by decide) dX14_count_20 ?_
      refine ev_iconst C (v := (-1)) dX14_count_33 (by decide) ?_
      cases hs
      exact ev_iret C rfl rfl (Nat.le_refl _) (Nat.le_refl _) rfl dX14_count_34
    | ref n20 =>
      refine ev_ifnull_r C dX14_count_20 ?_
      refine ev_iload_n C rfl dX14_count_23 ?_
      refine ev_iconst C (v := 0) dX14_count_24 (by decide) ?_
      refine ev_bipush C (v := 13) dX14_count_25 (by decide) ?_
      obtain ⟨x27, h27, e27, hs⟩ := cI_at hs
      refine ev_callS C (T_X14_in _ _ _ _ _ _ e27) wc_X14_in wm_X14_313 wt_X14_in wz_X14 hy_X14_in ⟨(Nat.le_of_ble_eq_true rfl), (Nat.le_of_ble_eq_true rfl)⟩ ⟨(Nat.le_refl _), (Nat.le_refl _)⟩ (Nat.le_of_ble_eq_true rfl) rfl dX14_count_27 ?_
      refine ev_if_ne C (tgt := 35) (by decide) dX14_count_30 (fun q30 => ?_) (fun q30 => ?_)
      · replace hs := (if_neg q30).symm.trans hs
        refine ev_iload_n C rfl dX14_count_35 ?_
        by_cases q5 : a1 = 5
        · replace hs := (if_pos q5).symm.trans hs
          refine ev_tblIn C (tgt := 88) (by rw [q5]; decide) (by rw [q5]; decide) (by rw [q5]; rfl) (by decide) dX14_count_36 ?_
          refine ev_aload_n C (x := .ref o) rfl trivial dX14_count_88 ?_
          obtain ⟨x89, e89, hs⟩ := aB hs
          refine ev_get C (ci := 14) (k := 20) rfl wu_14 (by decide) wf_X14_379 (gI_F e89) dX14_count_89 ?_
          cases hs
          exact ev_iret C rfl rfl (Nat.le_refl _) (Nat.le_refl _) rfl dX14_count_92
        · replace hs := (if_neg q5).symm.trans hs
          by_cases q6 : a1 = 6
          · replace hs := (if_pos q6).symm.trans hs
            refine ev_tblIn C (tgt := 93) (by rw [q6]; decide) (by rw [q6]; decide) (by rw [q6]; rfl) (by decide) dX14_count_36 ?_
            refine ev_aload_n C (x := .ref o) rfl trivial dX14_count_93 ?_
            obtain ⟨x94, e94, hs⟩ := aB hs
            refine ev_get C (ci := 14) (k := 21) rfl wu_14 (by decide) wf_X14_382 (gI_F e94) dX14_count_94 ?_
            cases hs
            exact ev_iret C rfl rfl (Nat.le_refl _) (Nat.le_refl _) rfl dX14_count_97
          · replace hs := (if_neg q6).symm.trans hs
            by_cases q7 : a1 = 7
            · replace hs := (if_pos q7).symm.trans hs
              refine ev_tblIn C (tgt := 98) (by rw [q7]; decide) (by rw [q7]; decide) (by rw [q7]; rfl) (by decide) dX14_count_36 ?_
              refine ev_aload_n C (x := .ref o) rfl trivial dX14_count_98 ?_
              obtain ⟨x99, e99, hs⟩ := aB hs
              refine ev_get C (ci := 14) (k := 22) rfl wu_14 (by decide) wf_X14_388 (gI_F e99) dX14_count_99 ?_
              cases hs
              exact ev_iret C rfl rfl (Nat.le_refl _) (Nat.le_refl _) rfl dX14_count_102
            · replace hs := (if_neg q7).symm.trans hs
              by_cases q8 : a1 = 8
              · replace hs := (if_pos q8).symm.trans hs
                refine ev_tblIn C (tgt := 103) (by rw [q8]; decide) (by rw [q8]; decide) (by rw [q8]; rfl) (by decide) dX14_count_36 ?_
                refine ev_aload_n C (x := .ref o) rfl trivial dX14_count_103 ?_
                obtain ⟨x104, e104, hs⟩ := aB hs
                refine ev_get C (ci := 14) (k := 4) rfl wu_14 (by decide) wf_X14_376 (gO_F e104) dX14_count_104 ?_
                obtain ⟨x107, e107, hs⟩ := aB hs
                refine ev_getN C (ci := 13) (k := 6) rfl wu_13 (by decide) wg_X14_320 (gI_F e107) dX14_count_107 ?_
                cases hs
                exact ev_iret C rfl rfl (Nat.le_refl _) (Nat.le_refl _) rfl dX14_count_110
              · replace hs := (if_neg q8).symm.trans hs
                by_cases q9 : a1 = 9
                · replace hs := (if_pos q9).symm.trans hs
                  refine ev_tblIn C (tgt := 111) (by rw [q9]; decide) (by rw [q9]; decide) (by rw [q9]; rfl) (by decide) dX14_count_36 ?_
                  refine ev_iconst C (v := 0) dX14_count_111 (by decide) ?_
                  refine ev_istore_n C (by decide) dX14_count_112 ?_
                  refine ev_iconst C (v := 0) dX14_count_113 (by decide) ?_
                  refine ev_istore_n C (by decide) dX14_count_114 ?_
                  exact Ev.keep [true, false, true, true] (t_X14_count_115 C  FU hs)
                · replace hs := (if_neg q9).symm.trans hs
                  by_cases q10 : a1 = 10
                  · replace hs := (if_pos q10).symm.trans hs
                    refine ev_tblIn C (tgt := 148) (by rw [q10]; decide) (by rw [q10]; decide) (by rw [q10]; rfl) (by decide) dX14_count_36 ?_
                    refine ev_aload_n C (x := .ref o) rfl trivial dX14_count_148 ?_
                    obtain ⟨eo149, hs⟩ := kO_at hs
                    obtain ⟨x149, h149, e149, hs⟩ := cI_at hs
                    refine ev_callV C (T_X14_isLinear _ _ _ _ e149) (ci := 14) rfl eo149 wc_X14_isLinear wm_X14_468 wi_X14_isLinear ws_X14_isLinear wz_X14 hy_X14_isLinear ⟨(Nat.le_of_ble_eq_true rfl), (Nat.le_of_ble_eq_true rfl)⟩ ⟨(Nat.le_refl _), (Nat.le_refl _)⟩ (Nat.le_of_ble_eq_true rfl) rfl dX14_count_149 ?_
                    refine ev_if_eq C (tgt := 159) (by decide) dX14_count_152 (fun q152 => ?_) (fun q152 => ?_)
                    · replace hs := (if_pos q152).symm.trans hs
                      refine ev_iconst C (v := 0) dX14_count_159 (by decide) ?_
                      cases hs
                      exact ev_iret C rfl rfl (Nat.le_refl _) (Nat.le_refl _) rfl dX14_count_160
                    · replace hs := (if_neg q152).symm.trans hs
                      refine ev_iconst C (v := 1) dX14_count_155 (by decide) ?_
                      refine ev_goto C (tgt := 160) (by decide) dX14_count_156 ?_
                      cases hs
                      exact ev_iret C rfl rfl (Nat.le_refl _) (Nat.le_refl _) rfl dX14_count_160
                  · replace hs := (if_neg q10).symm.trans hs
                    by_cases q11 : a1 = 11
                    · replace hs := (if_pos q11).symm.trans hs
                      refine ev_tblIn C (tgt := 171) (by rw [q11]; decide) (by rw [q11]; decide) (by rw [q11]; rfl) (by decide) dX14_count_36 ?_
                      exact (t_X14_count_171 C  hs)
                    · replace hs := (if_neg q11).symm.trans hs
                      by_cases q12 : a1 = 12
                      · replace hs := (if_pos q12).symm.trans hs
                        refine ev_tblIn C (tgt := 161) (by rw [q12]; decide) (by rw [q12]; decide) (by rw [q12]; rfl) (by decide) dX14_count_36 ?_
                        refine ev_aload_n C (x := .ref o) rfl trivial dX14_count_161 ?_
                        obtain ⟨x162, e162, hs⟩ := aB hs
                        refine ev_get C (ci := 14) (k := 59) rfl wu_14 (by decide) wf_X14_471 (gI_F e162) dX14_count_162 ?_
                        cases hs
                        exact ev_iret C rfl rfl (Nat.le_refl _) (Nat.le_refl _) rfl dX14_count_165
                      · replace hs := (if_neg q12).symm.trans hs
                        by_cases q13 : a1 = 13
                        · replace hs := (if_pos q13).symm.trans hs
                          refine ev_tblIn C (tgt := 166) (by rw [q13]; decide) (by rw [q13]; decide) (by rw [q13]; rfl) (by decide) dX14_count_36 ?_
                          refine ev_aload_n C (x := .ref o) rfl trivial dX14_count_166 ?_
                          obtain ⟨x167, e167, hs⟩ := aB hs
                          refine ev_get C (ci := 14) (k := 32) rfl wu_14 (by decide) wf_X14_394 (gI_F e167) dX14_count_167 ?_
                          cases hs
                          exact ev_iret C rfl rfl (Nat.le_refl _) (Nat.le_refl _) rfl dX14_count_170
                        · replace hs := (if_neg q13).symm.trans hs
                          have n5 : Int32.toInt a1 ≠ 5 := fun z => q5 (Int32.toInt_inj.mp (z.trans (by decide)))
                          have n6 : Int32.toInt a1 ≠ 6 := fun z => q6 (Int32.toInt_inj.mp (z.trans (by decide)))
                          have n7 : Int32.toInt a1 ≠ 7 := fun z => q7 (Int32.toInt_inj.mp (z.trans (by decide)))
                          have n8 : Int32.toInt a1 ≠ 8 := fun z => q8 (Int32.toInt_inj.mp (z.trans (by decide)))
                          have n9 : Int32.toInt a1 ≠ 9 := fun z => q9 (Int32.toInt_inj.mp (z.trans (by decide)))
                          have n10 : Int32.toInt a1 ≠ 10 := fun z => q10 (Int32.toInt_inj.mp (z.trans (by decide)))
                          have n11 : Int32.toInt a1 ≠ 11 := fun z => q11 (Int32.toInt_inj.mp (z.trans (by decide)))
                          have n12 : Int32.toInt a1 ≠ 12 := fun z => q12 (Int32.toInt_inj.mp (z.trans (by decide)))
                          have n13 : Int32.toInt a1 ≠ 13 := fun z => q13 (Int32.toInt_inj.mp (z.trans (by decide)))
                          refine ev_tblOut C (tgt := 171) (by omega) (by decide) dX14_count_36 ?_
                          exact (t_X14_count_171 C  hs)
      · replace hs := (if_pos q30).symm.trans hs
        refine ev_iconst C (v := (-1)) dX14_count_33 (by decide) ?_
        cases hs
        exact ev_iret C rfl rfl (Nat.le_refl _) (Nat.le_refl _) rfl dX14_count_34
    | _ => cases hs
  · replace hs := (if_pos q8).symm.trans hs
    refine ev_aload_n C (x := .ref o) rfl trivial dX14_count_11 ?_
    obtain ⟨x12, e12, hs⟩ := aB hs
    refine ev_get C (ci := 14) (k := 9) rfl wu_14 (by decide) wf_X14_354 (gI_F e12) dX14_count_12 ?_
    cases hs
    exact ev_iret C rfl rfl (Nat.le_refl _) (Nat.le_refl _) rfl dX14_count_15
end
-- X14_cell
theorem dX14_cell_0 : decode cX14_cell 0 = .ok (.aload_n 0, 1) := by decide +kernel
theorem dX14_cell_1 : decode cX14_cell 1 = .ok (.iconst 0, 1) := by decide +kernel
theorem dX14_cell_2 : decode cX14_cell 2 = .ok (.putfield 154, 3) := by decide +kernel
theorem dX14_cell_5 : decode cX14_cell 5 = .ok (.aload_n 0, 1) := by decide +kernel
theorem dX14_cell_6 : decode cX14_cell 6 = .ok (.getfield 376, 3) := by decide +kernel
theorem dX14_cell_9 : decode cX14_cell 9 = .ok (.ifnonnull 5, 3) := by decide +kernel
theorem dX14_cell_12 : decode cX14_cell 12 = .ok (.iconst (-1), 1) := by decide +kernel
theorem dX14_cell_13 : decode cX14_cell 13 = .ok (.ireturn, 1) := by decide +kernel
theorem dX14_cell_14 : decode cX14_cell 14 = .ok (.iconst 0, 1) := by decide +kernel
theorem dX14_cell_15 : decode cX14_cell 15 = .ok (.istore 4, 2) := by decide +kernel
theorem dX14_cell_17 : decode cX14_cell 17 = .ok (.iconst 0, 1) := by decide +kernel
theorem dX14_cell_18 : decode cX14_cell 18 = .ok (.istore 5, 2) := by decide +kernel
theorem dX14_cell_20 : decode cX14_cell 20 = .ok (.iload 5, 2) := by decide +kernel
theorem dX14_cell_22 : decode cX14_cell 22 = .ok (.aload_n 0, 1) := by decide +kernel
theorem dX14_cell_23 : decode cX14_cell 23 = .ok (.getfield 376, 3) := by decide +kernel
theorem dX14_cell_26 : decode cX14_cell 26 = .ok (.getfield 252, 3) := by decide +kernel
theorem dX14_cell_29 : decode cX14_cell 29 = .ok (.iconst 0, 1) := by decide +kernel
theorem dX14_cell_30 : decode cX14_cell 30 = .ok (.iaload, 1) := by decide +kernel
theorem dX14_cell_31 : decode cX14_cell 31 = .ok (.if_icmp .ge 89, 3) := by decide +kernel
theorem dX14_cell_34 : decode cX14_cell 34 = .ok (.iload 5, 2) := by decide +kernel
theorem dX14_cell_36 : decode cX14_cell 36 = .ok (.ifCond .ne 7, 3) := by decide +kernel
theorem dX14_cell_39 : decode cX14_cell 39 = .ok (.iload_n 1, 1) := by decide +kernel
theorem dX14_cell_40 : decode cX14_cell 40 = .ok (.goto 14, 3) := by decide +kernel
theorem dX14_cell_43 : decode cX14_cell 43 = .ok (.iload 5, 2) := by decide +kernel
theorem dX14_cell_45 : decode cX14_cell 45 = .ok (.iconst 1, 1) := by decide +kernel
theorem dX14_cell_46 : decode cX14_cell 46 = .ok (.if_icmp .ne 7, 3) := by decide +kernel
theorem dX14_cell_49 : decode cX14_cell 49 = .ok (.iload_n 2, 1) := by decide +kernel
theorem dX14_cell_50 : decode cX14_cell 50 = .ok (.goto 4, 3) := by decide +kernel
theorem dX14_cell_53 : decode cX14_cell 53 = .ok (.iload_n 3, 1) := by decide +kernel
theorem dX14_cell_54 : decode cX14_cell 54 = .ok (.istore 6, 2) := by decide +kernel
theorem dX14_cell_56 : decode cX14_cell 56 = .ok (.iload 6, 2) := by decide +kernel
theorem dX14_cell_58 : decode cX14_cell 58 = .ok (.aload_n 0, 1) := by decide +kernel
theorem dX14_cell_59 : decode cX14_cell 59 = .ok (.getfield 376, 3) := by decide +kernel
theorem dX14_cell_62 : decode cX14_cell 62 = .ok (.getfield 307, 3) := by decide +kernel
theorem dX14_cell_65 : decode cX14_cell 65 = .ok (.iload 5, 2) := by decide +kernel
theorem dX14_cell_67 : decode cX14_cell 67 = .ok (.iaload, 1) := by decide +kernel
theorem dX14_cell_68 : decode cX14_cell 68 = .ok (.aload_n 0, 1) := by decide +kernel
theorem dX14_cell_69 : decode cX14_cell 69 = .ok (.getfield 376, 3) := by decide +kernel
theorem dX14_cell_72 : decode cX14_cell 72 = .ok (.getfield 317, 3) := by decide +kernel
theorem dX14_cell_75 : decode cX14_cell 75 = .ok (.iload 5, 2) := by decide +kernel
theorem dX14_cell_77 : decode cX14_cell 77 = .ok (.iaload, 1) := by decide +kernel
theorem dX14_cell_78 : decode cX14_cell 78 = .ok (.invokestatic 313, 3) := by decide +kernel
theorem dX14_cell_81 : decode cX14_cell 81 = .ok (.ifCond .ne 5, 3) := by decide +kernel
theorem dX14_cell_84 : decode cX14_cell 84 = .ok (.iconst (-1), 1) := by decide +kernel
theorem dX14_cell_85 : decode cX14_cell 85 = .ok (.ireturn, 1) := by decide +kernel
theorem dX14_cell_86 : decode cX14_cell 86 = .ok (.iload 4, 2) := by decide +kernel
theorem dX14_cell_88 : decode cX14_cell 88 = .ok (.aload_n 0, 1) := by decide +kernel
theorem dX14_cell_89 : decode cX14_cell 89 = .ok (.getfield 376, 3) := by decide +kernel
theorem dX14_cell_92 : decode cX14_cell 92 = .ok (.iload 5, 2) := by decide +kernel
theorem dX14_cell_94 : decode cX14_cell 94 = .ok (.invokevirtual 273, 3) := by decide +kernel
theorem dX14_cell_97 : decode cX14_cell 97 = .ok (.imul, 1) := by decide +kernel
theorem dX14_cell_98 : decode cX14_cell 98 = .ok (.iload 6, 2) := by decide +kernel
theorem dX14_cell_100 : decode cX14_cell 100 = .ok (.iadd, 1) := by decide +kernel
theorem dX14_cell_101 : decode cX14_cell 101 = .ok (.aload_n 0, 1) := by decide +kernel
theorem dX14_cell_102 : decode cX14_cell 102 = .ok (.getfield 376, 3) := by decide +kernel
theorem dX14_cell_105 : decode cX14_cell 105 = .ok (.getfield 307, 3) := by decide +kernel
theorem dX14_cell_108 : decode cX14_cell 108 = .ok (.iload 5, 2) := by decide +kernel
theorem dX14_cell_110 : decode cX14_cell 110 = .ok (.iaload, 1) := by decide +kernel
theorem dX14_cell_111 : decode cX14_cell 111 = .ok (.isub, 1) := by decide +kernel
theorem dX14_cell_112 : decode cX14_cell 112 = .ok (.istore 4, 2) := by decide +kernel
theorem dX14_cell_114 : decode cX14_cell 114 = .ok (.iinc 5 1, 3) := by decide +kernel
theorem dX14_cell_117 : decode cX14_cell 117 = .ok (.goto (-97), 3) := by decide +kernel
theorem dX14_cell_120 : decode cX14_cell 120 = .ok (.iload 4, 2) := by decide +kernel
theorem dX14_cell_122 : decode cX14_cell 122 = .ok (.ireturn, 1) := by decide +kernel
def s_X14_cell_54 (k20 : Nat → Int32 → Int32 → Int32 → Int32 → Int32 → aH → aO) (l0 : Nat) (l1 : Int32) (l2 : Int32) (l3 : Int32) (l4 : Int32) (l5 : Int32) (s0 : Int32) (h : aH) : aO :=
  (gO h (.ref l0) 14 4).bind fun x59 => (gO h (.ref x59) 13 1).bind fun x62 => (ldI .int h (.ref x62) l5).bind fun x67 => (gO h (.ref l0) 14 4).bind fun x69 => (gO h (.ref x69) 13 2).bind fun x72 => (ldI .int h (.ref x72) l5).bind fun x77 => cI (s_X14_in s0 x67 x77 h) fun x78 h78 => if x78 = 0 then (some (.inl (some (.int (-1))), h78)) else ((gO h78 (.ref l0) 14 4).bind fun x89 => kO h78 x89 13 (cI (s_X13_size x89 l5 h78) fun x94 h94 => (gO h94 (.ref l0) 14 4).bind fun x102 => (gO h94 (.ref x102) 13 1).bind fun x105 => (ldI .int h94 (.ref x105) l5).bind fun x110 => k20 l0 l1 l2 l3 (((l4 * x94) + s0) - x110) (l5 + 1) h94))
def s_X14_cell_20_b  (k20 : Nat → Int32 → Int32 → Int32 → Int32 → Int32 → aH → aO) (l0 : Nat) (l1 : Int32) (l2 : Int32) (l3 : Int32) (l4 : Int32) (l5 : Int32) (h : aH) : aO :=
  (gO h (.ref l0) 14 4).bind fun x23 => (gO h (.ref x23) 13 0).bind fun x26 => (ldI .int h (.ref x26) 0).bind fun x30 => if x30 ≤ l5 then (some (.inl (some (.int l4)), h)) else (if l5 = 0 then (s_X14_cell_54 k20 l0 l1 l2 l3 l4 l5 l1 h) else (if l5 = 1 then (s_X14_cell_54 k20 l0 l1 l2 l3 l4 l5 l2 h) else (s_X14_cell_54 k20 l0 l1 l2 l3 l4 l5 l3 h)))
def s_X14_cell_20  (n : Nat) : Nat → Int32 → Int32 → Int32 → Int32 → Int32 → aH → aO := lpF (fun _ _ _ _ _ _ _ => none) (s_X14_cell_20_b ) n
def s_X14_cell (o : Nat) (a1 : Int32) (a2 : Int32) (a3 : Int32) (h : aH) : aO :=
  (pF h (.ref o) 14 0 (.int 0)).bind fun h2 => (gW h2 (.ref o) 14 4).bind fun x6 => match x6 with | .null => (some (.inl (some (.int (-1))), h2)) | .ref n9 => (s_X14_cell_20 FU o a1 a2 a3 0 0 h2) | _ => none
section
variable {p : Program} {l : Launch} {e : Env} {s : State} {m : MethodId} {args : Array Value} {below : List Frame} {meth : Method} {c : Code} {D : va_G} {B0 : Nat} {X : Nat → Nat} {ws0 : va_W} {r : aR} {h' : aH} {mc ms : Nat}
theorem t_X14_cell_54 (C : Cx p l s m args meth c B0 X RX14 "cell" cX14_cell 7 (some .int) []) {k20 : Nat → Int32 → Int32 → Int32 → Int32 → Int32 → aH → aO} (K20 : ∀ (l0 : Nat) (l1 : Int32) (l2 : Int32) (l3 : Int32) (l4 : Int32) (l5 : Int32) (h : aH), k20 l0 l1 l2 l3 l4 l5 h = some (r, h') → Ev p l e { frames := 1, cells := mc, slots := ms, locals := 22 } s m args below meth c D B0 X ws0 r h' mc ms 7 mc ms 20 [some (.ref l0), some (.int l1), some (.int l2), some (.int l3), some (.int l4), some (.int l5), none] [] h) {l0 : Nat} {l1 : Int32} {l2 : Int32} {l3 : Int32} {l4 : Int32} {l5 : Int32} {s0 : Int32} {h : aH} (hs : s_X14_cell_54 k20 l0 l1 l2 l3 l4 l5 s0 h = some (r, h')) : Ev p l e { frames := 1, cells := mc, slots := ms, locals := 22 } s m args below meth c D B0 X ws0 r h' mc ms 7 mc ms 54 [some (.ref l0), some (.int l1), some (.int l2), some (.int l3), some (.int l4), some (.int l5), none] [.int s0] h := by
  unfold s_X14_cell_54 at hs
  refine ev_istore C (by decide) dX14_cell_54 ?_
  refine ev_iload C rfl dX14_cell_56 ?_
  refine ev_aload_n C (x := .ref l0) rfl trivial dX14_cell_58 ?_
  obtain ⟨x59, e59, hs⟩ := aB hs
  refine ev_get C (ci := 14) (k := 4) rfl wu_14 (by decide) wf_X14_376 (gO_F e59) dX14_cell_59 ?_
  obtain ⟨x62, e62, hs⟩ := aB hs
  refine ev_getN C (ci := 13) (k := 1) rfl wu_13 (by decide) wg_X14_307 (gO_F e62) dX14_cell_62 ?_
  refine ev_iload C rfl dX14_cell_65 ?_
  obtain ⟨x67, e67, hs⟩ := aB hs
  refine ev_iald C e67 dX14_cell_67 ?_
  refine ev_aload_n C (x := .ref l0) rfl trivial dX14_cell_68 ?_
  obtain ⟨x69, e69, hs⟩ := aB hs
  refine ev_get C (ci := 14) (k := 4) rfl wu_14 (by decide) wf_X14_376 (gO_F e69) dX14_cell_69 ?_
  obtain ⟨x72, e72, hs⟩ := aB hs
  refine ev_getN C (ci := 13) (k := 2) rfl wu_13 (by decide) wg_X14_317 (gO_F e72) dX14_cell_72 ?_
  refine ev_iload C rfl dX14_cell_75 ?_
  obtain ⟨x77, e77, hs⟩ := aB hs
  refine ev_iald C e77 dX14_cell_77 ?_
  obtain ⟨x78, h78, e78, hs⟩ := cI_at hs
  refine ev_callS C (T_X14_in _ _ _ _ _ _ e78) wc_X14_in wm_X14_313 wt_X14_in wz_X14 hy_X14_in ⟨(Nat.le_of_ble_eq_true rfl), (Nat.le_of_ble_eq_true rfl)⟩ ⟨(Nat.le_refl _), (Nat.le_refl _)⟩ (Nat.le_of_ble_eq_true rfl) rfl dX14_cell_78 ?_
  refine ev_if_ne C (tgt := 86) (by decide) dX14_cell_81 (fun q81 => ?_) (fun q81 => ?_)
  · replace hs := (if_neg q81).symm.trans hs
    refine ev_iload C rfl dX14_cell_86 ?_
    refine ev_aload_n C (x := .ref l0) rfl trivial dX14_cell_88 ?_
    obtain ⟨x89, e89, hs⟩ := aB hs
    refine ev_get C (ci := 14) (k := 4) rfl wu_14 (by decide) wf_X14_376 (gO_F e89) dX14_cell_89 ?_
    refine ev_iload C rfl dX14_cell_92 ?_
    obtain ⟨eo94, hs⟩ := kO_at hs
    obtain ⟨x94, h94, e94, hs⟩ := cI_at hs
    refine ev_callV C (T_X13_size _ _ _ _ _ e94) (ci := 13) rfl eo94 wc_X13_size wm_X14_273 wi_X13_size ws_X13_size wz_X13 hy_X13_size ⟨(Nat.le_of_ble_eq_true rfl), (Nat.le_of_ble_eq_true rfl)⟩ ⟨(Nat.le_refl _), (Nat.le_refl _)⟩ (Nat.le_of_ble_eq_true rfl) rfl dX14_cell_94 ?_
    refine ev_imul C dX14_cell_97 ?_
    refine ev_iload C rfl dX14_cell_98 ?_
    refine ev_iadd C dX14_cell_100 ?_
    refine ev_aload_n C (x := .ref l0) rfl trivial dX14_cell_101 ?_
    obtain ⟨x102, e102, hs⟩ := aB hs
    refine ev_get C (ci := 14) (k := 4) rfl wu_14 (by decide) wf_X14_376 (gO_F e102) dX14_cell_102 ?_
    obtain ⟨x105, e105, hs⟩ := aB hs
    refine ev_getN C (ci := 13) (k := 1) rfl wu_13 (by decide) wg_X14_307 (gO_F e105) dX14_cell_105 ?_
    refine ev_iload C rfl dX14_cell_108 ?_
    obtain ⟨x110, e110, hs⟩ := aB hs
    refine ev_iald C e110 dX14_cell_110 ?_
    refine ev_isub C dX14_cell_111 ?_
    refine ev_istore C (by decide) dX14_cell_112 ?_
    refine ev_iinc C (i := 5) (n := 1) (x := l5) (v := l5 + 1) rfl (congrArg (fun z => l5 + z) (show Int32.ofInt 1 = 1 by decide)) (by decide) dX14_cell_114 ?_
    refine ev_goto C (tgt := 20) (by decide) dX14_cell_117 ?_
    exact Ev.keep [true, true, true, true, true, true, false] (K20 _ _ _ _ _ _ _ hs)
  · replace hs := (if_pos q81).symm.trans hs
    refine ev_iconst C (v := (-1)) dX14_cell_84 (by decide) ?_
    cases hs
    exact ev_iret C rfl rfl (Nat.le_refl _) (Nat.le_refl _) rfl dX14_cell_85
theorem t_X14_cell_20_b (C : Cx p l s m args meth c B0 X RX14 "cell" cX14_cell 7 (some .int) [])   {k20 : Nat → Int32 → Int32 → Int32 → Int32 → Int32 → aH → aO} (K20 : ∀ (l0 : Nat) (l1 : Int32) (l2 : Int32) (l3 : Int32) (l4 : Int32) (l5 : Int32) (h : aH), k20 l0 l1 l2 l3 l4 l5 h = some (r, h') → Ev p l e { frames := 1, cells := mc, slots := ms, locals := 22 } s m args below meth c D B0 X ws0 r h' mc ms 7 mc ms 20 [some (.ref l0), some (.int l1), some (.int l2), some (.int l3), some (.int l4), some (.int l5), none] [] h) {l0 : Nat} {l1 : Int32} {l2 : Int32} {l3 : Int32} {l4 : Int32} {l5 : Int32} {h : aH} (hs : s_X14_cell_20_b  k20 l0 l1 l2 l3 l4 l5 h = some (r, h')) : Ev p l e { frames := 1, cells := mc, slots := ms, locals := 22 } s m args below meth c D B0 X ws0 r h' mc ms 7 mc ms 20 [some (.ref l0), some (.int l1), some (.int l2), some (.int l3), some (.int l4), some (.int l5), none] [] h := by
  unfold s_X14_cell_20_b at hs
  refine ev_iload C rfl dX14_cell_20 ?_
  refine ev_aload_n C (x := .ref l0) rfl trivial dX14_cell_22 ?_
  obtain ⟨x23, e23, hs⟩ := aB hs
  refine ev_get C (ci := 14) (k := 4) rfl wu_14 (by decide) wf_X14_376 (gO_F e23) dX14_cell_23 ?_
  obtain ⟨x26, e26, hs⟩ := aB hs
  refine ev_getN C (ci := 13) (k := 0) rfl wu_13 (by decide) wg_X14_252 (gO_F e26) dX14_cell_26 ?_
  refine ev_iconst C (v := 0) dX14_cell_29 (by decide) ?_
  obtain ⟨x30, e30, hs⟩ := aB hs
  refine ev_iald C e30 dX14_cell_30 ?_
  refine ev_icmp_ge C (tgt := 120) (by decide) dX14_cell_31 (fun q31 => ?_) (fun q31 => ?_)
  · replace hs := (if_pos q31).symm.trans hs
    refine ev_iload C rfl dX14_cell_120 ?_
    cases hs
    exact ev_iret C rfl rfl (Nat.le_refl _) (Nat.le_refl _) rfl dX14_cell_122
  · replace hs := (if_neg q31).symm.trans hs
    refine ev_iload C rfl dX14_cell_34 ?_
    refine ev_if_ne C (tgt := 43) (by decide) dX14_cell_36 (fun q36 => ?_) (fun q36 => ?_)
    · replace hs := (if_neg q36).symm.trans hs
      refine ev_iload C rfl dX14_cell_43 ?_
      refine ev_iconst C (v := 1) dX14_cell_45 (by decide) ?_
      refine ev_icmp_ne C (tgt := 53) (by decide) dX14_cell_46 (fun q46 => ?_) (fun q46 => ?_)
      · replace hs := (if_neg q46).symm.trans hs
        refine ev_iload_n C rfl dX14_cell_53 ?_
        exact (t_X14_cell_54 C K20 hs)
      · replace hs := (if_pos q46).symm.trans hs
        refine ev_iload_n C rfl dX14_cell_49 ?_
        refine ev_goto C (tgt := 54) (by decide) dX14_cell_50 ?_
        exact (t_X14_cell_54 C K20 hs)
    · replace hs := (if_pos q36).symm.trans hs
      refine ev_iload_n C rfl dX14_cell_39 ?_
      refine ev_goto C (tgt := 54) (by decide) dX14_cell_40 ?_
      exact (t_X14_cell_54 C K20 hs)
theorem t_X14_cell_20 (C : Cx p l s m args meth c B0 X RX14 "cell" cX14_cell 7 (some .int) [])   : ∀ (n : Nat) {l0 : Nat} {l1 : Int32} {l2 : Int32} {l3 : Int32} {l4 : Int32} {l5 : Int32} {h : aH} (hs : s_X14_cell_20  n l0 l1 l2 l3 l4 l5 h = some (r, h')), Ev p l e { frames := 1, cells := mc, slots := ms, locals := 22 } s m args below meth c D B0 X ws0 r h' mc ms 7 mc ms 20 [some (.ref l0), some (.int l1), some (.int l2), some (.int l3), some (.int l4), some (.int l5), none] [] h
  | 0, _, _, _, _, _, _, _, hs => nomatch hs
  | n + 1, _, _, _, _, _, _, _, hs => t_X14_cell_20_b C  (k20 := s_X14_cell_20  n) (fun _ _ _ _ _ _ _ hs => t_X14_cell_20 C  n hs) hs
theorem hy_X14_cell : yX14_cell.cls ≠ "java/lang/invoke/MethodHandle" ∧ yX14_cell.cls ≠ "java/lang/invoke/VarHandle" ∧ (parseMethodDescriptor yX14_cell.desc).map (fun d => d.parameters.length) = some 3 := by decide +kernel
theorem T_X14_cell (o : Nat) (a1 : Int32) (a2 : Int32) (a3 : Int32) (h : aH) (r : aR) (h' : aH) (hs : s_X14_cell o a1 a2 a3 h = some (r, h')) : Mt yX14_cell (Cond.code yX14_cell cX14_cell 7 (some .int) :: aTB) 1 22 0 0 [.ref o, .int a1, .int a2, .int a3] h r h' := by
  unfold s_X14_cell at hs
  refine Mt_of (k := 3) (by decide) rfl (fun p l e s m args below meth c D B0 X ws0 C => ?_)
  show Ev p l e { frames := 1, cells := 0, slots := 0, locals := 22 } s m args below meth c D B0 X ws0 r h' 0 0 7 0 0 0 [some (.ref o), some (.int a1), some (.int a2), some (.int a3), none, none, none] [] h
  refine ev_aload_n C (x := .ref o) rfl trivial dX14_cell_0 ?_
  refine ev_iconst C (v := 0) dX14_cell_1 (by decide) ?_
  obtain ⟨h2, e2, hs⟩ := aB hs
  refine ev_put C (ci := 14) (k := 0) rfl wu_14 (by decide) tyX14 tyX14_ok nmX14 wf_X14_154 rfl trivial e2 dX14_cell_2 ?_
  refine ev_aload_n C (x := .ref o) rfl trivial dX14_cell_5 ?_
  obtain ⟨x6, e6, hs⟩ := aB hs
  refine ev_get C (ci := 14) (k := 4) rfl wu_14 (by decide) wf_X14_376 (gW_F e6).1 dX14_cell_6 ?_
  cases x6 with
  | null =>
    refine ev_ifnonnull_n C dX14_cell_9 ?_
    refine ev_iconst C (v := (-1)) dX14_cell_12 (by decide) ?_
    cases hs
    exact ev_iret C rfl rfl (Nat.le_refl _) (Nat.le_refl _) rfl dX14_cell_13
  | ref n9 =>
    refine ev_ifnonnull_r C (tgt := 14) (by decide) dX14_cell_9 ?_
    refine ev_iconst C (v := 0) dX14_cell_14 (by decide) ?_
    refine ev_istore C (by decide) dX14_cell_15 ?_
    refine ev_iconst C (v := 0) dX14_cell_17 (by decide) ?_
    refine ev_istore C (by decide) dX14_cell_18 ?_
    exact (t_X14_cell_20 C  FU hs)
  | _ => cases hs
end
-- X14_state
theorem dX14_state_0 : decode cX14_state 0 = .ok (.aload_n 0, 1) := by decide +kernel
theorem dX14_state_1 : decode cX14_state 1 = .ok (.iconst 0, 1) := by decide +kernel
theorem dX14_state_2 : decode cX14_state 2 = .ok (.putfield 154, 3) := by decide +kernel
theorem dX14_state_5 : decode cX14_state 5 = .ok (.aload_n 0, 1) := by decide +kernel
theorem dX14_state_6 : decode cX14_state 6 = .ok (.iload_n 1, 1) := by decide +kernel
theorem dX14_state_7 : decode cX14_state 7 = .ok (.invokevirtual 474, 3) := by decide +kernel
theorem dX14_state_10 : decode cX14_state 10 = .ok (.ifCond .eq 22, 3) := by decide +kernel
theorem dX14_state_13 : decode cX14_state 13 = .ok (.iload_n 2, 1) := by decide +kernel
theorem dX14_state_14 : decode cX14_state 14 = .ok (.iconst 0, 1) := by decide +kernel
theorem dX14_state_15 : decode cX14_state 15 = .ok (.aload_n 0, 1) := by decide +kernel
theorem dX14_state_16 : decode cX14_state 16 = .ok (.getfield 376, 3) := by decide +kernel
theorem dX14_state_19 : decode cX14_state 19 = .ok (.getfield 252, 3) := by decide +kernel
theorem dX14_state_22 : decode cX14_state 22 = .ok (.iconst 0, 1) := by decide +kernel
theorem dX14_state_23 : decode cX14_state 23 = .ok (.iaload, 1) := by decide +kernel
theorem dX14_state_24 : decode cX14_state 24 = .ok (.iconst 1, 1) := by decide +kernel
theorem dX14_state_25 : decode cX14_state 25 = .ok (.isub, 1) := by decide +kernel
theorem dX14_state_26 : decode cX14_state 26 = .ok (.invokestatic 313, 3) := by decide +kernel
theorem dX14_state_29 : decode cX14_state 29 = .ok (.ifCond .ne 6, 3) := by decide +kernel
theorem dX14_state_32 : decode cX14_state 32 = .ok (.ldc 162, 2) := by decide +kernel
theorem dX14_state_34 : decode cX14_state 34 = .ok (.ireturn, 1) := by decide +kernel
theorem dX14_state_35 : decode cX14_state 35 = .ok (.aload_n 0, 1) := by decide +kernel
theorem dX14_state_36 : decode cX14_state 36 = .ok (.iload_n 1, 1) := by decide +kernel
theorem dX14_state_37 : decode cX14_state 37 = .ok (.invokevirtual 416, 3) := by decide +kernel
theorem dX14_state_40 : decode cX14_state 40 = .ok (.aload_n 0, 1) := by decide +kernel
theorem dX14_state_41 : decode cX14_state 41 = .ok (.getfield 44, 3) := by decide +kernel
theorem dX14_state_44 : decode cX14_state 44 = .ok (.iload_n 2, 1) := by decide +kernel
theorem dX14_state_45 : decode cX14_state 45 = .ok (.iaload, 1) := by decide +kernel
theorem dX14_state_46 : decode cX14_state 46 = .ok (.ireturn, 1) := by decide +kernel
def s_X14_state_32   (h : aH) : aO :=
  some (.inl (some (.int (-2147483648))), h)
def s_X14_state (o : Nat) (a1 : Int32) (a2 : Int32) (h : aH) : aO :=
  (pF h (.ref o) 14 0 (.int 0)).bind fun h2 => kO h2 o 14 (cI (s_X14_isCell o a1 h2) fun x7 h7 => if x7 = 0 then (s_X14_state_32 h7) else ((gO h7 (.ref o) 14 4).bind fun x16 => (gO h7 (.ref x16) 13 0).bind fun x19 => (ldI .int h7 (.ref x19) 0).bind fun x23 => cI (s_X14_in a2 0 (x23 - 1) h7) fun x26 h26 => if x26 = 0 then (s_X14_state_32 h26) else (kO h26 o 14 (cN (s_X14_lays o a1 h26) fun h37 => (gO h37 (.ref o) 14 29).bind fun x41 => (ldI .int h37 (.ref x41) a2).bind fun x45 => some (.inl (some (.int x45)), h37)))))
section
variable {p : Program} {l : Launch} {e : Env} {s : State} {m : MethodId} {args : Array Value} {below : List Frame} {meth : Method} {c : Code} {D : va_G} {B0 : Nat} {X : Nat → Nat} {ws0 : va_W} {r : aR} {h' : aH} {mc ms : Nat}
theorem t_X14_state_32 (C : Cx p l s m args meth c B0 X RX14 "state" cX14_state 3 (some .int) [])    {h : aH} (hs : s_X14_state_32   h = some (r, h')) : Ev p l e { frames := 3, cells := mc, slots := ms, locals := 68 } s m args below meth c D B0 X ws0 r h' mc ms 3 mc ms 32 [none, none, none] [] h := by
  unfold s_X14_state_32 at hs
  refine ev_ldc C wv_X14_162 dX14_state_32 ?_
  cases hs
  exact ev_iret C rfl rfl (Nat.le_refl _) (Nat.le_refl _) rfl dX14_state_34
theorem hy_X14_state : yX14_state.cls ≠ "java/lang/invoke/MethodHandle" ∧ yX14_state.cls ≠ "java/lang/invoke/VarHandle" ∧ (parseMethodDescriptor yX14_state.desc).map (fun d => d.parameters.length) = some 2 := by decide +kernel
theorem T_X14_state (o : Nat) (a1 : Int32) (a2 : Int32) (h : aH) (r : aR) (h' : aH) (hs : s_X14_state o a1 a2 h = some (r, h')) : Mt yX14_state (Cond.code yX14_state cX14_state 3 (some .int) :: aTB) 3 68 0 0 [.ref o, .int a1, .int a2] h r h' := by
  unfold s_X14_state at hs
  refine Mt_of (k := 0) (by decide) rfl (fun p l e s m args below meth c D B0 X ws0 C => ?_)
  show Ev p l e { frames := 3, cells := 0, slots := 0, locals := 68 } s m args below meth c D B0 X ws0 r h' 0 0 3 0 0 0 [some (.ref o), some (.int a1), some (.int a2)] [] h
  refine ev_aload_n C (x := .ref o) rfl trivial dX14_state_0 ?_
  refine ev_iconst C (v := 0) dX14_state_1 (by decide) ?_
  obtain ⟨h2, e2, hs⟩ := aB hs
  refine ev_put C (ci := 14) (k := 0) rfl wu_14 (by decide) tyX14 tyX14_ok nmX14 wf_X14_154 rfl trivial e2 dX14_state_2 ?_
  refine ev_aload_n C (x := .ref o) rfl trivial dX14_state_5 ?_
  refine ev_iload_n C rfl dX14_state_6 ?_
  obtain ⟨eo7, hs⟩ := kO_at hs
  obtain ⟨x7, h7, e7, hs⟩ := cI_at hs
  refine ev_callV C (T_X14_isCell _ _ _ _ _ e7) (ci := 14) rfl eo7 wc_X14_isCell wm_X14_474 wi_X14_isCell ws_X14_isCell wz_X14 hy_X14_isCell ⟨(Nat.le_of_ble_eq_true rfl), (Nat.le_of_ble_eq_true rfl)⟩ ⟨(Nat.le_refl _), (Nat.le_refl _)⟩ (Nat.le_of_ble_eq_true rfl) rfl dX14_state_7 ?_
  refine ev_if_eq C (tgt := 32) (by decide) dX14_state_10 (fun q10 => ?_) (fun q10 => ?_)
  · replace hs := (if_pos q10).symm.trans hs
    exact Ev.keep [false, false, false] (t_X14_state_32 C  hs)
  · replace hs := (if_neg q10).symm.trans hs
    refine ev_iload_n C rfl dX14_state_13 ?_
    refine ev_iconst C (v := 0) dX14_state_14 (by decide) ?_
    refine ev_aload_n C (x := .ref o) rfl trivial dX14_state_15 ?_
    obtain ⟨x16, e16, hs⟩ := aB hs
    refine ev_get C (ci := 14) (k := 4) rfl wu_14 (by decide) wf_X14_376 (gO_F e16) dX14_state_16 ?_
    obtain ⟨x19, e19, hs⟩ := aB hs
    refine ev_getN C (ci := 13) (k := 0) rfl wu_13 (by decide) wg_X14_252 (gO_F e19) dX14_state_19 ?_
    refine ev_iconst C (v := 0) dX14_state_22 (by decide) ?_
    obtain ⟨x23, e23, hs⟩ := aB hs
    refine ev_iald C e23 dX14_state_23 ?_
    refine ev_iconst C (v := 1) dX14_state_24 (by decide) ?_
    refine ev_isub C dX14_state_25 ?_
    obtain ⟨x26, h26, e26, hs⟩ := cI_at hs
    refine ev_callS C (T_X14_in _ _ _ _ _ _ e26) wc_X14_in wm_X14_313 wt_X14_in wz_X14 hy_X14_in ⟨(Nat.le_of_ble_eq_true rfl), (Nat.le_of_ble_eq_true rfl)⟩ ⟨(Nat.le_refl _), (Nat.le_refl _)⟩ (Nat.le_of_ble_eq_true rfl) rfl dX14_state_26 ?_
    refine ev_if_ne C (tgt := 35) (by decide) dX14_state_29 (fun q29 => ?_) (fun q29 => ?_)
    · replace hs := (if_neg q29).symm.trans hs
      refine ev_aload_n C (x := .ref o) rfl trivial dX14_state_35 ?_
      refine ev_iload_n C rfl dX14_state_36 ?_
      obtain ⟨eo37, hs⟩ := kO_at hs
      obtain ⟨h37, e37, hs⟩ := cN_at hs
      refine ev_callV C (T_X14_lays _ _ _ _ _ e37) (ci := 14) rfl eo37 wc_X14_lays wm_X14_416 wi_X14_lays ws_X14_lays wz_X14 hy_X14_lays ⟨(Nat.le_of_ble_eq_true rfl), (Nat.le_of_ble_eq_true rfl)⟩ ⟨(Nat.le_refl _), (Nat.le_refl _)⟩ (Nat.le_of_ble_eq_true rfl) rfl dX14_state_37 ?_
      refine ev_aload_n C (x := .ref o) rfl trivial dX14_state_40 ?_
      obtain ⟨x41, e41, hs⟩ := aB hs
      refine ev_get C (ci := 14) (k := 29) rfl wu_14 (by decide) wf_X14_44 (gO_F e41) dX14_state_41 ?_
      refine ev_iload_n C rfl dX14_state_44 ?_
      obtain ⟨x45, e45, hs⟩ := aB hs
      refine ev_iald C e45 dX14_state_45 ?_
      cases hs
      exact ev_iret C rfl rfl (Nat.le_refl _) (Nat.le_refl _) rfl dX14_state_46
    · replace hs := (if_pos q29).symm.trans hs
      exact Ev.keep [false, false, false] (t_X14_state_32 C  hs)
end
-- X14_push
theorem dX14_push_0 : decode cX14_push 0 = .ok (.aload_n 0, 1) := by decide +kernel
theorem dX14_push_1 : decode cX14_push 1 = .ok (.iconst 0, 1) := by decide +kernel
theorem dX14_push_2 : decode cX14_push 2 = .ok (.putfield 154, 3) := by decide +kernel
theorem dX14_push_5 : decode cX14_push 5 = .ok (.aload_n 0, 1) := by decide +kernel
theorem dX14_push_6 : decode cX14_push 6 = .ok (.iload_n 1, 1) := by decide +kernel
theorem dX14_push_7 : decode cX14_push 7 = .ok (.invokevirtual 477, 3) := by decide +kernel
theorem dX14_push_10 : decode cX14_push 10 = .ok (.ifCond .eq 22, 3) := by decide +kernel
theorem dX14_push_13 : decode cX14_push 13 = .ok (.iload_n 2, 1) := by decide +kernel
theorem dX14_push_14 : decode cX14_push 14 = .ok (.iconst 0, 1) := by decide +kernel
theorem dX14_push_15 : decode cX14_push 15 = .ok (.aload_n 0, 1) := by decide +kernel
theorem dX14_push_16 : decode cX14_push 16 = .ok (.getfield 376, 3) := by decide +kernel
theorem dX14_push_19 : decode cX14_push 19 = .ok (.getfield 252, 3) := by decide +kernel
theorem dX14_push_22 : decode cX14_push 22 = .ok (.iconst 1, 1) := by decide +kernel
theorem dX14_push_23 : decode cX14_push 23 = .ok (.iaload, 1) := by decide +kernel
theorem dX14_push_24 : decode cX14_push 24 = .ok (.iconst 1, 1) := by decide +kernel
theorem dX14_push_25 : decode cX14_push 25 = .ok (.isub, 1) := by decide +kernel
theorem dX14_push_26 : decode cX14_push 26 = .ok (.invokestatic 313, 3) := by decide +kernel
theorem dX14_push_29 : decode cX14_push 29 = .ok (.ifCond .ne 6, 3) := by decide +kernel
theorem dX14_push_32 : decode cX14_push 32 = .ok (.ldc 162, 2) := by decide +kernel
theorem dX14_push_34 : decode cX14_push 34 = .ok (.ireturn, 1) := by decide +kernel
theorem dX14_push_35 : decode cX14_push 35 = .ok (.aload_n 0, 1) := by decide +kernel
theorem dX14_push_36 : decode cX14_push 36 = .ok (.iload_n 1, 1) := by decide +kernel
theorem dX14_push_37 : decode cX14_push 37 = .ok (.invokevirtual 459, 3) := by decide +kernel
theorem dX14_push_40 : decode cX14_push 40 = .ok (.aload_n 0, 1) := by decide +kernel
theorem dX14_push_41 : decode cX14_push 41 = .ok (.getfield 44, 3) := by decide +kernel
theorem dX14_push_44 : decode cX14_push 44 = .ok (.iconst 1, 1) := by decide +kernel
theorem dX14_push_45 : decode cX14_push 45 = .ok (.invokestatic 246, 3) := by decide +kernel
theorem dX14_push_48 : decode cX14_push 48 = .ok (.iload_n 2, 1) := by decide +kernel
theorem dX14_push_49 : decode cX14_push 49 = .ok (.iadd, 1) := by decide +kernel
theorem dX14_push_50 : decode cX14_push 50 = .ok (.iaload, 1) := by decide +kernel
theorem dX14_push_51 : decode cX14_push 51 = .ok (.ireturn, 1) := by decide +kernel
def s_X14_push_32   (h : aH) : aO :=
  some (.inl (some (.int (-2147483648))), h)
def s_X14_push (o : Nat) (a1 : Int32) (a2 : Int32) (h : aH) : aO :=
  (pF h (.ref o) 14 0 (.int 0)).bind fun h2 => kO h2 o 14 (cI (s_X14_isPush o a1 h2) fun x7 h7 => if x7 = 0 then (s_X14_push_32 h7) else ((gO h7 (.ref o) 14 4).bind fun x16 => (gO h7 (.ref x16) 13 0).bind fun x19 => (ldI .int h7 (.ref x19) 1).bind fun x23 => cI (s_X14_in a2 0 (x23 - 1) h7) fun x26 h26 => if x26 = 0 then (s_X14_push_32 h26) else (kO h26 o 14 (cN (s_X14_pushed o a1 h26) fun h37 => (gO h37 (.ref o) 14 29).bind fun x41 => cI (s_X14_slotOf 1 h37) fun x45 h45 => (ldI .int h45 (.ref x41) (x45 + a2)).bind fun x50 => some (.inl (some (.int x50)), h45)))))
section
variable {p : Program} {l : Launch} {e : Env} {s : State} {m : MethodId} {args : Array Value} {below : List Frame} {meth : Method} {c : Code} {D : va_G} {B0 : Nat} {X : Nat → Nat} {ws0 : va_W} {r : aR} {h' : aH} {mc ms : Nat}
theorem t_X14_push_32 (C : Cx p l s m args meth c B0 X RX14 "push" cX14_push 3 (some .int) [])    {h : aH} (hs : s_X14_push_32   h = some (r, h')) : Ev p l e { frames := 3, cells := mc, slots := ms, locals := 68 } s m args below meth c D B0 X ws0 r h' mc ms 3 mc ms 32 [none, none, none] [] h := by
  unfold s_X14_push_32 at hs
  refine ev_ldc C wv_X14_162 dX14_push_32 ?_
  cases hs
  exact ev_iret C rfl rfl (Nat.le_refl _) (Nat.le_refl _) rfl dX14_push_34
theorem hy_X14_push : yX14_push.cls ≠ "java/lang/invoke/MethodHandle" ∧ yX14_push.cls ≠ "java/lang/invoke/VarHandle" ∧ (parseMethodDescriptor yX14_push.desc).map (fun d => d.parameters.length) = some 2 := by decide +kernel
theorem T_X14_push (o : Nat) (a1 : Int32) (a2 : Int32) (h : aH) (r : aR) (h' : aH) (hs : s_X14_push o a1 a2 h = some (r, h')) : Mt yX14_push (Cond.code yX14_push cX14_push 3 (some .int) :: aTB) 3 68 0 0 [.ref o, .int a1, .int a2] h r h' := by
  unfold s_X14_push at hs
  refine Mt_of (k := 0) (by decide) rfl (fun p l e s m args below meth c D B0 X ws0 C => ?_)
  show Ev p l e { frames := 3, cells := 0, slots := 0, locals := 68 } s m args below meth c D B0 X ws0 r h' 0 0 3 0 0 0 [some (.ref o), some (.int a1), some (.int a2)] [] h
  refine ev_aload_n C (x := .ref o) rfl trivial dX14_push_0 ?_
  refine ev_iconst C (v := 0) dX14_push_1 (by decide) ?_
  obtain ⟨h2, e2, hs⟩ := aB hs
  refine ev_put C (ci := 14) (k := 0) rfl wu_14 (by decide) tyX14 tyX14_ok nmX14 wf_X14_154 rfl trivial e2 dX14_push_2 ?_
  refine ev_aload_n C (x := .ref o) rfl trivial dX14_push_5 ?_
  refine ev_iload_n C rfl dX14_push_6 ?_
  obtain ⟨eo7, hs⟩ := kO_at hs
  obtain ⟨x7, h7, e7, hs⟩ := cI_at hs
  refine ev_callV C (T_X14_isPush _ _ _ _ _ e7) (ci := 14) rfl eo7 wc_X14_isPush wm_X14_477 wi_X14_isPush ws_X14_isPush wz_X14 hy_X14_isPush ⟨(Nat.le_of_ble_eq_true rfl), (Nat.le_of_ble_eq_true rfl)⟩ ⟨(Nat.le_refl _), (Nat.le_refl _)⟩ (Nat.le_of_ble_eq_true rfl) rfl dX14_push_7 ?_
  refine ev_if_eq C (tgt := 32) (by decide) dX14_push_10 (fun q10 => ?_) (fun q10 => ?_)
  · replace hs := (if_pos q10).symm.trans hs
    exact Ev.keep [false, false, false] (t_X14_push_32 C  hs)
  · replace hs := (if_neg q10).symm.trans hs
    refine ev_iload_n C rfl dX14_push_13 ?_
    refine ev_iconst C (v := 0) dX14_push_14 (by decide) ?_
    refine ev_aload_n C (x := .ref o) rfl trivial dX14_push_15 ?_
    obtain ⟨x16, e16, hs⟩ := aB hs
    refine ev_get C (ci := 14) (k := 4) rfl wu_14 (by decide) wf_X14_376 (gO_F e16) dX14_push_16 ?_
    obtain ⟨x19, e19, hs⟩ := aB hs
    refine ev_getN C (ci := 13) (k := 0) rfl wu_13 (by decide) wg_X14_252 (gO_F e19) dX14_push_19 ?_
    refine ev_iconst C (v := 1) dX14_push_22 (by decide) ?_
    obtain ⟨x23, e23, hs⟩ := aB hs
    refine ev_iald C e23 dX14_push_23 ?_
    refine ev_iconst C (v := 1) dX14_push_24 (by decide) ?_
    refine ev_isub C dX14_push_25 ?_
    obtain ⟨x26, h26, e26, hs⟩ := cI_at hs
    refine ev_callS C (T_X14_in _ _ _ _ _ _ e26) wc_X14_in wm_X14_313 wt_X14_in wz_X14 hy_X14_in ⟨(Nat.le_of_ble_eq_true rfl), (Nat.le_of_ble_eq_true rfl)⟩ ⟨(Nat.le_refl _), (Nat.le_refl _)⟩ (Nat.le_of_ble_eq_true rfl) rfl dX14_push_26 ?_
    refine ev_if_ne C (tgt := 35) (by decide) dX14_push_29 (fun q29 => ?_) (fun q29 => ?_)
    · replace hs := (if_neg q29).symm.trans hs
      refine ev_aload_n C (x := .ref o) rfl trivial dX14_push_35 ?_
      refine ev_iload_n C rfl dX14_push_36 ?_
      obtain ⟨eo37, hs⟩ := kO_at hs
      obtain ⟨h37, e37, hs⟩ := cN_at hs
      refine ev_callV C (T_X14_pushed _ _ _ _ _ e37) (ci := 14) rfl eo37 wc_X14_pushed wm_X14_459 wi_X14_pushed ws_X14_pushed wz_X14 hy_X14_pushed ⟨(Nat.le_of_ble_eq_true rfl), (Nat.le_of_ble_eq_true rfl)⟩ ⟨(Nat.le_refl _), (Nat.le_refl _)⟩ (Nat.le_of_ble_eq_true rfl) rfl dX14_push_37 ?_
      refine ev_aload_n C (x := .ref o) rfl trivial dX14_push_40 ?_
      obtain ⟨x41, e41, hs⟩ := aB hs
      refine ev_get C (ci := 14) (k := 29) rfl wu_14 (by decide) wf_X14_44 (gO_F e41) dX14_push_41 ?_
      refine ev_iconst C (v := 1) dX14_push_44 (by decide) ?_
      obtain ⟨x45, h45, e45, hs⟩ := cI_at hs
      refine ev_callS C (T_X14_slotOf _ _ _ _ e45) wc_X14_slotOf wm_X14_246 wt_X14_slotOf wz_X14 hy_X14_slotOf ⟨(Nat.le_of_ble_eq_true rfl), (Nat.le_of_ble_eq_true rfl)⟩ ⟨(Nat.le_refl _), (Nat.le_refl _)⟩ (Nat.le_of_ble_eq_true rfl) rfl dX14_push_45 ?_
      refine ev_iload_n C rfl dX14_push_48 ?_
      refine ev_iadd C dX14_push_49 ?_
      obtain ⟨x50, e50, hs⟩ := aB hs
      refine ev_iald C e50 dX14_push_50 ?_
      cases hs
      exact ev_iret C rfl rfl (Nat.le_refl _) (Nat.le_refl _) rfl dX14_push_51
    · replace hs := (if_pos q29).symm.trans hs
      exact Ev.keep [false, false, false] (t_X14_push_32 C  hs)
end
-- X14_next_
theorem dX14_next__0 : decode cX14_next_ 0 = .ok (.aload_n 0, 1) := by decide +kernel
theorem dX14_next__1 : decode cX14_next_ 1 = .ok (.iconst 0, 1) := by decide +kernel
theorem dX14_next__2 : decode cX14_next_ 2 = .ok (.putfield 154, 3) := by decide +kernel
theorem dX14_next__5 : decode cX14_next_ 5 = .ok (.aload_n 0, 1) := by decide +kernel
theorem dX14_next__6 : decode cX14_next_ 6 = .ok (.iload_n 1, 1) := by decide +kernel
theorem dX14_next__7 : decode cX14_next_ 7 = .ok (.invokevirtual 474, 3) := by decide +kernel
theorem dX14_next__10 : decode cX14_next_ 10 = .ok (.ifCond .eq 33, 3) := by decide +kernel
theorem dX14_next__13 : decode cX14_next_ 13 = .ok (.aload_n 0, 1) := by decide +kernel
theorem dX14_next__14 : decode cX14_next_ 14 = .ok (.iload_n 2, 1) := by decide +kernel
theorem dX14_next__15 : decode cX14_next_ 15 = .ok (.invokevirtual 477, 3) := by decide +kernel
theorem dX14_next__18 : decode cX14_next_ 18 = .ok (.ifCond .eq 25, 3) := by decide +kernel
theorem dX14_next__21 : decode cX14_next_ 21 = .ok (.aload_n 0, 1) := by decide +kernel
theorem dX14_next__22 : decode cX14_next_ 22 = .ok (.iload_n 3, 1) := by decide +kernel
theorem dX14_next__23 : decode cX14_next_ 23 = .ok (.invokevirtual 480, 3) := by decide +kernel
theorem dX14_next__26 : decode cX14_next_ 26 = .ok (.ifCond .eq 17, 3) := by decide +kernel
theorem dX14_next__29 : decode cX14_next_ 29 = .ok (.aload_n 0, 1) := by decide +kernel
theorem dX14_next__30 : decode cX14_next_ 30 = .ok (.aload_n 0, 1) := by decide +kernel
theorem dX14_next__31 : decode cX14_next_ 31 = .ok (.iload_n 1, 1) := by decide +kernel
theorem dX14_next__32 : decode cX14_next_ 32 = .ok (.iload_n 2, 1) := by decide +kernel
theorem dX14_next__33 : decode cX14_next_ 33 = .ok (.iload_n 3, 1) := by decide +kernel
theorem dX14_next__34 : decode cX14_next_ 34 = .ok (.invokevirtual 483, 3) := by decide +kernel
theorem dX14_next__37 : decode cX14_next_ 37 = .ok (.invokevirtual 413, 3) := by decide +kernel
theorem dX14_next__40 : decode cX14_next_ 40 = .ok (.goto 8, 3) := by decide +kernel
theorem dX14_next__43 : decode cX14_next_ 43 = .ok (.aload_n 0, 1) := by decide +kernel
theorem dX14_next__44 : decode cX14_next_ 44 = .ok (.iconst 1, 1) := by decide +kernel
theorem dX14_next__45 : decode cX14_next_ 45 = .ok (.invokevirtual 360, 3) := by decide +kernel
theorem dX14_next__48 : decode cX14_next_ 48 = .ok (.ireturn, 1) := by decide +kernel
def s_X14_next__43  (l0 : Nat) (h : aH) : aO :=
  kO h l0 14 (cI (s_X14_refused l0 1 h) fun x45 h45 => some (.inl (some (.int x45)), h45))
def s_X14_next_ (o : Nat) (a1 : Int32) (a2 : Int32) (a3 : Int32) (h : aH) : aO :=
  (pF h (.ref o) 14 0 (.int 0)).bind fun h2 => kO h2 o 14 (cI (s_X14_isCell o a1 h2) fun x7 h7 => if x7 = 0 then (s_X14_next__43 o h7) else (kO h7 o 14 (cI (s_X14_isPush o a2 h7) fun x15 h15 => if x15 = 0 then (s_X14_next__43 o h15) else (kO h15 o 14 (cI (s_X14_isWorld o a3 h15) fun x23 h23 => if x23 = 0 then (s_X14_next__43 o h23) else (kO h23 o 14 (cI (s_X14_to o a1 a2 a3 h23) fun x34 h34 => kO h34 o 14 (cI (s_X14_done o x34 h34) fun x37 h37 => some (.inl (some (.int x37)), h37)))))))))
section
variable {p : Program} {l : Launch} {e : Env} {s : State} {m : MethodId} {args : Array Value} {below : List Frame} {meth : Method} {c : Code} {D : va_G} {B0 : Nat} {X : Nat → Nat} {ws0 : va_W} {r : aR} {h' : aH} {mc ms : Nat}
theorem t_X14_next__43 (C : Cx p l s m args meth c B0 X RX14 "next" cX14_next_ 4 (some .int) [])   {l0 : Nat} {h : aH} (hs : s_X14_next__43  l0 h = some (r, h')) : Ev p l e { frames := 2, cells := mc, slots := ms, locals := 43 } s m args below meth c D B0 X ws0 r h' mc ms 4 mc ms 43 [some (.ref l0), none, none, none] [] h := by
  unfold s_X14_next__43 at hs
  refine ev_aload_n C (x := .ref l0) rfl trivial dX14_next__43 ?_
  refine ev_iconst C (v := 1) dX14_next__44 (by decide) ?_
  obtain ⟨eo45, hs⟩ := kO_at hs
  obtain ⟨x45, h45, e45, hs⟩ := cI_at hs
  refine ev_callV C (T_X14_refused _ _ _ _ _ e45) (ci := 14) rfl eo45 wc_X14_refused wm_X14_360 wi_X14_refused ws_X14_refused wz_X14 hy_X14_refused ⟨(Nat.le_of_ble_eq_true rfl), (Nat.le_of_ble_eq_true rfl)⟩ ⟨(Nat.le_refl _), (Nat.le_refl _)⟩ (Nat.le_of_ble_eq_true rfl) rfl dX14_next__45 ?_
  cases hs
  exact ev_iret C rfl rfl (Nat.le_refl _) (Nat.le_refl _) rfl dX14_next__48
theorem hy_X14_next_ : yX14_next_.cls ≠ "java/lang/invoke/MethodHandle" ∧ yX14_next_.cls ≠ "java/lang/invoke/VarHandle" ∧ (parseMethodDescriptor yX14_next_.desc).map (fun d => d.parameters.length) = some 3 := by decide +kernel
theorem T_X14_next_ (o : Nat) (a1 : Int32) (a2 : Int32) (a3 : Int32) (h : aH) (r : aR) (h' : aH) (hs : s_X14_next_ o a1 a2 a3 h = some (r, h')) : Mt yX14_next_ (Cond.code yX14_next_ cX14_next_ 4 (some .int) :: aTB) 2 43 0 0 [.ref o, .int a1, .int a2, .int a3] h r h' := by
  unfold s_X14_next_ at hs
  refine Mt_of (k := 0) (by decide) rfl (fun p l e s m args below meth c D B0 X ws0 C => ?_)
  show Ev p l e { frames := 2, cells := 0, slots := 0, locals := 43 } s m args below meth c D B0 X ws0 r h' 0 0 4 0 0 0 [some (.ref o), some (.int a1), some (.int a2), some (.int a3)] [] h
  refine ev_aload_n C (x := .ref o) rfl trivial dX14_next__0 ?_
  refine ev_iconst C (v := 0) dX14_next__1 (by decide) ?_
  obtain ⟨h2, e2, hs⟩ := aB hs
  refine ev_put C (ci := 14) (k := 0) rfl wu_14 (by decide) tyX14 tyX14_ok nmX14 wf_X14_154 rfl trivial e2 dX14_next__2 ?_
  refine ev_aload_n C (x := .ref o) rfl trivial dX14_next__5 ?_
  refine ev_iload_n C rfl dX14_next__6 ?_
  obtain ⟨eo7, hs⟩ := kO_at hs
  obtain ⟨x7, h7, e7, hs⟩ := cI_at hs
  refine ev_callV C (T_X14_isCell _ _ _ _ _ e7) (ci := 14) rfl eo7 wc_X14_isCell wm_X14_474 wi_X14_isCell ws_X14_isCell wz_X14 hy_X14_isCell ⟨(Nat.le_of_ble_eq_true rfl), (Nat.le_of_ble_eq_true rfl)⟩ ⟨(Nat.le_refl _), (Nat.le_refl _)⟩ (Nat.le_of_ble_eq_true rfl) rfl dX14_next__7 ?_
  refine ev_if_eq C (tgt := 43) (by decide) dX14_next__10 (fun q10 => ?_) (fun q10 => ?_)
  · replace hs := (if_pos q10).symm.trans hs
    exact Ev.keep [true, false, false, false] (t_X14_next__43 C  hs)
  · replace hs := (if_neg q10).symm.trans hs
    refine ev_aload_n C (x := .ref o) rfl trivial dX14_next__13 ?_
    refine ev_iload_n C rfl dX14_next__14 ?_
    obtain ⟨eo15, hs⟩ := kO_at hs
    obtain ⟨x15, h15, e15, hs⟩ := cI_at hs
    refine ev_callV C (T_X14_isPush _ _ _ _ _ e15) (ci := 14) rfl eo15 wc_X14_isPush wm_X14_477 wi_X14_isPush ws_X14_isPush wz_X14 hy_X14_isPush ⟨(Nat.le_of_ble_eq_true rfl), (Nat.le_of_ble_eq_true rfl)⟩ ⟨(Nat.le_refl _), (Nat.le_refl _)⟩ (Nat.le_of_ble_eq_true rfl) rfl dX14_next__15 ?_
    refine ev_if_eq C (tgt := 43) (by decide) dX14_next__18 (fun q18 => ?_) (fun q18 => ?_)
    · replace hs := (if_pos q18).symm.trans hs
      exact Ev.keep [true, false, false, false] (t_X14_next__43 C  hs)
    · replace hs := (if_neg q18).symm.trans hs
      refine ev_aload_n C (x := .ref o) rfl trivial dX14_next__21 ?_
      refine ev_iload_n C rfl dX14_next__22 ?_
      obtain ⟨eo23, hs⟩ := kO_at hs
      obtain ⟨x23, h23, e23, hs⟩ := cI_at hs
      refine ev_callV C (T_X14_isWorld _ _ _ _ _ e23) (ci := 14) rfl eo23 wc_X14_isWorld wm_X14_480 wi_X14_isWorld ws_X14_isWorld wz_X14 hy_X14_isWorld ⟨(Nat.le_of_ble_eq_true rfl), (Nat.le_of_ble_eq_true rfl)⟩ ⟨(Nat.le_refl _), (Nat.le_refl _)⟩ (Nat.le_of_ble_eq_true rfl) rfl dX14_next__23 ?_
      refine ev_if_eq C (tgt := 43) (by decide) dX14_next__26 (fun q26 => ?_) (fun q26 => ?_)
      · replace hs := (if_pos q26).symm.trans hs
        exact Ev.keep [true, false, false, false] (t_X14_next__43 C  hs)
      · replace hs := (if_neg q26).symm.trans hs
        refine ev_aload_n C (x := .ref o) rfl trivial dX14_next__29 ?_
        refine ev_aload_n C (x := .ref o) rfl trivial dX14_next__30 ?_
        refine ev_iload_n C rfl dX14_next__31 ?_
        refine ev_iload_n C rfl dX14_next__32 ?_
        refine ev_iload_n C rfl dX14_next__33 ?_
        obtain ⟨eo34, hs⟩ := kO_at hs
        obtain ⟨x34, h34, e34, hs⟩ := cI_at hs
        refine ev_callV C (T_X14_to _ _ _ _ _ _ _ e34) (ci := 14) rfl eo34 wc_X14_to wm_X14_483 wi_X14_to ws_X14_to wz_X14 hy_X14_to ⟨(Nat.le_of_ble_eq_true rfl), (Nat.le_of_ble_eq_true rfl)⟩ ⟨(Nat.le_refl _), (Nat.le_refl _)⟩ (Nat.le_of_ble_eq_true rfl) rfl dX14_next__34 ?_
        obtain ⟨eo37, hs⟩ := kO_at hs
        obtain ⟨x37, h37, e37, hs⟩ := cI_at hs
        refine ev_callV C (T_X14_done _ _ _ _ _ e37) (ci := 14) rfl eo37 wc_X14_done wm_X14_413 wi_X14_done ws_X14_done wz_X14 hy_X14_done ⟨(Nat.le_of_ble_eq_true rfl), (Nat.le_of_ble_eq_true rfl)⟩ ⟨(Nat.le_refl _), (Nat.le_refl _)⟩ (Nat.le_of_ble_eq_true rfl) rfl dX14_next__37 ?_
        refine ev_goto C (tgt := 48) (by decide) dX14_next__40 ?_
        cases hs
        exact ev_iret C rfl rfl (Nat.le_refl _) (Nat.le_refl _) rfl dX14_next__48
end
-- X14_sightHere
theorem dX14_sightHere_0 : decode cX14_sightHere 0 = .ok (.aload_n 0, 1) := by decide +kernel
theorem dX14_sightHere_1 : decode cX14_sightHere 1 = .ok (.aload_n 0, 1) := by decide +kernel
theorem dX14_sightHere_2 : decode cX14_sightHere 2 = .ok (.getfield 376, 3) := by decide +kernel
theorem dX14_sightHere_5 : decode cX14_sightHere 5 = .ok (.aload_n 0, 1) := by decide +kernel
theorem dX14_sightHere_6 : decode cX14_sightHere 6 = .ok (.getfield 376, 3) := by decide +kernel
theorem dX14_sightHere_9 : decode cX14_sightHere 9 = .ok (.getfield 292, 3) := by decide +kernel
theorem dX14_sightHere_12 : decode cX14_sightHere 12 = .ok (.iconst 4, 1) := by decide +kernel
theorem dX14_sightHere_13 : decode cX14_sightHere 13 = .ok (.invokestatic 246, 3) := by decide +kernel
theorem dX14_sightHere_16 : decode cX14_sightHere 16 = .ok (.iload_n 1, 1) := by decide +kernel
theorem dX14_sightHere_17 : decode cX14_sightHere 17 = .ok (.iadd, 1) := by decide +kernel
theorem dX14_sightHere_18 : decode cX14_sightHere 18 = .ok (.iaload, 1) := by decide +kernel
theorem dX14_sightHere_19 : decode cX14_sightHere 19 = .ok (.aload_n 0, 1) := by decide +kernel
theorem dX14_sightHere_20 : decode cX14_sightHere 20 = .ok (.getfield 376, 3) := by decide +kernel
theorem dX14_sightHere_23 : decode cX14_sightHere 23 = .ok (.getfield 301, 3) := by decide +kernel
theorem dX14_sightHere_26 : decode cX14_sightHere 26 = .ok (.iconst 4, 1) := by decide +kernel
theorem dX14_sightHere_27 : decode cX14_sightHere 27 = .ok (.invokestatic 246, 3) := by decide +kernel
theorem dX14_sightHere_30 : decode cX14_sightHere 30 = .ok (.iload_n 1, 1) := by decide +kernel
theorem dX14_sightHere_31 : decode cX14_sightHere 31 = .ok (.iadd, 1) := by decide +kernel
theorem dX14_sightHere_32 : decode cX14_sightHere 32 = .ok (.iaload, 1) := by decide +kernel
theorem dX14_sightHere_33 : decode cX14_sightHere 33 = .ok (.invokevirtual 419, 3) := by decide +kernel
theorem dX14_sightHere_36 : decode cX14_sightHere 36 = .ok (.ireturn, 1) := by decide +kernel
def s_X14_sightHere (o : Nat) (a1 : Int32) (h : aH) : aO :=
  (gO h (.ref o) 14 4).bind fun x2 => (gO h (.ref o) 14 4).bind fun x6 => (gO h (.ref x6) 13 3).bind fun x9 => cI (s_X14_slotOf 4 h) fun x13 h13 => (ldI .int h13 (.ref x9) (x13 + a1)).bind fun x18 => (gO h13 (.ref o) 14 4).bind fun x20 => (gO h13 (.ref x20) 13 4).bind fun x23 => cI (s_X14_slotOf 4 h13) fun x27 h27 => (ldI .int h27 (.ref x23) (x27 + a1)).bind fun x32 => kO h27 o 14 (cI (s_X14_valueOf o x2 x18 x32 h27) fun x33 h33 => some (.inl (some (.int x33)), h33))
section
variable {p : Program} {l : Launch} {e : Env} {s : State} {m : MethodId} {args : Array Value} {below : List Frame} {meth : Method} {c : Code} {D : va_G} {B0 : Nat} {X : Nat → Nat} {ws0 : va_W} {r : aR} {h' : aH} {mc ms : Nat}
theorem hy_X14_sightHere : yX14_sightHere.cls ≠ "java/lang/invoke/MethodHandle" ∧ yX14_sightHere.cls ≠ "java/lang/invoke/VarHandle" ∧ (parseMethodDescriptor yX14_sightHere.desc).map (fun d => d.parameters.length) = some 1 := by decide +kernel
theorem T_X14_sightHere (o : Nat) (a1 : Int32) (h : aH) (r : aR) (h' : aH) (hs : s_X14_sightHere o a1 h = some (r, h')) : Mt yX14_sightHere (Cond.code yX14_sightHere cX14_sightHere 2 (some .int) :: aTB) 3 75 0 0 [.ref o, .int a1] h r h' := by
  unfold s_X14_sightHere at hs
  refine Mt_of (k := 0) (by decide) rfl (fun p l e s m args below meth c D B0 X ws0 C => ?_)
  show Ev p l e { frames := 3, cells := 0, slots := 0, locals := 75 } s m args below meth c D B0 X ws0 r h' 0 0 2 0 0 0 [some (.ref o), some (.int a1)] [] h
  refine ev_aload_n C (x := .ref o) rfl trivial dX14_sightHere_0 ?_
  refine ev_aload_n C (x := .ref o) rfl trivial dX14_sightHere_1 ?_
  obtain ⟨x2, e2, hs⟩ := aB hs
  refine ev_get C (ci := 14) (k := 4) rfl wu_14 (by decide) wf_X14_376 (gO_F e2) dX14_sightHere_2 ?_
  refine ev_aload_n C (x := .ref o) rfl trivial dX14_sightHere_5 ?_
  obtain ⟨x6, e6, hs⟩ := aB hs
  refine ev_get C (ci := 14) (k := 4) rfl wu_14 (by decide) wf_X14_376 (gO_F e6) dX14_sightHere_6 ?_
  obtain ⟨x9, e9, hs⟩ := aB hs
  refine ev_getN C (ci := 13) (k := 3) rfl wu_13 (by decide) wg_X14_292 (gO_F e9) dX14_sightHere_9 ?_
  refine ev_iconst C (v := 4) dX14_sightHere_12 (by decide) ?_
  obtain ⟨x13, h13, e13, hs⟩ := cI_at hs
  refine ev_callS C (T_X14_slotOf _ _ _ _ e13) wc_X14_slotOf wm_X14_246 wt_X14_slotOf wz_X14 hy_X14_slotOf ⟨(Nat.le_of_ble_eq_true rfl), (Nat.le_of_ble_eq_true rfl)⟩ ⟨(Nat.le_refl _), (Nat.le_refl _)⟩ (Nat.le_of_ble_eq_true rfl) rfl dX14_sightHere_13 ?_
  refine ev_iload_n C rfl dX14_sightHere_16 ?_
  refine ev_iadd C dX14_sightHere_17 ?_
  obtain ⟨x18, e18, hs⟩ := aB hs
  refine ev_iald C e18 dX14_sightHere_18 ?_
  refine ev_aload_n C (x := .ref o) rfl trivial dX14_sightHere_19 ?_
  obtain ⟨x20, e20, hs⟩ := aB hs
  refine ev_get C (ci := 14) (k := 4) rfl wu_14 (by decide) wf_X14_376 (gO_F e20) dX14_sightHere_20 ?_
  obtain ⟨x23, e23, hs⟩ := aB hs
  refine ev_getN C (ci := 13) (k := 4) rfl wu_13 (by decide) wg_X14_301 (gO_F e23) dX14_sightHere_23 ?_
  refine ev_iconst C (v := 4) dX14_sightHere_26 (by decide) ?_
  obtain ⟨x27, h27, e27, hs⟩ := cI_at hs
  refine ev_callS C (T_X14_slotOf _ _ _ _ e27) wc_X14_slotOf wm_X14_246 wt_X14_slotOf wz_X14 hy_X14_slotOf ⟨(Nat.le_of_ble_eq_true rfl), (Nat.le_of_ble_eq_true rfl)⟩ ⟨(Nat.le_refl _), (Nat.le_refl _)⟩ (Nat.le_of_ble_eq_true rfl) rfl dX14_sightHere_27 ?_
  refine ev_iload_n C rfl dX14_sightHere_30 ?_
  refine ev_iadd C dX14_sightHere_31 ?_
  obtain ⟨x32, e32, hs⟩ := aB hs
  refine ev_iald C e32 dX14_sightHere_32 ?_
  obtain ⟨eo33, hs⟩ := kO_at hs
  obtain ⟨x33, h33, e33, hs⟩ := cI_at hs
  refine ev_callV C (T_X14_valueOf _ _ _ _ _ _ _ e33) (ci := 14) rfl eo33 wc_X14_valueOf wm_X14_419 wi_X14_valueOf ws_X14_valueOf wz_X14 hy_X14_valueOf ⟨(Nat.le_of_ble_eq_true rfl), (Nat.le_of_ble_eq_true rfl)⟩ ⟨(Nat.le_refl _), (Nat.le_refl _)⟩ (Nat.le_of_ble_eq_true rfl) rfl dX14_sightHere_33 ?_
  cases hs
  exact ev_iret C rfl rfl (Nat.le_refl _) (Nat.le_refl _) rfl dX14_sightHere_36
end
-- X14_isSight
theorem dX14_isSight_0 : decode cX14_isSight 0 = .ok (.aload_n 0, 1) := by decide +kernel
theorem dX14_isSight_1 : decode cX14_isSight 1 = .ok (.getfield 376, 3) := by decide +kernel
theorem dX14_isSight_4 : decode cX14_isSight 4 = .ok (.ifnull 26, 3) := by decide +kernel
theorem dX14_isSight_7 : decode cX14_isSight 7 = .ok (.iload_n 1, 1) := by decide +kernel
theorem dX14_isSight_8 : decode cX14_isSight 8 = .ok (.iconst 0, 1) := by decide +kernel
theorem dX14_isSight_9 : decode cX14_isSight 9 = .ok (.aload_n 0, 1) := by decide +kernel
theorem dX14_isSight_10 : decode cX14_isSight 10 = .ok (.getfield 376, 3) := by decide +kernel
theorem dX14_isSight_13 : decode cX14_isSight 13 = .ok (.getfield 252, 3) := by decide +kernel
theorem dX14_isSight_16 : decode cX14_isSight 16 = .ok (.iconst 4, 1) := by decide +kernel
theorem dX14_isSight_17 : decode cX14_isSight 17 = .ok (.iaload, 1) := by decide +kernel
theorem dX14_isSight_18 : decode cX14_isSight 18 = .ok (.iconst 1, 1) := by decide +kernel
theorem dX14_isSight_19 : decode cX14_isSight 19 = .ok (.isub, 1) := by decide +kernel
theorem dX14_isSight_20 : decode cX14_isSight 20 = .ok (.invokestatic 313, 3) := by decide +kernel
theorem dX14_isSight_23 : decode cX14_isSight 23 = .ok (.ifCond .eq 7, 3) := by decide +kernel
theorem dX14_isSight_26 : decode cX14_isSight 26 = .ok (.iconst 1, 1) := by decide +kernel
theorem dX14_isSight_27 : decode cX14_isSight 27 = .ok (.goto 4, 3) := by decide +kernel
theorem dX14_isSight_30 : decode cX14_isSight 30 = .ok (.iconst 0, 1) := by decide +kernel
theorem dX14_isSight_31 : decode cX14_isSight 31 = .ok (.ireturn, 1) := by decide +kernel
def s_X14_isSight (o : Nat) (a1 : Int32) (h : aH) : aO :=
  (gW h (.ref o) 14 4).bind fun x1 => match x1 with | .null => (rtZ 0 h) | .ref n4 => ((gO h (.ref o) 14 4).bind fun x10 => (gO h (.ref x10) 13 0).bind fun x13 => (ldI .int h (.ref x13) 4).bind fun x17 => cI (s_X14_in a1 0 (x17 - 1) h) fun x20 h20 => if x20 = 0 then (rtZ 0 h20) else (rtZ 1 h20)) | _ => none
section
variable {p : Program} {l : Launch} {e : Env} {s : State} {m : MethodId} {args : Array Value} {below : List Frame} {meth : Method} {c : Code} {D : va_G} {B0 : Nat} {X : Nat → Nat} {ws0 : va_W} {r : aR} {h' : aH} {mc ms : Nat}
theorem hy_X14_isSight : yX14_isSight.cls ≠ "java/lang/invoke/MethodHandle" ∧ yX14_isSight.cls ≠ "java/lang/invoke/VarHandle" ∧ (parseMethodDescriptor yX14_isSight.desc).map (fun d => d.parameters.length) = some 1 := by decide +kernel
theorem T_X14_isSight (o : Nat) (a1 : Int32) (h : aH) (r : aR) (h' : aH) (hs : s_X14_isSight o a1 h = some (r, h')) : Mt yX14_isSight (Cond.code yX14_isSight cX14_isSight 2 (some .boolean) :: aTB) 1 22 0 0 [.ref o, .int a1] h r h' := by
  unfold s_X14_isSight at hs
  refine Mt_of (k := 0) (by decide) rfl (fun p l e s m args below meth c D B0 X ws0 C => ?_)
  show Ev p l e { frames := 1, cells := 0, slots := 0, locals := 22 } s m args below meth c D B0 X ws0 r h' 0 0 2 0 0 0 [some (.ref o), some (.int a1)] [] h
  refine ev_aload_n C (x := .ref o) rfl trivial dX14_isSight_0 ?_
  obtain ⟨x1, e1, hs⟩ := aB hs
  refine ev_get C (ci := 14) (k := 4) rfl wu_14 (by decide) wf_X14_376 (gW_F e1).1 dX14_isSight_1 ?_
  cases x1 with
  | null =>
    refine ev_ifnull_n C (tgt := 30) (by decide) dX14_isSight_4 ?_
    refine ev_iconst C (v := 0) dX14_isSight_30 (by decide) ?_
    obtain ⟨hz, rfl, rfl⟩ := rtZ_at hs
    exact ev_zret C rfl hz rfl (Nat.le_refl _) (Nat.le_refl _) rfl dX14_isSight_31
  | ref n4 =>
    refine ev_ifnull_r C dX14_isSight_4 ?_
    refine ev_iload_n C rfl dX14_isSight_7 ?_
    refine ev_iconst C (v := 0) dX14_isSight_8 (by decide) ?_
    refine ev_aload_n C (x := .ref o) rfl trivial dX14_isSight_9 ?_
    obtain ⟨x10, e10, hs⟩ := aB hs
    refine ev_get C (ci := 14) (k := 4) rfl wu_14 (by decide) wf_X14_376 (gO_F e10) dX14_isSight_10 ?_
    obtain ⟨x13, e13, hs⟩ := aB hs
    refine ev_getN C (ci := 13) (k := 0) rfl wu_13 (by decide) wg_X14_252 (gO_F e13) dX14_isSight_13 ?_
    refine ev_iconst C (v := 4) dX14_isSight_16 (by decide) ?_
    obtain ⟨x17, e17, hs⟩ := aB hs
    refine ev_iald C e17 dX14_isSight_17 ?_
    refine ev_iconst C (v := 1) dX14_isSight_18 (by decide) ?_
    refine ev_isub C dX14_isSight_19 ?_
    obtain ⟨x20, h20, e20, hs⟩ := cI_at hs
    refine ev_callS C (T_X14_in _ _ _ _ _ _ e20) wc_X14_in wm_X14_313 wt_X14_in wz_X14 hy_X14_in ⟨(Nat.le_of_ble_eq_true rfl), (Nat.le_of_ble_eq_true rfl)⟩ ⟨(Nat.le_refl _), (Nat.le_refl _)⟩ (Nat.le_of_ble_eq_true rfl) rfl dX14_isSight_20 ?_
    refine ev_if_eq C (tgt := 30) (by decide) dX14_isSight_23 (fun q23 => ?_) (fun q23 => ?_)
    · replace hs := (if_pos q23).symm.trans hs
      refine ev_iconst C (v := 0) dX14_isSight_30 (by decide) ?_
      obtain ⟨hz, rfl, rfl⟩ := rtZ_at hs
      exact ev_zret C rfl hz rfl (Nat.le_refl _) (Nat.le_refl _) rfl dX14_isSight_31
    · replace hs := (if_neg q23).symm.trans hs
      refine ev_iconst C (v := 1) dX14_isSight_26 (by decide) ?_
      refine ev_goto C (tgt := 31) (by decide) dX14_isSight_27 ?_
      obtain ⟨hz, rfl, rfl⟩ := rtZ_at hs
      exact ev_zret C rfl hz rfl (Nat.le_refl _) (Nat.le_refl _) rfl dX14_isSight_31
  | _ => cases hs
end
-- X14_sight
theorem dX14_sight_0 : decode cX14_sight 0 = .ok (.aload_n 0, 1) := by decide +kernel
theorem dX14_sight_1 : decode cX14_sight 1 = .ok (.iconst 0, 1) := by decide +kernel
theorem dX14_sight_2 : decode cX14_sight 2 = .ok (.putfield 154, 3) := by decide +kernel
theorem dX14_sight_5 : decode cX14_sight 5 = .ok (.aload_n 0, 1) := by decide +kernel
theorem dX14_sight_6 : decode cX14_sight 6 = .ok (.iload_n 1, 1) := by decide +kernel
theorem dX14_sight_7 : decode cX14_sight 7 = .ok (.invokevirtual 474, 3) := by decide +kernel
theorem dX14_sight_10 : decode cX14_sight 10 = .ok (.ifCond .eq 28, 3) := by decide +kernel
theorem dX14_sight_13 : decode cX14_sight 13 = .ok (.aload_n 0, 1) := by decide +kernel
theorem dX14_sight_14 : decode cX14_sight 14 = .ok (.iload_n 2, 1) := by decide +kernel
theorem dX14_sight_15 : decode cX14_sight 15 = .ok (.invokevirtual 477, 3) := by decide +kernel
theorem dX14_sight_18 : decode cX14_sight 18 = .ok (.ifCond .eq 20, 3) := by decide +kernel
theorem dX14_sight_21 : decode cX14_sight 21 = .ok (.aload_n 0, 1) := by decide +kernel
theorem dX14_sight_22 : decode cX14_sight 22 = .ok (.iload_n 3, 1) := by decide +kernel
theorem dX14_sight_23 : decode cX14_sight 23 = .ok (.invokevirtual 480, 3) := by decide +kernel
theorem dX14_sight_26 : decode cX14_sight 26 = .ok (.ifCond .eq 12, 3) := by decide +kernel
theorem dX14_sight_29 : decode cX14_sight 29 = .ok (.aload_n 0, 1) := by decide +kernel
theorem dX14_sight_30 : decode cX14_sight 30 = .ok (.iload 4, 2) := by decide +kernel
theorem dX14_sight_32 : decode cX14_sight 32 = .ok (.invokevirtual 486, 3) := by decide +kernel
theorem dX14_sight_35 : decode cX14_sight 35 = .ok (.ifCond .ne 6, 3) := by decide +kernel
theorem dX14_sight_38 : decode cX14_sight 38 = .ok (.ldc 162, 2) := by decide +kernel
theorem dX14_sight_40 : decode cX14_sight 40 = .ok (.ireturn, 1) := by decide +kernel
theorem dX14_sight_41 : decode cX14_sight 41 = .ok (.aload_n 0, 1) := by decide +kernel
theorem dX14_sight_42 : decode cX14_sight 42 = .ok (.iload_n 1, 1) := by decide +kernel
theorem dX14_sight_43 : decode cX14_sight 43 = .ok (.invokevirtual 416, 3) := by decide +kernel
theorem dX14_sight_46 : decode cX14_sight 46 = .ok (.aload_n 0, 1) := by decide +kernel
theorem dX14_sight_47 : decode cX14_sight 47 = .ok (.iload_n 2, 1) := by decide +kernel
theorem dX14_sight_48 : decode cX14_sight 48 = .ok (.invokevirtual 459, 3) := by decide +kernel
theorem dX14_sight_51 : decode cX14_sight 51 = .ok (.aload_n 0, 1) := by decide +kernel
theorem dX14_sight_52 : decode cX14_sight 52 = .ok (.iload_n 3, 1) := by decide +kernel
theorem dX14_sight_53 : decode cX14_sight 53 = .ok (.invokevirtual 462, 3) := by decide +kernel
theorem dX14_sight_56 : decode cX14_sight 56 = .ok (.aload_n 0, 1) := by decide +kernel
theorem dX14_sight_57 : decode cX14_sight 57 = .ok (.iload 4, 2) := by decide +kernel
theorem dX14_sight_59 : decode cX14_sight 59 = .ok (.invokevirtual 489, 3) := by decide +kernel
theorem dX14_sight_62 : decode cX14_sight 62 = .ok (.ireturn, 1) := by decide +kernel
def s_X14_sight_38   (h : aH) : aO :=
  some (.inl (some (.int (-2147483648))), h)
def s_X14_sight (o : Nat) (a1 : Int32) (a2 : Int32) (a3 : Int32) (a4 : Int32) (h : aH) : aO :=
  (pF h (.ref o) 14 0 (.int 0)).bind fun h2 => kO h2 o 14 (cI (s_X14_isCell o a1 h2) fun x7 h7 => if x7 = 0 then (s_X14_sight_38 h7) else (kO h7 o 14 (cI (s_X14_isPush o a2 h7) fun x15 h15 => if x15 = 0 then (s_X14_sight_38 h15) else (kO h15 o 14 (cI (s_X14_isWorld o a3 h15) fun x23 h23 => if x23 = 0 then (s_X14_sight_38 h23) else (kO h23 o 14 (cI (s_X14_isSight o a4 h23) fun x32 h32 => if x32 = 0 then (s_X14_sight_38 h32) else (kO h32 o 14 (cN (s_X14_lays o a1 h32) fun h43 => kO h43 o 14 (cN (s_X14_pushed o a2 h43) fun h48 => kO h48 o 14 (cN (s_X14_worlded o a3 h48) fun h53 => kO h53 o 14 (cI (s_X14_sightHere o a4 h53) fun x59 h59 => some (.inl (some (.int x59)), h59)))))))))))))
section
variable {p : Program} {l : Launch} {e : Env} {s : State} {m : MethodId} {args : Array Value} {below : List Frame} {meth : Method} {c : Code} {D : va_G} {B0 : Nat} {X : Nat → Nat} {ws0 : va_W} {r : aR} {h' : aH} {mc ms : Nat}
theorem t_X14_sight_38 (C : Cx p l s m args meth c B0 X RX14 "sight" cX14_sight 5 (some .int) [])    {h : aH} (hs : s_X14_sight_38   h = some (r, h')) : Ev p l e { frames := 4, cells := mc, slots := ms, locals := 96 } s m args below meth c D B0 X ws0 r h' mc ms 5 mc ms 38 [none, none, none, none, none] [] h := by
  unfold s_X14_sight_38 at hs
  refine ev_ldc C wv_X14_162 dX14_sight_38 ?_
  cases hs
  exact ev_iret C rfl rfl (Nat.le_refl _) (Nat.le_refl _) rfl dX14_sight_40
theorem hy_X14_sight : yX14_sight.cls ≠ "java/lang/invoke/MethodHandle" ∧ yX14_sight.cls ≠ "java/lang/invoke/VarHandle" ∧ (parseMethodDescriptor yX14_sight.desc).map (fun d => d.parameters.length) = some 4 := by decide +kernel
theorem T_X14_sight (o : Nat) (a1 : Int32) (a2 : Int32) (a3 : Int32) (a4 : Int32) (h : aH) (r : aR) (h' : aH) (hs : s_X14_sight o a1 a2 a3 a4 h = some (r, h')) : Mt yX14_sight (Cond.code yX14_sight cX14_sight 5 (some .int) :: aTB) 4 96 0 0 [.ref o, .int a1, .int a2, .int a3, .int a4] h r h' := by
  unfold s_X14_sight at hs
  refine Mt_of (k := 0) (by decide) rfl (fun p l e s m args below meth c D B0 X ws0 C => ?_)
  show Ev p l e { frames := 4, cells := 0, slots := 0, locals := 96 } s m args below meth c D B0 X ws0 r h' 0 0 5 0 0 0 [some (.ref o), some (.int a1), some (.int a2), some (.int a3), some (.int a4)] [] h
  refine ev_aload_n C (x := .ref o) rfl trivial dX14_sight_0 ?_
  refine ev_iconst C (v := 0) dX14_sight_1 (by decide) ?_
  obtain ⟨h2, e2, hs⟩ := aB hs
  refine ev_put C (ci := 14) (k := 0) rfl wu_14 (by decide) tyX14 tyX14_ok nmX14 wf_X14_154 rfl trivial e2 dX14_sight_2 ?_
  refine ev_aload_n C (x := .ref o) rfl trivial dX14_sight_5 ?_
  refine ev_iload_n C rfl dX14_sight_6 ?_
  obtain ⟨eo7, hs⟩ := kO_at hs
  obtain ⟨x7, h7, e7, hs⟩ := cI_at hs
  refine ev_callV C (T_X14_isCell _ _ _ _ _ e7) (ci := 14) rfl eo7 wc_X14_isCell wm_X14_474 wi_X14_isCell ws_X14_isCell wz_X14 hy_X14_isCell ⟨(Nat.le_of_ble_eq_true rfl), (Nat.le_of_ble_eq_true rfl)⟩ ⟨(Nat.le_refl _), (Nat.le_refl _)⟩ (Nat.le_of_ble_eq_true rfl) rfl dX14_sight_7 ?_
  refine ev_if_eq C (tgt := 38) (by decide) dX14_sight_10 (fun q10 => ?_) (fun q10 => ?_)
  · replace hs := (if_pos q10).symm.trans hs
    exact Ev.keep [false, false, false, false, false] (t_X14_sight_38 C  hs)
  · replace hs := (if_neg q10).symm.trans hs
    refine ev_aload_n C (x := .ref o) rfl trivial dX14_sight_13 ?_
    refine ev_iload_n C rfl dX14_sight_14 ?_
    obtain ⟨eo15, hs⟩ := kO_at hs
    obtain ⟨x15, h15, e15, hs⟩ := cI_at hs
    refine ev_callV C (T_X14_isPush _ _ _ _ _ e15) (ci := 14) rfl eo15 wc_X14_isPush wm_X14_477 wi_X14_isPush ws_X14_isPush wz_X14 hy_X14_isPush ⟨(Nat.le_of_ble_eq_true rfl), (Nat.le_of_ble_eq_true rfl)⟩ ⟨(Nat.le_refl _), (Nat.le_refl _)⟩ (Nat.le_of_ble_eq_true rfl) rfl dX14_sight_15 ?_
    refine ev_if_eq C (tgt := 38) (by decide) dX14_sight_18 (fun q18 => ?_) (fun q18 => ?_)
    · replace hs := (if_pos q18).symm.trans hs
      exact Ev.keep [false, false, false, false, false] (t_X14_sight_38 C  hs)
    · replace hs := (if_neg q18).symm.trans hs
      refine ev_aload_n C (x := .ref o) rfl trivial dX14_sight_21 ?_
      refine ev_iload_n C rfl dX14_sight_22 ?_
      obtain ⟨eo23, hs⟩ := kO_at hs
      obtain ⟨x23, h23, e23, hs⟩ := cI_at hs
      refine ev_callV C (T_X14_isWorld _ _ _ _ _ e23) (ci := 14) rfl eo23 wc_X14_isWorld wm_X14_480 wi_X14_isWorld ws_X14_isWorld wz_X14 hy_X14_isWorld ⟨(Nat.le_of_ble_eq_true rfl), (Nat.le_of_ble_eq_true rfl)⟩ ⟨(Nat.le_refl _), (Nat.le_refl _)⟩ (Nat.le_of_ble_eq_true rfl) rfl dX14_sight_23 ?_
      refine ev_if_eq C (tgt := 38) (by decide) dX14_sight_26 (fun q26 => ?_) (fun q26 => ?_)
      · replace hs := (if_pos q26).symm.trans hs
        exact Ev.keep [false, false, false, false, false] (t_X14_sight_38 C  hs)
      · replace hs := (if_neg q26).symm.trans hs
        refine ev_aload_n C (x := .ref o) rfl trivial dX14_sight_29 ?_
        refine ev_iload C rfl dX14_sight_30 ?_
        obtain ⟨eo32, hs⟩ := kO_at hs
        obtain ⟨x32, h32, e32, hs⟩ := cI_at hs
        refine ev_callV C (T_X14_isSight _ _ _ _ _ e32) (ci := 14) rfl eo32 wc_X14_isSight wm_X14_486 wi_X14_isSight ws_X14_isSight wz_X14 hy_X14_isSight ⟨(Nat.le_of_ble_eq_true rfl), (Nat.le_of_ble_eq_true rfl)⟩ ⟨(Nat.le_refl _), (Nat.le_refl _)⟩ (Nat.le_of_ble_eq_true rfl) rfl dX14_sight_32 ?_
        refine ev_if_ne C (tgt := 41) (by decide) dX14_sight_35 (fun q35 => ?_) (fun q35 => ?_)
        · replace hs := (if_neg q35).symm.trans hs
          refine ev_aload_n C (x := .ref o) rfl trivial dX14_sight_41 ?_
          refine ev_iload_n C rfl dX14_sight_42 ?_
          obtain ⟨eo43, hs⟩ := kO_at hs
          obtain ⟨h43, e43, hs⟩ := cN_at hs
          refine ev_callV C (T_X14_lays _ _ _ _ _ e43) (ci := 14) rfl eo43 wc_X14_lays wm_X14_416 wi_X14_lays ws_X14_lays wz_X14 hy_X14_lays ⟨(Nat.le_of_ble_eq_true rfl), (Nat.le_of_ble_eq_true rfl)⟩ ⟨(Nat.le_refl _), (Nat.le_refl _)⟩ (Nat.le_of_ble_eq_true rfl) rfl dX14_sight_43 ?_
          refine ev_aload_n C (x := .ref o) rfl trivial dX14_sight_46 ?_
          refine ev_iload_n C rfl dX14_sight_47 ?_
          obtain ⟨eo48, hs⟩ := kO_at hs
          obtain ⟨h48, e48, hs⟩ := cN_at hs
          refine ev_callV C (T_X14_pushed _ _ _ _ _ e48) (ci := 14) rfl eo48 wc_X14_pushed wm_X14_459 wi_X14_pushed ws_X14_pushed wz_X14 hy_X14_pushed ⟨(Nat.le_of_ble_eq_true rfl), (Nat.le_of_ble_eq_true rfl)⟩ ⟨(Nat.le_refl _), (Nat.le_refl _)⟩ (Nat.le_of_ble_eq_true rfl) rfl dX14_sight_48 ?_
          refine ev_aload_n C (x := .ref o) rfl trivial dX14_sight_51 ?_
          refine ev_iload_n C rfl dX14_sight_52 ?_
          obtain ⟨eo53, hs⟩ := kO_at hs
          obtain ⟨h53, e53, hs⟩ := cN_at hs
          refine ev_callV C (T_X14_worlded _ _ _ _ _ e53) (ci := 14) rfl eo53 wc_X14_worlded wm_X14_462 wi_X14_worlded ws_X14_worlded wz_X14 hy_X14_worlded ⟨(Nat.le_of_ble_eq_true rfl), (Nat.le_of_ble_eq_true rfl)⟩ ⟨(Nat.le_refl _), (Nat.le_refl _)⟩ (Nat.le_of_ble_eq_true rfl) rfl dX14_sight_53 ?_
          refine ev_aload_n C (x := .ref o) rfl trivial dX14_sight_56 ?_
          refine ev_iload C rfl dX14_sight_57 ?_
          obtain ⟨eo59, hs⟩ := kO_at hs
          obtain ⟨x59, h59, e59, hs⟩ := cI_at hs
          refine ev_callV C (T_X14_sightHere _ _ _ _ _ e59) (ci := 14) rfl eo59 wc_X14_sightHere wm_X14_489 wi_X14_sightHere ws_X14_sightHere wz_X14 hy_X14_sightHere ⟨(Nat.le_of_ble_eq_true rfl), (Nat.le_of_ble_eq_true rfl)⟩ ⟨(Nat.le_refl _), (Nat.le_refl _)⟩ (Nat.le_of_ble_eq_true rfl) rfl dX14_sight_59 ?_
          cases hs
          exact ev_iret C rfl rfl (Nat.le_refl _) (Nat.le_refl _) rfl dX14_sight_62
        · replace hs := (if_pos q35).symm.trans hs
          exact Ev.keep [false, false, false, false, false] (t_X14_sight_38 C  hs)
end
-- X14_isIn
theorem dX14_isIn_0 : decode cX14_isIn 0 = .ok (.aload_n 0, 1) := by decide +kernel
theorem dX14_isIn_1 : decode cX14_isIn 1 = .ok (.iload_n 1, 1) := by decide +kernel
theorem dX14_isIn_2 : decode cX14_isIn 2 = .ok (.iload_n 2, 1) := by decide +kernel
theorem dX14_isIn_3 : decode cX14_isIn 3 = .ok (.bipush 32, 2) := by decide +kernel
theorem dX14_isIn_5 : decode cX14_isIn 5 = .ok (.idiv, 1) := by decide +kernel
theorem dX14_isIn_6 : decode cX14_isIn 6 = .ok (.iadd, 1) := by decide +kernel
theorem dX14_isIn_7 : decode cX14_isIn 7 = .ok (.iaload, 1) := by decide +kernel
theorem dX14_isIn_8 : decode cX14_isIn 8 = .ok (.iload_n 2, 1) := by decide +kernel
theorem dX14_isIn_9 : decode cX14_isIn 9 = .ok (.bipush 32, 2) := by decide +kernel
theorem dX14_isIn_11 : decode cX14_isIn 11 = .ok (.irem, 1) := by decide +kernel
theorem dX14_isIn_12 : decode cX14_isIn 12 = .ok (.ishr, 1) := by decide +kernel
theorem dX14_isIn_13 : decode cX14_isIn 13 = .ok (.iconst 1, 1) := by decide +kernel
theorem dX14_isIn_14 : decode cX14_isIn 14 = .ok (.iand, 1) := by decide +kernel
theorem dX14_isIn_15 : decode cX14_isIn 15 = .ok (.iconst 1, 1) := by decide +kernel
theorem dX14_isIn_16 : decode cX14_isIn 16 = .ok (.if_icmp .ne 7, 3) := by decide +kernel
theorem dX14_isIn_19 : decode cX14_isIn 19 = .ok (.iconst 1, 1) := by decide +kernel
theorem dX14_isIn_20 : decode cX14_isIn 20 = .ok (.goto 4, 3) := by decide +kernel
theorem dX14_isIn_23 : decode cX14_isIn 23 = .ok (.iconst 0, 1) := by decide +kernel
theorem dX14_isIn_24 : decode cX14_isIn 24 = .ok (.ireturn, 1) := by decide +kernel
def s_X14_isIn (a1 : Nat) (a2 : Int32) (a3 : Int32) (h : aH) : aO :=
  nz 32 ((ldI .int h (.ref a1) (a2 + (a3 / 32))).bind fun x7 => nz 32 (if ((x7 >>> ((a3 - a3 / 32 * 32) &&& 31)) &&& 1) = 1 then (rtZ 1 h) else (rtZ 0 h)))
section
variable {p : Program} {l : Launch} {e : Env} {s : State} {m : MethodId} {args : Array Value} {below : List Frame} {meth : Method} {c : Code} {D : va_G} {B0 : Nat} {X : Nat → Nat} {ws0 : va_W} {r : aR} {h' : aH} {mc ms : Nat}
theorem hy_X14_isIn : yX14_isIn.cls ≠ "java/lang/invoke/MethodHandle" ∧ yX14_isIn.cls ≠ "java/lang/invoke/VarHandle" ∧ (parseMethodDescriptor yX14_isIn.desc).map (fun d => d.parameters.length) = some 3 := by decide +kernel
theorem T_X14_isIn (a1 : Nat) (a2 : Int32) (a3 : Int32) (h : aH) (r : aR) (h' : aH) (hs : s_X14_isIn a1 a2 a3 h = some (r, h')) : Mt yX14_isIn (Cond.code yX14_isIn cX14_isIn 3 (some .boolean) :: aTB) 0 0 0 0 [.ref a1, .int a2, .int a3] h r h' := by
  unfold s_X14_isIn at hs
  refine Mt_of (k := 0) (by decide) rfl (fun p l e s m args below meth c D B0 X ws0 C => ?_)
  show Ev p l e { frames := 0, cells := 0, slots := 0, locals := 0 } s m args below meth c D B0 X ws0 r h' 0 0 3 0 0 0 [some (.ref a1), some (.int a2), some (.int a3)] [] h
  refine ev_aload_n C (x := .ref a1) rfl trivial dX14_isIn_0 ?_
  refine ev_iload_n C rfl dX14_isIn_1 ?_
  refine ev_iload_n C rfl dX14_isIn_2 ?_
  refine ev_bipush C (v := 32) dX14_isIn_3 (by decide) ?_
  obtain ⟨n5, hs⟩ := nz_at hs
  refine ev_idiv C n5 dX14_isIn_5 ?_
  refine ev_iadd C dX14_isIn_6 ?_
  obtain ⟨x7, e7, hs⟩ := aB hs
  refine ev_iald C e7 dX14_isIn_7 ?_
  refine ev_iload_n C rfl dX14_isIn_8 ?_
  refine ev_bipush C (v := 32) dX14_isIn_9 (by decide) ?_
  obtain ⟨n11, hs⟩ := nz_at hs
  refine ev_irem C n11 dX14_isIn_11 ?_
  refine ev_ishr C dX14_isIn_12 ?_
  refine ev_iconst C (v := 1) dX14_isIn_13 (by decide) ?_
  refine ev_iand C dX14_isIn_14 ?_
  refine ev_iconst C (v := 1) dX14_isIn_15 (by decide) ?_
  refine ev_icmp_ne C (tgt := 23) (by decide) dX14_isIn_16 (fun q16 => ?_) (fun q16 => ?_)
  · replace hs := (if_neg q16).symm.trans hs
    refine ev_iconst C (v := 0) dX14_isIn_23 (by decide) ?_
    obtain ⟨hz, rfl, rfl⟩ := rtZ_at hs
    exact ev_zret C rfl hz rfl (Nat.le_refl _) (Nat.le_refl _) rfl dX14_isIn_24
  · replace hs := (if_pos q16).symm.trans hs
    refine ev_iconst C (v := 1) dX14_isIn_19 (by decide) ?_
    refine ev_goto C (tgt := 24) (by decide) dX14_isIn_20 ?_
    obtain ⟨hz, rfl, rfl⟩ := rtZ_at hs
    exact ev_zret C rfl hz rfl (Nat.le_refl _) (Nat.le_refl _) rfl dX14_isIn_24
end
-- X14_puts
theorem dX14_puts_0 : decode cX14_puts 0 = .ok (.aload_n 0, 1) := by decide +kernel
theorem dX14_puts_1 : decode cX14_puts 1 = .ok (.iload_n 1, 1) := by decide +kernel
theorem dX14_puts_2 : decode cX14_puts 2 = .ok (.iload_n 2, 1) := by decide +kernel
theorem dX14_puts_3 : decode cX14_puts 3 = .ok (.bipush 32, 2) := by decide +kernel
theorem dX14_puts_5 : decode cX14_puts 5 = .ok (.idiv, 1) := by decide +kernel
theorem dX14_puts_6 : decode cX14_puts 6 = .ok (.iadd, 1) := by decide +kernel
theorem dX14_puts_7 : decode cX14_puts 7 = .ok (.dup2, 1) := by decide +kernel
theorem dX14_puts_8 : decode cX14_puts 8 = .ok (.iaload, 1) := by decide +kernel
theorem dX14_puts_9 : decode cX14_puts 9 = .ok (.iconst 1, 1) := by decide +kernel
theorem dX14_puts_10 : decode cX14_puts 10 = .ok (.iload_n 2, 1) := by decide +kernel
theorem dX14_puts_11 : decode cX14_puts 11 = .ok (.bipush 32, 2) := by decide +kernel
theorem dX14_puts_13 : decode cX14_puts 13 = .ok (.irem, 1) := by decide +kernel
theorem dX14_puts_14 : decode cX14_puts 14 = .ok (.ishl, 1) := by decide +kernel
theorem dX14_puts_15 : decode cX14_puts 15 = .ok (.ior, 1) := by decide +kernel
theorem dX14_puts_16 : decode cX14_puts 16 = .ok (.iastore, 1) := by decide +kernel
theorem dX14_puts_17 : decode cX14_puts 17 = .ok (.return_, 1) := by decide +kernel
def s_X14_puts (a1 : Nat) (a2 : Int32) (a3 : Int32) (h : aH) : aO :=
  nz 32 ((ldI .int h (.ref a1) (a2 + (a3 / 32))).bind fun x8 => nz 32 ((stI h (.ref a1) (a2 + (a3 / 32)) (x8 ||| (1 <<< ((a3 - a3 / 32 * 32) &&& 31)))).bind fun h16 => some (.inl none, h16)))
section
variable {p : Program} {l : Launch} {e : Env} {s : State} {m : MethodId} {args : Array Value} {below : List Frame} {meth : Method} {c : Code} {D : va_G} {B0 : Nat} {X : Nat → Nat} {ws0 : va_W} {r : aR} {h' : aH} {mc ms : Nat}
theorem hy_X14_puts : yX14_puts.cls ≠ "java/lang/invoke/MethodHandle" ∧ yX14_puts.cls ≠ "java/lang/invoke/VarHandle" ∧ (parseMethodDescriptor yX14_puts.desc).map (fun d => d.parameters.length) = some 3 := by decide +kernel
theorem T_X14_puts (a1 : Nat) (a2 : Int32) (a3 : Int32) (h : aH) (r : aR) (h' : aH) (hs : s_X14_puts a1 a2 a3 h = some (r, h')) : Mt yX14_puts (Cond.code yX14_puts cX14_puts 3 none :: aTB) 0 0 0 0 [.ref a1, .int a2, .int a3] h r h' := by
  unfold s_X14_puts at hs
  refine Mt_of (k := 0) (by decide) rfl (fun p l e s m args below meth c D B0 X ws0 C => ?_)
  show Ev p l e { frames := 0, cells := 0, slots := 0, locals := 0 } s m args below meth c D B0 X ws0 r h' 0 0 3 0 0 0 [some (.ref a1), some (.int a2), some (.int a3)] [] h
  refine ev_aload_n C (x := .ref a1) rfl trivial dX14_puts_0 ?_
  refine ev_iload_n C rfl dX14_puts_1 ?_
  refine ev_iload_n C rfl dX14_puts_2 ?_
  refine ev_bipush C (v := 32) dX14_puts_3 (by decide) ?_
  obtain ⟨n5, hs⟩ := nz_at hs
  refine ev_idiv C n5 dX14_puts_5 ?_
  refine ev_iadd C dX14_puts_6 ?_
  refine ev_dup2 C rfl rfl dX14_puts_7 ?_
  obtain ⟨x8, e8, hs⟩ := aB hs
  refine ev_iald C e8 dX14_puts_8 ?_
  refine ev_iconst C (v := 1) dX14_puts_9 (by decide) ?_
  refine ev_iload_n C rfl dX14_puts_10 ?_
  refine ev_bipush C (v := 32) dX14_puts_11 (by decide) ?_
  obtain ⟨n13, hs⟩ := nz_at hs
  refine ev_irem C n13 dX14_puts_13 ?_
  refine ev_ishl C dX14_puts_14 ?_
  refine ev_ior C dX14_puts_15 ?_
  obtain ⟨h16, e16, hs⟩ := aB hs
  refine ev_iast C e16 dX14_puts_16 ?_
  cases hs
  exact ev_vret C rfl rfl (Nat.le_refl _) (Nat.le_refl _) rfl dX14_puts_17
end
-- X14_spreadsOut
theorem dX14_spreadsOut_0 : decode cX14_spreadsOut 0 = .ok (.iconst 0, 1) := by decide +kernel
theorem dX14_spreadsOut_1 : decode cX14_spreadsOut 1 = .ok (.istore_n 2, 1) := by decide +kernel
theorem dX14_spreadsOut_2 : decode cX14_spreadsOut 2 = .ok (.iload_n 2, 1) := by decide +kernel
theorem dX14_spreadsOut_3 : decode cX14_spreadsOut 3 = .ok (.ldc 59, 2) := by decide +kernel
theorem dX14_spreadsOut_5 : decode cX14_spreadsOut 5 = .ok (.if_icmp .ge 16, 3) := by decide +kernel
theorem dX14_spreadsOut_8 : decode cX14_spreadsOut 8 = .ok (.aload_n 0, 1) := by decide +kernel
theorem dX14_spreadsOut_9 : decode cX14_spreadsOut 9 = .ok (.getfield 60, 3) := by decide +kernel
theorem dX14_spreadsOut_12 : decode cX14_spreadsOut 12 = .ok (.iload_n 2, 1) := by decide +kernel
theorem dX14_spreadsOut_13 : decode cX14_spreadsOut 13 = .ok (.iconst 0, 1) := by decide +kernel
theorem dX14_spreadsOut_14 : decode cX14_spreadsOut 14 = .ok (.iastore, 1) := by decide +kernel
theorem dX14_spreadsOut_15 : decode cX14_spreadsOut 15 = .ok (.iinc 2 1, 3) := by decide +kernel
theorem dX14_spreadsOut_18 : decode cX14_spreadsOut 18 = .ok (.goto (-16), 3) := by decide +kernel
theorem dX14_spreadsOut_21 : decode cX14_spreadsOut 21 = .ok (.aload_n 0, 1) := by decide +kernel
theorem dX14_spreadsOut_22 : decode cX14_spreadsOut 22 = .ok (.getfield 376, 3) := by decide +kernel
theorem dX14_spreadsOut_25 : decode cX14_spreadsOut 25 = .ok (.getfield 252, 3) := by decide +kernel
theorem dX14_spreadsOut_28 : decode cX14_spreadsOut 28 = .ok (.iconst 2, 1) := by decide +kernel
theorem dX14_spreadsOut_29 : decode cX14_spreadsOut 29 = .ok (.iaload, 1) := by decide +kernel
theorem dX14_spreadsOut_30 : decode cX14_spreadsOut 30 = .ok (.ifCond .le 18, 3) := by decide +kernel
theorem dX14_spreadsOut_33 : decode cX14_spreadsOut 33 = .ok (.aload_n 0, 1) := by decide +kernel
theorem dX14_spreadsOut_34 : decode cX14_spreadsOut 34 = .ok (.getfield 376, 3) := by decide +kernel
theorem dX14_spreadsOut_37 : decode cX14_spreadsOut 37 = .ok (.iconst 5, 1) := by decide +kernel
theorem dX14_spreadsOut_38 : decode cX14_spreadsOut 38 = .ok (.invokevirtual 273, 3) := by decide +kernel
theorem dX14_spreadsOut_41 : decode cX14_spreadsOut 41 = .ok (.iconst 2, 1) := by decide +kernel
theorem dX14_spreadsOut_42 : decode cX14_spreadsOut 42 = .ok (.iload_n 1, 1) := by decide +kernel
theorem dX14_spreadsOut_43 : decode cX14_spreadsOut 43 = .ok (.imul, 1) := by decide +kernel
theorem dX14_spreadsOut_44 : decode cX14_spreadsOut 44 = .ok (.iadd, 1) := by decide +kernel
theorem dX14_spreadsOut_45 : decode cX14_spreadsOut 45 = .ok (.goto 4, 3) := by decide +kernel
theorem dX14_spreadsOut_48 : decode cX14_spreadsOut 48 = .ok (.iconst 1, 1) := by decide +kernel
theorem dX14_spreadsOut_49 : decode cX14_spreadsOut 49 = .ok (.istore_n 2, 1) := by decide +kernel
theorem dX14_spreadsOut_50 : decode cX14_spreadsOut 50 = .ok (.aload_n 0, 1) := by decide +kernel
theorem dX14_spreadsOut_51 : decode cX14_spreadsOut 51 = .ok (.getfield 376, 3) := by decide +kernel
theorem dX14_spreadsOut_54 : decode cX14_spreadsOut 54 = .ok (.getfield 252, 3) := by decide +kernel
theorem dX14_spreadsOut_57 : decode cX14_spreadsOut 57 = .ok (.iconst 2, 1) := by decide +kernel
theorem dX14_spreadsOut_58 : decode cX14_spreadsOut 58 = .ok (.iaload, 1) := by decide +kernel
theorem dX14_spreadsOut_59 : decode cX14_spreadsOut 59 = .ok (.iconst 1, 1) := by decide +kernel
theorem dX14_spreadsOut_60 : decode cX14_spreadsOut 60 = .ok (.if_icmp .le 19, 3) := by decide +kernel
theorem dX14_spreadsOut_63 : decode cX14_spreadsOut 63 = .ok (.aload_n 0, 1) := by decide +kernel
theorem dX14_spreadsOut_64 : decode cX14_spreadsOut 64 = .ok (.getfield 376, 3) := by decide +kernel
theorem dX14_spreadsOut_67 : decode cX14_spreadsOut 67 = .ok (.bipush 6, 2) := by decide +kernel
theorem dX14_spreadsOut_69 : decode cX14_spreadsOut 69 = .ok (.invokevirtual 273, 3) := by decide +kernel
theorem dX14_spreadsOut_72 : decode cX14_spreadsOut 72 = .ok (.iconst 2, 1) := by decide +kernel
theorem dX14_spreadsOut_73 : decode cX14_spreadsOut 73 = .ok (.iload_n 1, 1) := by decide +kernel
theorem dX14_spreadsOut_74 : decode cX14_spreadsOut 74 = .ok (.imul, 1) := by decide +kernel
theorem dX14_spreadsOut_75 : decode cX14_spreadsOut 75 = .ok (.iadd, 1) := by decide +kernel
theorem dX14_spreadsOut_76 : decode cX14_spreadsOut 76 = .ok (.goto 4, 3) := by decide +kernel
theorem dX14_spreadsOut_79 : decode cX14_spreadsOut 79 = .ok (.iconst 1, 1) := by decide +kernel
theorem dX14_spreadsOut_80 : decode cX14_spreadsOut 80 = .ok (.istore_n 3, 1) := by decide +kernel
theorem dX14_spreadsOut_81 : decode cX14_spreadsOut 81 = .ok (.iconst 0, 1) := by decide +kernel
theorem dX14_spreadsOut_82 : decode cX14_spreadsOut 82 = .ok (.istore 4, 2) := by decide +kernel
theorem dX14_spreadsOut_84 : decode cX14_spreadsOut 84 = .ok (.iload 4, 2) := by decide +kernel
theorem dX14_spreadsOut_86 : decode cX14_spreadsOut 86 = .ok (.aload_n 0, 1) := by decide +kernel
theorem dX14_spreadsOut_87 : decode cX14_spreadsOut 87 = .ok (.getfield 379, 3) := by decide +kernel
theorem dX14_spreadsOut_90 : decode cX14_spreadsOut 90 = .ok (.if_icmp .ge 187, 3) := by decide +kernel
theorem dX14_spreadsOut_93 : decode cX14_spreadsOut 93 = .ok (.iconst 0, 1) := by decide +kernel
theorem dX14_spreadsOut_94 : decode cX14_spreadsOut 94 = .ok (.istore 5, 2) := by decide +kernel
theorem dX14_spreadsOut_96 : decode cX14_spreadsOut 96 = .ok (.iload 5, 2) := by decide +kernel
theorem dX14_spreadsOut_98 : decode cX14_spreadsOut 98 = .ok (.aload_n 0, 1) := by decide +kernel
theorem dX14_spreadsOut_99 : decode cX14_spreadsOut 99 = .ok (.getfield 382, 3) := by decide +kernel
theorem dX14_spreadsOut_102 : decode cX14_spreadsOut 102 = .ok (.if_icmp .ge 169, 3) := by decide +kernel
theorem dX14_spreadsOut_105 : decode cX14_spreadsOut 105 = .ok (.iload 4, 2) := by decide +kernel
theorem dX14_spreadsOut_107 : decode cX14_spreadsOut 107 = .ok (.bipush 9, 2) := by decide +kernel
theorem dX14_spreadsOut_109 : decode cX14_spreadsOut 109 = .ok (.imul, 1) := by decide +kernel
theorem dX14_spreadsOut_110 : decode cX14_spreadsOut 110 = .ok (.iload 5, 2) := by decide +kernel
theorem dX14_spreadsOut_112 : decode cX14_spreadsOut 112 = .ok (.iadd, 1) := by decide +kernel
theorem dX14_spreadsOut_113 : decode cX14_spreadsOut 113 = .ok (.istore 6, 2) := by decide +kernel
theorem dX14_spreadsOut_115 : decode cX14_spreadsOut 115 = .ok (.aload_n 0, 1) := by decide +kernel
theorem dX14_spreadsOut_116 : decode cX14_spreadsOut 116 = .ok (.getfield 87, 3) := by decide +kernel
theorem dX14_spreadsOut_119 : decode cX14_spreadsOut 119 = .ok (.iload 6, 2) := by decide +kernel
theorem dX14_spreadsOut_121 : decode cX14_spreadsOut 121 = .ok (.iconst 0, 1) := by decide +kernel
theorem dX14_spreadsOut_122 : decode cX14_spreadsOut 122 = .ok (.bastore, 1) := by decide +kernel
theorem dX14_spreadsOut_123 : decode cX14_spreadsOut 123 = .ok (.iconst 0, 1) := by decide +kernel
theorem dX14_spreadsOut_124 : decode cX14_spreadsOut 124 = .ok (.istore 7, 2) := by decide +kernel
theorem dX14_spreadsOut_126 : decode cX14_spreadsOut 126 = .ok (.iload 7, 2) := by decide +kernel
theorem dX14_spreadsOut_128 : decode cX14_spreadsOut 128 = .ok (.iload_n 2, 1) := by decide +kernel
theorem dX14_spreadsOut_129 : decode cX14_spreadsOut 129 = .ok (.iload_n 3, 1) := by decide +kernel
theorem dX14_spreadsOut_130 : decode cX14_spreadsOut 130 = .ok (.imul, 1) := by decide +kernel
theorem dX14_spreadsOut_131 : decode cX14_spreadsOut 131 = .ok (.aload_n 0, 1) := by decide +kernel
theorem dX14_spreadsOut_132 : decode cX14_spreadsOut 132 = .ok (.getfield 385, 3) := by decide +kernel
theorem dX14_spreadsOut_135 : decode cX14_spreadsOut 135 = .ok (.imul, 1) := by decide +kernel
theorem dX14_spreadsOut_136 : decode cX14_spreadsOut 136 = .ok (.if_icmp .ge 129, 3) := by decide +kernel
theorem dX14_spreadsOut_139 : decode cX14_spreadsOut 139 = .ok (.aload_n 0, 1) := by decide +kernel
theorem dX14_spreadsOut_140 : decode cX14_spreadsOut 140 = .ok (.iload 4, 2) := by decide +kernel
theorem dX14_spreadsOut_142 : decode cX14_spreadsOut 142 = .ok (.invokevirtual 416, 3) := by decide +kernel
theorem dX14_spreadsOut_145 : decode cX14_spreadsOut 145 = .ok (.aload_n 0, 1) := by decide +kernel
theorem dX14_spreadsOut_146 : decode cX14_spreadsOut 146 = .ok (.iload 5, 2) := by decide +kernel
theorem dX14_spreadsOut_148 : decode cX14_spreadsOut 148 = .ok (.invokevirtual 459, 3) := by decide +kernel
theorem dX14_spreadsOut_151 : decode cX14_spreadsOut 151 = .ok (.aload_n 0, 1) := by decide +kernel
theorem dX14_spreadsOut_152 : decode cX14_spreadsOut 152 = .ok (.iconst 3, 1) := by decide +kernel
theorem dX14_spreadsOut_153 : decode cX14_spreadsOut 153 = .ok (.iload 7, 2) := by decide +kernel
theorem dX14_spreadsOut_155 : decode cX14_spreadsOut 155 = .ok (.aload_n 0, 1) := by decide +kernel
theorem dX14_spreadsOut_156 : decode cX14_spreadsOut 156 = .ok (.getfield 385, 3) := by decide +kernel
theorem dX14_spreadsOut_159 : decode cX14_spreadsOut 159 = .ok (.irem, 1) := by decide +kernel
theorem dX14_spreadsOut_160 : decode cX14_spreadsOut 160 = .ok (.invokevirtual 455, 3) := by decide +kernel
theorem dX14_spreadsOut_163 : decode cX14_spreadsOut 163 = .ok (.istore 8, 2) := by decide +kernel
theorem dX14_spreadsOut_165 : decode cX14_spreadsOut 165 = .ok (.aload_n 0, 1) := by decide +kernel
theorem dX14_spreadsOut_166 : decode cX14_spreadsOut 166 = .ok (.getfield 44, 3) := by decide +kernel
theorem dX14_spreadsOut_169 : decode cX14_spreadsOut 169 = .ok (.iconst 5, 1) := by decide +kernel
theorem dX14_spreadsOut_170 : decode cX14_spreadsOut 170 = .ok (.aload_n 0, 1) := by decide +kernel
theorem dX14_spreadsOut_171 : decode cX14_spreadsOut 171 = .ok (.getfield 376, 3) := by decide +kernel
theorem dX14_spreadsOut_174 : decode cX14_spreadsOut 174 = .ok (.getfield 307, 3) := by decide +kernel
theorem dX14_spreadsOut_177 : decode cX14_spreadsOut 177 = .ok (.iconst 5, 1) := by decide +kernel
theorem dX14_spreadsOut_178 : decode cX14_spreadsOut 178 = .ok (.iaload, 1) := by decide +kernel
theorem dX14_spreadsOut_179 : decode cX14_spreadsOut 179 = .ok (.iload_n 1, 1) := by decide +kernel
theorem dX14_spreadsOut_180 : decode cX14_spreadsOut 180 = .ok (.isub, 1) := by decide +kernel
theorem dX14_spreadsOut_181 : decode cX14_spreadsOut 181 = .ok (.iload 7, 2) := by decide +kernel
theorem dX14_spreadsOut_183 : decode cX14_spreadsOut 183 = .ok (.aload_n 0, 1) := by decide +kernel
theorem dX14_spreadsOut_184 : decode cX14_spreadsOut 184 = .ok (.getfield 385, 3) := by decide +kernel
theorem dX14_spreadsOut_187 : decode cX14_spreadsOut 187 = .ok (.idiv, 1) := by decide +kernel
theorem dX14_spreadsOut_188 : decode cX14_spreadsOut 188 = .ok (.iload_n 3, 1) := by decide +kernel
theorem dX14_spreadsOut_189 : decode cX14_spreadsOut 189 = .ok (.idiv, 1) := by decide +kernel
theorem dX14_spreadsOut_190 : decode cX14_spreadsOut 190 = .ok (.iadd, 1) := by decide +kernel
theorem dX14_spreadsOut_191 : decode cX14_spreadsOut 191 = .ok (.iastore, 1) := by decide +kernel
theorem dX14_spreadsOut_192 : decode cX14_spreadsOut 192 = .ok (.aload_n 0, 1) := by decide +kernel
theorem dX14_spreadsOut_193 : decode cX14_spreadsOut 193 = .ok (.getfield 44, 3) := by decide +kernel
theorem dX14_spreadsOut_196 : decode cX14_spreadsOut 196 = .ok (.bipush 6, 2) := by decide +kernel
theorem dX14_spreadsOut_198 : decode cX14_spreadsOut 198 = .ok (.aload_n 0, 1) := by decide +kernel
theorem dX14_spreadsOut_199 : decode cX14_spreadsOut 199 = .ok (.getfield 376, 3) := by decide +kernel
theorem dX14_spreadsOut_202 : decode cX14_spreadsOut 202 = .ok (.getfield 307, 3) := by decide +kernel
theorem dX14_spreadsOut_205 : decode cX14_spreadsOut 205 = .ok (.bipush 6, 2) := by decide +kernel
theorem dX14_spreadsOut_207 : decode cX14_spreadsOut 207 = .ok (.iaload, 1) := by decide +kernel
theorem dX14_spreadsOut_208 : decode cX14_spreadsOut 208 = .ok (.iload_n 1, 1) := by decide +kernel
theorem dX14_spreadsOut_209 : decode cX14_spreadsOut 209 = .ok (.isub, 1) := by decide +kernel
theorem dX14_spreadsOut_210 : decode cX14_spreadsOut 210 = .ok (.iload 7, 2) := by decide +kernel
theorem dX14_spreadsOut_212 : decode cX14_spreadsOut 212 = .ok (.aload_n 0, 1) := by decide +kernel
theorem dX14_spreadsOut_213 : decode cX14_spreadsOut 213 = .ok (.getfield 385, 3) := by decide +kernel
theorem dX14_spreadsOut_216 : decode cX14_spreadsOut 216 = .ok (.idiv, 1) := by decide +kernel
theorem dX14_spreadsOut_217 : decode cX14_spreadsOut 217 = .ok (.iload_n 3, 1) := by decide +kernel
theorem dX14_spreadsOut_218 : decode cX14_spreadsOut 218 = .ok (.irem, 1) := by decide +kernel
theorem dX14_spreadsOut_219 : decode cX14_spreadsOut 219 = .ok (.iadd, 1) := by decide +kernel
theorem dX14_spreadsOut_220 : decode cX14_spreadsOut 220 = .ok (.iastore, 1) := by decide +kernel
theorem dX14_spreadsOut_221 : decode cX14_spreadsOut 221 = .ok (.aload_n 0, 1) := by decide +kernel
theorem dX14_spreadsOut_222 : decode cX14_spreadsOut 222 = .ok (.invokevirtual 465, 3) := by decide +kernel
theorem dX14_spreadsOut_225 : decode cX14_spreadsOut 225 = .ok (.istore 9, 2) := by decide +kernel
theorem dX14_spreadsOut_227 : decode cX14_spreadsOut 227 = .ok (.iload 9, 2) := by decide +kernel
theorem dX14_spreadsOut_229 : decode cX14_spreadsOut 229 = .ok (.bipush (-2), 2) := by decide +kernel
theorem dX14_spreadsOut_231 : decode cX14_spreadsOut 231 = .ok (.if_icmp .ne 14, 3) := by decide +kernel
theorem dX14_spreadsOut_234 : decode cX14_spreadsOut 234 = .ok (.aload_n 0, 1) := by decide +kernel
theorem dX14_spreadsOut_235 : decode cX14_spreadsOut 235 = .ok (.getfield 87, 3) := by decide +kernel
theorem dX14_spreadsOut_238 : decode cX14_spreadsOut 238 = .ok (.iload 6, 2) := by decide +kernel
theorem dX14_spreadsOut_240 : decode cX14_spreadsOut 240 = .ok (.iconst 1, 1) := by decide +kernel
theorem dX14_spreadsOut_241 : decode cX14_spreadsOut 241 = .ok (.bastore, 1) := by decide +kernel
theorem dX14_spreadsOut_242 : decode cX14_spreadsOut 242 = .ok (.goto 17, 3) := by decide +kernel
theorem dX14_spreadsOut_245 : decode cX14_spreadsOut 245 = .ok (.aload_n 0, 1) := by decide +kernel
theorem dX14_spreadsOut_246 : decode cX14_spreadsOut 246 = .ok (.getfield 60, 3) := by decide +kernel
theorem dX14_spreadsOut_249 : decode cX14_spreadsOut 249 = .ok (.bipush 13, 2) := by decide +kernel
theorem dX14_spreadsOut_251 : decode cX14_spreadsOut 251 = .ok (.iload 6, 2) := by decide +kernel
theorem dX14_spreadsOut_253 : decode cX14_spreadsOut 253 = .ok (.imul, 1) := by decide +kernel
theorem dX14_spreadsOut_254 : decode cX14_spreadsOut 254 = .ok (.iload 9, 2) := by decide +kernel
theorem dX14_spreadsOut_256 : decode cX14_spreadsOut 256 = .ok (.invokestatic 492, 3) := by decide +kernel
theorem dX14_spreadsOut_259 : decode cX14_spreadsOut 259 = .ok (.iinc 7 1, 3) := by decide +kernel
theorem dX14_spreadsOut_262 : decode cX14_spreadsOut 262 = .ok (.goto (-136), 3) := by decide +kernel
theorem dX14_spreadsOut_265 : decode cX14_spreadsOut 265 = .ok (.iinc 5 1, 3) := by decide +kernel
theorem dX14_spreadsOut_268 : decode cX14_spreadsOut 268 = .ok (.goto (-172), 3) := by decide +kernel
theorem dX14_spreadsOut_271 : decode cX14_spreadsOut 271 = .ok (.iinc 4 1, 3) := by decide +kernel
theorem dX14_spreadsOut_274 : decode cX14_spreadsOut 274 = .ok (.goto (-190), 3) := by decide +kernel
theorem dX14_spreadsOut_277 : decode cX14_spreadsOut 277 = .ok (.return_, 1) := by decide +kernel
def s_X14_spreadsOut_126_b (k84 : Nat → Int32 → Int32 → Int32 → Int32 → aH → aO) (k96 : Nat → Int32 → Int32 → Int32 → Int32 → Int32 → aH → aO) (k126 : Nat → Int32 → Int32 → Int32 → Int32 → Int32 → Int32 → Int32 → aH → aO) (l0 : Nat) (l1 : Int32) (l2 : Int32) (l3 : Int32) (l4 : Int32) (l5 : Int32) (l6 : Int32) (l7 : Int32) (h : aH) : aO :=
  (gI h (.ref l0) 14 23).bind fun x132 => if ((l2 * l3) * x132) ≤ l7 then (k96 l0 l1 l2 l3 l4 (l5 + 1) h) else (kO h l0 14 (cN (s_X14_lays l0 l4 h) fun h142 => kO h142 l0 14 (cN (s_X14_pushed l0 l5 h142) fun h148 => (gI h148 (.ref l0) 14 23).bind fun x156 => nz x156 (kO h148 l0 14 (cI (s_X14_spreads l0 3 (l7 - l7 / x156 * x156) h148) fun x160 h160 => (gO h160 (.ref l0) 14 29).bind fun x166 => (gO h160 (.ref l0) 14 4).bind fun x171 => (gO h160 (.ref x171) 13 1).bind fun x174 => (ldI .int h160 (.ref x174) 5).bind fun x178 => (gI h160 (.ref l0) 14 23).bind fun x184 => nz x184 (nz l3 ((stI h160 (.ref x166) 5 ((x178 - l1) + ((l7 / x184) / l3))).bind fun h191 => (gO h191 (.ref l0) 14 29).bind fun x193 => (gO h191 (.ref l0) 14 4).bind fun x199 => (gO h191 (.ref x199) 13 1).bind fun x202 => (ldI .int h191 (.ref x202) 6).bind fun x207 => (gI h191 (.ref l0) 14 23).bind fun x213 => nz x213 (nz l3 ((stI h191 (.ref x193) 6 ((x207 - l1) + ((l7 / x213) - (l7 / x213) / l3 * l3))).bind fun h220 => kO h220 l0 14 (cI (s_X14_nextHere l0 h220) fun x222 h222 => if x222 = (-2) then ((gO h222 (.ref l0) 14 43).bind fun x235 => (stN .boolean h222 (.ref x235) l6 1).bind fun h241 => k126 l0 l1 l2 l3 l4 l5 l6 (l7 + 1) h241) else ((gO h222 (.ref l0) 14 34).bind fun x246 => cN (s_X14_puts x246 (13 * l6) x222 h222) fun h256 => k126 l0 l1 l2 l3 l4 l5 l6 (l7 + 1) h256)))))))))))
def s_X14_spreadsOut_126 (k84 : Nat → Int32 → Int32 → Int32 → Int32 → aH → aO) (k96 : Nat → Int32 → Int32 → Int32 → Int32 → Int32 → aH → aO) (n : Nat) : Nat → Int32 → Int32 → Int32 → Int32 → Int32 → Int32 → Int32 → aH → aO := lpF (fun _ _ _ _ _ _ _ _ _ => none) (s_X14_spreadsOut_126_b k84 k96) n
def s_X14_spreadsOut_96_b (k84 : Nat → Int32 → Int32 → Int32 → Int32 → aH → aO) (k96 : Nat → Int32 → Int32 → Int32 → Int32 → Int32 → aH → aO) (l0 : Nat) (l1 : Int32) (l2 : Int32) (l3 : Int32) (l4 : Int32) (l5 : Int32) (h : aH) : aO :=
  (gI h (.ref l0) 14 21).bind fun x99 => if x99 ≤ l5 then (k84 l0 l1 l2 l3 (l4 + 1) h) else ((gO h (.ref l0) 14 43).bind fun x116 => (stN .boolean h (.ref x116) ((l4 * 9) + l5) 0).bind fun h122 => s_X14_spreadsOut_126 k84 k96 FU l0 l1 l2 l3 l4 l5 ((l4 * 9) + l5) 0 h122)
def s_X14_spreadsOut_96 (k84 : Nat → Int32 → Int32 → Int32 → Int32 → aH → aO) (n : Nat) : Nat → Int32 → Int32 → Int32 → Int32 → Int32 → aH → aO := lpF (fun _ _ _ _ _ _ _ => none) (s_X14_spreadsOut_96_b k84) n
def s_X14_spreadsOut_84_b  (k84 : Nat → Int32 → Int32 → Int32 → Int32 → aH → aO) (l0 : Nat) (l1 : Int32) (l2 : Int32) (l3 : Int32) (l4 : Int32) (h : aH) : aO :=
  (gI h (.ref l0) 14 20).bind fun x87 => if x87 ≤ l4 then (some (.inl none, h)) else (s_X14_spreadsOut_96 k84 FU l0 l1 l2 l3 l4 0 h)
def s_X14_spreadsOut_84  (n : Nat) : Nat → Int32 → Int32 → Int32 → Int32 → aH → aO := lpF (fun _ _ _ _ _ _ => none) (s_X14_spreadsOut_84_b ) n
def s_X14_spreadsOut_80  (l0 : Nat) (l1 : Int32) (l2 : Int32) (s0 : Int32) (h : aH) : aO :=
  s_X14_spreadsOut_84 FU l0 l1 l2 s0 0 h
def s_X14_spreadsOut_49  (l0 : Nat) (l1 : Int32) (s0 : Int32) (h : aH) : aO :=
  (gO h (.ref l0) 14 4).bind fun x51 => (gO h (.ref x51) 13 0).bind fun x54 => (ldI .int h (.ref x54) 2).bind fun x58 => if x58 ≤ 1 then (s_X14_spreadsOut_80 l0 l1 s0 1 h) else ((gO h (.ref l0) 14 4).bind fun x64 => kO h x64 13 (cI (s_X13_size x64 6 h) fun x69 h69 => s_X14_spreadsOut_80 l0 l1 s0 (x69 + (2 * l1)) h69))
def s_X14_spreadsOut_2_b  (k2 : Nat → Int32 → Int32 → aH → aO) (l0 : Nat) (l1 : Int32) (l2 : Int32) (h : aH) : aO :=
  if 46800 ≤ l2 then ((gO h (.ref l0) 14 4).bind fun x22 => (gO h (.ref x22) 13 0).bind fun x25 => (ldI .int h (.ref x25) 2).bind fun x29 => if x29 ≤ 0 then (s_X14_spreadsOut_49 l0 l1 1 h) else ((gO h (.ref l0) 14 4).bind fun x34 => kO h x34 13 (cI (s_X13_size x34 5 h) fun x38 h38 => s_X14_spreadsOut_49 l0 l1 (x38 + (2 * l1)) h38))) else ((gO h (.ref l0) 14 34).bind fun x9 => (stI h (.ref x9) l2 0).bind fun h14 => k2 l0 l1 (l2 + 1) h14)
def s_X14_spreadsOut_2  (n : Nat) : Nat → Int32 → Int32 → aH → aO := lpF (fun _ _ _ _ => none) (s_X14_spreadsOut_2_b ) n
def s_X14_spreadsOut (o : Nat) (a1 : Int32) (h : aH) : aO :=
  s_X14_spreadsOut_2 FU o a1 0 h
section
variable {p : Program} {l : Launch} {e : Env} {s : State} {m : MethodId} {args : Array Value} {below : List Frame} {meth : Method} {c : Code} {D : va_G} {B0 : Nat} {X : Nat → Nat} {ws0 : va_W} {r : aR} {h' : aH} {mc ms : Nat}
theorem t_X14_spreadsOut_126_b (C : Cx p l s m args meth c B0 X RX14 "spreadsOut" cX14_spreadsOut 10 none []) {k84 : Nat → Int32 → Int32 → Int32 → Int32 → aH → aO} {k96 : Nat → Int32 → Int32 → Int32 → Int32 → Int32 → aH → aO} (K84 : ∀ (l0 : Nat) (l1 : Int32) (l2 : Int32) (l3 : Int32) (l4 : Int32) (h : aH), k84 l0 l1 l2 l3 l4 h = some (r, h') → Ev p l e { frames := 4, cells := mc, slots := ms, locals := 100 } s m args below meth c D B0 X ws0 r h' mc ms 10 mc ms 84 [some (.ref l0), some (.int l1), some (.int l2), some (.int l3), some (.int l4), none, none, none, none, none] [] h) (K96 : ∀ (l0 : Nat) (l1 : Int32) (l2 : Int32) (l3 : Int32) (l4 : Int32) (l5 : Int32) (h : aH), k96 l0 l1 l2 l3 l4 l5 h = some (r, h') → Ev p l e { frames := 4, cells := mc, slots := ms, locals := 100 } s m args below meth c D B0 X ws0 r h' mc ms 10 mc ms 96 [some (.ref l0), some (.int l1), some (.int l2), some (.int l3), some (.int l4), some (.int l5), none, none, none, none] [] h) {k126 : Nat → Int32 → Int32 → Int32 → Int32 → Int32 → Int32 → Int32 → aH → aO} (K126 : ∀ (l0 : Nat) (l1 : Int32) (l2 : Int32) (l3 : Int32) (l4 : Int32) (l5 : Int32) (l6 : Int32) (l7 : Int32) (h : aH), k126 l0 l1 l2 l3 l4 l5 l6 l7 h = some (r, h') → Ev p l e { frames := 4, cells := mc, slots := ms, locals := 100 } s m args below meth c D B0 X ws0 r h' mc ms 10 mc ms 126 [some (.ref l0), some (.int l1), some (.int l2), some (.int l3), some (.int l4), some (.int l5), some (.int l6), some (.int l7), none, none] [] h) {l0 : Nat} {l1 : Int32} {l2 : Int32} {l3 : Int32} {l4 : Int32} {l5 : Int32} {l6 : Int32} {l7 : Int32} {h : aH} (hs : s_X14_spreadsOut_126_b k84 k96 k126 l0 l1 l2 l3 l4 l5 l6 l7 h = some (r, h')) : Ev p l e { frames := 4, cells := mc, slots := ms, locals := 100 } s m args below meth c D B0 X ws0 r h' mc ms 10 mc ms 126 [some (.ref l0), some (.int l1), some (.int l2), some (.int l3), some (.int l4), some (.int l5), some (.int l6), some (.int l7), none, none] [] h := by
  unfold s_X14_spreadsOut_126_b at hs
  refine ev_iload C rfl dX14_spreadsOut_126 ?_
  refine ev_iload_n C rfl dX14_spreadsOut_128 ?_
  refine ev_iload_n C rfl dX14_spreadsOut_129 ?_
  refine ev_imul C dX14_spreadsOut_130 ?_
  refine ev_aload_n C (x := .ref l0) rfl trivial dX14_spreadsOut_131 ?_
  obtain ⟨x132, e132, hs⟩ := aB hs
  refine ev_get C (ci := 14) (k := 23) rfl wu_14 (by decide) wf_X14_385 (gI_F e132) dX14_spreadsOut_132 ?_
  refine ev_imul C dX14_spreadsOut_135 ?_
  refine ev_icmp_ge C (tgt := 265) (by decide) dX14_spreadsOut_136 (fun q136 => ?_) (fun q136 => ?_)
  · replace hs := (if_pos q136).symm.trans hs
    refine ev_iinc C (i := 5) (n := 1) (x := l5) (v := l5 + 1) rfl (congrArg (fun z => l5 + z) (show Int32.ofInt 1 = 1 by decide)) (by decide) dX14_spreadsOut_265 ?_
    refine ev_goto C (tgt := 96) (by decide) dX14_spreadsOut_268 ?_
    exact Ev.keep [true, true, true, true, true, true, false, false, true, true] (K96 _ _ _ _ _ _ _ hs)
  · replace hs := (if_neg q136).symm.trans hs
    refine ev_aload_n C (x := .ref l0) rfl trivial dX14_spreadsOut_139 ?_
    refine ev_iload C rfl dX14_spreadsOut_140 ?_
    obtain ⟨eo142, hs⟩ := kO_at hs
    obtain ⟨h142, e142, hs⟩ := cN_at hs
    refine ev_callV C (T_X14_lays _ _ _ _ _ e142) (ci := 14) rfl eo142 wc_X14_lays wm_X14_416 wi_X14_lays ws_X14_lays wz_X14 hy_X14_lays ⟨(Nat.le_of_ble_eq_true rfl), (Nat.le_of_ble_eq_true rfl)⟩ ⟨(Nat.le_refl _), (Nat.le_refl _)⟩ (Nat.le_of_ble_eq_true rfl) rfl dX14_spreadsOut_142 ?_
    refine ev_aload_n C (x := .ref l0) rfl trivial dX14_spreadsOut_145 ?_
    refine ev_iload C rfl dX14_spreadsOut_146 ?_
    obtain ⟨eo148, hs⟩ := kO_at hs
    obtain ⟨h148, e148, hs⟩ := cN_at hs
    refine ev_callV C (T_X14_pushed _ _ _ _ _ e148) (ci := 14) rfl eo148 wc_X14_pushed wm_X14_459 wi_X14_pushed ws_X14_pushed wz_X14 hy_X14_pushed ⟨(Nat.le_of_ble_eq_true rfl), (Nat.le_of_ble_eq_true rfl)⟩ ⟨(Nat.le_refl _), (Nat.le_refl _)⟩ (Nat.le_of_ble_eq_true rfl) rfl dX14_spreadsOut_148 ?_
    refine ev_aload_n C (x := .ref l0) rfl trivial dX14_spreadsOut_151 ?_
    refine ev_iconst C (v := 3) dX14_spreadsOut_152 (by decide) ?_
    refine ev_iload C rfl dX14_spreadsOut_153 ?_
    refine ev_aload_n C (x := .ref l0) rfl trivial dX14_spreadsOut_155 ?_
    obtain ⟨x156, e156, hs⟩ := aB hs
    refine ev_get C (ci := 14) (k := 23) rfl wu_14 (by decide) wf_X14_385 (gI_F e156) dX14_spreadsOut_156 ?_
    obtain ⟨n159, hs⟩ := nz_at hs
    refine ev_irem C n159 dX14_spreadsOut_159 ?_
    obtain ⟨eo160, hs⟩ := kO_at hs
    obtain ⟨x160, h160, e160, hs⟩ := cI_at hs
    refine ev_callV C (T_X14_spreads _ _ _ _ _ _ e160) (ci := 14) rfl eo160 wc_X14_spreads wm_X14_455 wi_X14_spreads ws_X14_spreads wz_X14 hy_X14_spreads ⟨(Nat.le_of_ble_eq_true rfl), (Nat.le_of_ble_eq_true rfl)⟩ ⟨(Nat.le_refl _), (Nat.le_refl _)⟩ (Nat.le_of_ble_eq_true rfl) rfl dX14_spreadsOut_160 ?_
    refine ev_istore C (by decide) dX14_spreadsOut_163 ?_
    refine ev_aload_n C (x := .ref l0) rfl trivial dX14_spreadsOut_165 ?_
    obtain ⟨x166, e166, hs⟩ := aB hs
    refine ev_get C (ci := 14) (k := 29) rfl wu_14 (by decide) wf_X14_44 (gO_F e166) dX14_spreadsOut_166 ?_
    refine ev_iconst C (v := 5) dX14_spreadsOut_169 (by decide) ?_
    refine ev_aload_n C (x := .ref l0) rfl trivial dX14_spreadsOut_170 ?_
    obtain ⟨x171, e171, hs⟩ := aB hs
    refine ev_get C (ci := 14) (k := 4) rfl wu_14 (by decide) wf_X14_376 (gO_F e171) dX14_spreadsOut_171 ?_
    obtain ⟨x174, e174, hs⟩ := aB hs
    refine ev_getN C (ci := 13) (k := 1) rfl wu_13 (by decide) wg_X14_307 (gO_F e174) dX14_spreadsOut_174 ?_
    refine ev_iconst C (v := 5) dX14_spreadsOut_177 (by decide) ?_
    obtain ⟨x178, e178, hs⟩ := aB hs
    refine ev_iald C e178 dX14_spreadsOut_178 ?_
    refine ev_iload_n C rfl dX14_spreadsOut_179 ?_
    refine ev_isub C dX14_spreadsOut_180 ?_
    refine ev_iload C rfl dX14_spreadsOut_181 ?_
    refine ev_aload_n C (x := .ref l0) rfl trivial dX14_spreadsOut_183 ?_
    obtain ⟨x184, e184, hs⟩ := aB hs
    refine ev_get C (ci := 14) (k := 23) rfl wu_14 (by decide) wf_X14_385 (gI_F e184) dX14_spreadsOut_184 ?_
    obtain ⟨n187, hs⟩ := nz_at hs
    refine ev_idiv C n187 dX14_spreadsOut_187 ?_
    refine ev_iload_n C rfl dX14_spreadsOut_188 ?_
    obtain ⟨n189, hs⟩ := nz_at hs
    refine ev_idiv C n189 dX14_spreadsOut_189 ?_
    refine ev_iadd C dX14_spreadsOut_190 ?_
    obtain ⟨h191, e191, hs⟩ := aB hs
    refine ev_iast C e191 dX14_spreadsOut_191 ?_
    refine ev_aload_n C (x := .ref l0) rfl trivial dX14_spreadsOut_192 ?_
    obtain ⟨x193, e193, hs⟩ := aB hs
    refine ev_get C (ci := 14) (k := 29) rfl wu_14 (by decide) wf_X14_44 (gO_F e193) dX14_spreadsOut_193 ?_
    refine ev_bipush C (v := 6) dX14_spreadsOut_196 (by decide) ?_
    refine ev_aload_n C (x := .ref l0) rfl trivial dX14_spreadsOut_198 ?_
    obtain ⟨x199, e199, hs⟩ := aB hs
    refine ev_get C (ci := 14) (k := 4) rfl wu_14 (by decide) wf_X14_376 (gO_F e199) dX14_spreadsOut_199 ?_
    obtain ⟨x202, e202, hs⟩ := aB hs
    refine ev_getN C (ci := 13) (k := 1) rfl wu_13 (by decide) wg_X14_307 (gO_F e202) dX14_spreadsOut_202 ?_
    refine ev_bipush C (v := 6) dX14_spreadsOut_205 (by decide) ?_
    obtain ⟨x207, e207, hs⟩ := aB hs
    refine ev_iald C e207 dX14_spreadsOut_207 ?_
    refine ev_iload_n C rfl dX14_spreadsOut_208 ?_
    refine ev_isub C dX14_spreadsOut_209 ?_
    refine ev_iload C rfl dX14_spreadsOut_210 ?_
    refine ev_aload_n C (x := .ref l0) rfl trivial dX14_spreadsOut_212 ?_
    obtain ⟨x213, e213, hs⟩ := aB hs
    refine ev_get C (ci := 14) (k := 23) rfl wu_14 (by decide) wf_X14_385 (gI_F e213) dX14_spreadsOut_213 ?_
    obtain ⟨n216, hs⟩ := nz_at hs
    refine ev_idiv C n216 dX14_spreadsOut_216 ?_
    refine ev_iload_n C rfl dX14_spreadsOut_217 ?_
    obtain ⟨n218, hs⟩ := nz_at hs
    refine ev_irem C n218 dX14_spreadsOut_218 ?_
    refine ev_iadd C dX14_spreadsOut_219 ?_
    obtain ⟨h220, e220, hs⟩ := aB hs
    refine ev_iast C e220 dX14_spreadsOut_220 ?_
    refine ev_aload_n C (x := .ref l0) rfl trivial dX14_spreadsOut_221 ?_
    obtain ⟨eo222, hs⟩ := kO_at hs
    obtain ⟨x222, h222, e222, hs⟩ := cI_at hs
    refine ev_callV C (T_X14_nextHere _ _ _ _ e222) (ci := 14) rfl eo222 wc_X14_nextHere wm_X14_465 wi_X14_nextHere ws_X14_nextHere wz_X14 hy_X14_nextHere ⟨(Nat.le_of_ble_eq_true rfl), (Nat.le_of_ble_eq_true rfl)⟩ ⟨(Nat.le_refl _), (Nat.le_refl _)⟩ (Nat.le_of_ble_eq_true rfl) rfl dX14_spreadsOut_222 ?_
    refine ev_istore C (by decide) dX14_spreadsOut_225 ?_
    refine ev_iload C rfl dX14_spreadsOut_227 ?_
    refine ev_bipush C (v := (-2)) dX14_spreadsOut_229 (by decide) ?_
    refine ev_icmp_ne C (tgt := 245) (by decide) dX14_spreadsOut_231 (fun q231 => ?_) (fun q231 => ?_)
    · replace hs := (if_neg q231).symm.trans hs
      refine ev_aload_n C (x := .ref l0) rfl trivial dX14_spreadsOut_245 ?_
      obtain ⟨x246, e246, hs⟩ := aB hs
      refine ev_get C (ci := 14) (k := 34) rfl wu_14 (by decide) wf_X14_60 (gO_F e246) dX14_spreadsOut_246 ?_
      refine ev_bipush C (v := 13) dX14_spreadsOut_249 (by decide) ?_
      refine ev_iload C rfl dX14_spreadsOut_251 ?_
      refine ev_imul C dX14_spreadsOut_253 ?_
      refine ev_iload C rfl dX14_spreadsOut_254 ?_
      obtain ⟨h256, e256, hs⟩ := cN_at hs
      refine ev_callS C (T_X14_puts _ _ _ _ _ _ e256) wc_X14_puts wm_X14_492 wt_X14_puts wz_X14 hy_X14_puts ⟨(Nat.le_of_ble_eq_true rfl), (Nat.le_of_ble_eq_true rfl)⟩ ⟨(Nat.le_refl _), (Nat.le_refl _)⟩ (Nat.le_of_ble_eq_true rfl) rfl dX14_spreadsOut_256 ?_
      refine ev_iinc C (i := 7) (n := 1) (x := l7) (v := l7 + 1) rfl (congrArg (fun z => l7 + z) (show Int32.ofInt 1 = 1 by decide)) (by decide) dX14_spreadsOut_259 ?_
      refine ev_goto C (tgt := 126) (by decide) dX14_spreadsOut_262 ?_
      exact Ev.keep [true, true, true, true, true, true, true, true, false, false] (K126 _ _ _ _ _ _ _ _ _ hs)
    · replace hs := (if_pos q231).symm.trans hs
      refine ev_aload_n C (x := .ref l0) rfl trivial dX14_spreadsOut_234 ?_
      obtain ⟨x235, e235, hs⟩ := aB hs
      refine ev_get C (ci := 14) (k := 43) rfl wu_14 (by decide) wf_X14_87 (gO_F e235) dX14_spreadsOut_235 ?_
      refine ev_iload C rfl dX14_spreadsOut_238 ?_
      refine ev_iconst C (v := 1) dX14_spreadsOut_240 (by decide) ?_
      obtain ⟨h241, e241, hs⟩ := aB hs
      refine ev_zast C e241 dX14_spreadsOut_241 ?_
      refine ev_goto C (tgt := 259) (by decide) dX14_spreadsOut_242 ?_
      refine ev_iinc C (i := 7) (n := 1) (x := l7) (v := l7 + 1) rfl (congrArg (fun z => l7 + z) (show Int32.ofInt 1 = 1 by decide)) (by decide) dX14_spreadsOut_259 ?_
      refine ev_goto C (tgt := 126) (by decide) dX14_spreadsOut_262 ?_
      exact Ev.keep [true, true, true, true, true, true, true, true, false, false] (K126 _ _ _ _ _ _ _ _ _ hs)
theorem t_X14_spreadsOut_126 (C : Cx p l s m args meth c B0 X RX14 "spreadsOut" cX14_spreadsOut 10 none []) {k84 : Nat → Int32 → Int32 → Int32 → Int32 → aH → aO} {k96 : Nat → Int32 → Int32 → Int32 → Int32 → Int32 → aH → aO} (K84 : ∀ (l0 : Nat) (l1 : Int32) (l2 : Int32) (l3 : Int32) (l4 : Int32) (h : aH), k84 l0 l1 l2 l3 l4 h = some (r, h') → Ev p l e { frames := 4, cells := mc, slots := ms, locals := 100 } s m args below meth c D B0 X ws0 r h' mc ms 10 mc ms 84 [some (.ref l0), some (.int l1), some (.int l2), some (.int l3), some (.int l4), none, none, none, none, none] [] h) (K96 : ∀ (l0 : Nat) (l1 : Int32) (l2 : Int32) (l3 : Int32) (l4 : Int32) (l5 : Int32) (h : aH), k96 l0 l1 l2 l3 l4 l5 h = some (r, h') → Ev p l e { frames := 4, cells := mc, slots := ms, locals := 100 } s m args below meth c D B0 X ws0 r h' mc ms 10 mc ms 96 [some (.ref l0), some (.int l1), some (.int l2), some (.int l3), some (.int l4), some (.int l5), none, none, none, none] [] h) : ∀ (n : Nat) {l0 : Nat} {l1 : Int32} {l2 : Int32} {l3 : Int32} {l4 : Int32} {l5 : Int32} {l6 : Int32} {l7 : Int32} {h : aH} (hs : s_X14_spreadsOut_126 k84 k96 n l0 l1 l2 l3 l4 l5 l6 l7 h = some (r, h')), Ev p l e { frames := 4, cells := mc, slots := ms, locals := 100 } s m args below meth c D B0 X ws0 r h' mc ms 10 mc ms 126 [some (.ref l0), some (.int l1), some (.int l2), some (.int l3), some (.int l4), some (.int l5), some (.int l6), some (.int l7), none, none] [] h
  | 0, _, _, _, _, _, _, _, _, _, hs => nomatch hs
  | n + 1, _, _, _, _, _, _, _, _, _, hs => t_X14_spreadsOut_126_b C K84 K96 (k126 := s_X14_spreadsOut_126 k84 k96 n) (fun _ _ _ _ _ _ _ _ _ hs => t_X14_spreadsOut_126 C K84 K96 n hs) hs
theorem t_X14_spreadsOut_96_b (C : Cx p l s m args meth c B0 X RX14 "spreadsOut" cX14_spreadsOut 10 none []) {k84 : Nat → Int32 → Int32 → Int32 → Int32 → aH → aO} (K84 : ∀ (l0 : Nat) (l1 : Int32) (l2 : Int32) (l3 : Int32) (l4 : Int32) (h : aH), k84 l0 l1 l2 l3 l4 h = some (r, h') → Ev p l e { frames := 4, cells := mc, slots := ms, locals := 100 } s m args below meth c D B0 X ws0 r h' mc ms 10 mc ms 84 [some (.ref l0), some (.int l1), some (.int l2), some (.int l3), some (.int l4), none, none, none, none, none] [] h) {k96 : Nat → Int32 → Int32 → Int32 → Int32 → Int32 → aH → aO} (K96 : ∀ (l0 : Nat) (l1 : Int32) (l2 : Int32) (l3 : Int32) (l4 : Int32) (l5 : Int32) (h : aH), k96 l0 l1 l2 l3 l4 l5 h = some (r, h') → Ev p l e { frames := 4, cells := mc, slots := ms, locals := 100 } s m args below meth c D B0 X ws0 r h' mc ms 10 mc ms 96 [some (.ref l0), some (.int l1), some (.int l2), some (.int l3), some (.int l4), some (.int l5), none, none, none, none] [] h) {l0 : Nat} {l1 : Int32} {l2 : Int32} {l3 : Int32} {l4 : Int32} {l5 : Int32} {h : aH} (hs : s_X14_spreadsOut_96_b k84 k96 l0 l1 l2 l3 l4 l5 h = some (r, h')) : Ev p l e { frames := 4, cells := mc, slots := ms, locals := 100 } s m args below meth c D B0 X ws0 r h' mc ms 10 mc ms 96 [some (.ref l0), some (.int l1), some (.int l2), some (.int l3), some (.int l4), some (.int l5), none, none, none, none] [] h := by
  unfold s_X14_spreadsOut_96_b at hs
  refine ev_iload C rfl dX14_spreadsOut_96 ?_
  refine ev_aload_n C (x := .ref l0) rfl trivial dX14_spreadsOut_98 ?_
  obtain ⟨x99, e99, hs⟩ := aB hs
  refine ev_get C (ci := 14) (k := 21) rfl wu_14 (by decide) wf_X14_382 (gI_F e99) dX14_spreadsOut_99 ?_
  refine ev_icmp_ge C (tgt := 271) (by decide) dX14_spreadsOut_102 (fun q102 => ?_) (fun q102 => ?_)
  · replace hs := (if_pos q102).symm.trans hs
    refine ev_iinc C (i := 4) (n := 1) (x := l4) (v := l4 + 1) rfl (congrArg (fun z => l4 + z) (show Int32.ofInt 1 = 1 by decide)) (by decide) dX14_spreadsOut_271 ?_
    refine ev_goto C (tgt := 84) (by decide) dX14_spreadsOut_274 ?_
    exact Ev.keep [true, true, true, true, true, false, true, true, true, true] (K84 _ _ _ _ _ _ hs)
  · replace hs := (if_neg q102).symm.trans hs
    refine ev_iload C rfl dX14_spreadsOut_105 ?_
    refine ev_bipush C (v := 9) dX14_spreadsOut_107 (by decide) ?_
    refine ev_imul C dX14_spreadsOut_109 ?_
    refine ev_iload C rfl dX14_spreadsOut_110 ?_
    refine ev_iadd C dX14_spreadsOut_112 ?_
    refine ev_istore C (by decide) dX14_spreadsOut_113 ?_
    refine ev_aload_n C (x := .ref l0) rfl trivial dX14_spreadsOut_115 ?_
    obtain ⟨x116, e116, hs⟩ := aB hs
    refine ev_get C (ci := 14) (k := 43) rfl wu_14 (by decide) wf_X14_87 (gO_F e116) dX14_spreadsOut_116 ?_
    refine ev_iload C rfl dX14_spreadsOut_119 ?_
    refine ev_iconst C (v := 0) dX14_spreadsOut_121 (by decide) ?_
    obtain ⟨h122, e122, hs⟩ := aB hs
    refine ev_zast C e122 dX14_spreadsOut_122 ?_
    refine ev_iconst C (v := 0) dX14_spreadsOut_123 (by decide) ?_
    refine ev_istore C (by decide) dX14_spreadsOut_124 ?_
    exact (t_X14_spreadsOut_126 C K84 K96 FU hs)
theorem t_X14_spreadsOut_96 (C : Cx p l s m args meth c B0 X RX14 "spreadsOut" cX14_spreadsOut 10 none []) {k84 : Nat → Int32 → Int32 → Int32 → Int32 → aH → aO} (K84 : ∀ (l0 : Nat) (l1 : Int32) (l2 : Int32) (l3 : Int32) (l4 : Int32) (h : aH), k84 l0 l1 l2 l3 l4 h = some (r, h') → Ev p l e { frames := 4, cells := mc, slots := ms, locals := 100 } s m args below meth c D B0 X ws0 r h' mc ms 10 mc ms 84 [some (.ref l0), some (.int l1), some (.int l2), some (.int l3), some (.int l4), none, none, none, none, none] [] h) : ∀ (n : Nat) {l0 : Nat} {l1 : Int32} {l2 : Int32} {l3 : Int32} {l4 : Int32} {l5 : Int32} {h : aH} (hs : s_X14_spreadsOut_96 k84 n l0 l1 l2 l3 l4 l5 h = some (r, h')), Ev p l e { frames := 4, cells := mc, slots := ms, locals := 100 } s m args below meth c D B0 X ws0 r h' mc ms 10 mc ms 96 [some (.ref l0), some (.int l1), some (.int l2), some (.int l3), some (.int l4), some (.int l5), none, none, none, none] [] h
  | 0, _, _, _, _, _, _, _, hs => nomatch hs
  | n + 1, _, _, _, _, _, _, _, hs => t_X14_spreadsOut_96_b C K84 (k96 := s_X14_spreadsOut_96 k84 n) (fun _ _ _ _ _ _ _ hs => t_X14_spreadsOut_96 C K84 n hs) hs
theorem t_X14_spreadsOut_84_b (C : Cx p l s m args meth c B0 X RX14 "spreadsOut" cX14_spreadsOut 10 none [])   {k84 : Nat → Int32 → Int32 → Int32 → Int32 → aH → aO} (K84 : ∀ (l0 : Nat) (l1 : Int32) (l2 : Int32) (l3 : Int32) (l4 : Int32) (h : aH), k84 l0 l1 l2 l3 l4 h = some (r, h') → Ev p l e { frames := 4, cells := mc, slots := ms, locals := 100 } s m args below meth c D B0 X ws0 r h' mc ms 10 mc ms 84 [some (.ref l0), some (.int l1), some (.int l2), some (.int l3), some (.int l4), none, none, none, none, none] [] h) {l0 : Nat} {l1 : Int32} {l2 : Int32} {l3 : Int32} {l4 : Int32} {h : aH} (hs : s_X14_spreadsOut_84_b  k84 l0 l1 l2 l3 l4 h = some (r, h')) : Ev p l e { frames := 4, cells := mc, slots := ms, locals := 100 } s m args below meth c D B0 X ws0 r h' mc ms 10 mc ms 84 [some (.ref l0), some (.int l1), some (.int l2), some (.int l3), some (.int l4), none, none, none, none, none] [] h := by
  unfold s_X14_spreadsOut_84_b at hs
  refine ev_iload C rfl dX14_spreadsOut_84 ?_
  refine ev_aload_n C (x := .ref l0) rfl trivial dX14_spreadsOut_86 ?_
  obtain ⟨x87, e87, hs⟩ := aB hs
  refine ev_get C (ci := 14) (k := 20) rfl wu_14 (by decide) wf_X14_379 (gI_F e87) dX14_spreadsOut_87 ?_
  refine ev_icmp_ge C (tgt := 277) (by decide) dX14_spreadsOut_90 (fun q90 => ?_) (fun q90 => ?_)
  · replace hs := (if_pos q90).symm.trans hs
    cases hs
    exact ev_vret C rfl rfl (Nat.le_refl _) (Nat.le_refl _) rfl dX14_spreadsOut_277
  · replace hs := (if_neg q90).symm.trans hs
    refine ev_iconst C (v := 0) dX14_spreadsOut_93 (by decide) ?_
    refine ev_istore C (by decide) dX14_spreadsOut_94 ?_
    exact (t_X14_spreadsOut_96 C K84 FU hs)
theorem t_X14_spreadsOut_84 (C : Cx p l s m args meth c B0 X RX14 "spreadsOut" cX14_spreadsOut 10 none [])   : ∀ (n : Nat) {l0 : Nat} {l1 : Int32} {l2 : Int32} {l3 : Int32} {l4 : Int32} {h : aH} (hs : s_X14_spreadsOut_84  n l0 l1 l2 l3 l4 h = some (r, h')), Ev p l e { frames := 4, cells := mc, slots := ms, locals := 100 } s m args below meth c D B0 X ws0 r h' mc ms 10 mc ms 84 [some (.ref l0), some (.int l1), some (.int l2), some (.int l3), some (.int l4), none, none, none, none, none] [] h
  | 0, _, _, _, _, _, _, hs => nomatch hs
  | n + 1, _, _, _, _, _, _, hs => t_X14_spreadsOut_84_b C  (k84 := s_X14_spreadsOut_84  n) (fun _ _ _ _ _ _ hs => t_X14_spreadsOut_84 C  n hs) hs
theorem t_X14_spreadsOut_80 (C : Cx p l s m args meth c B0 X RX14 "spreadsOut" cX14_spreadsOut 10 none [])   {l0 : Nat} {l1 : Int32} {l2 : Int32} {s0 : Int32} {h : aH} (hs : s_X14_spreadsOut_80  l0 l1 l2 s0 h = some (r, h')) : Ev p l e { frames := 4, cells := mc, slots := ms, locals := 100 } s m args below meth c D B0 X ws0 r h' mc ms 10 mc ms 80 [some (.ref l0), some (.int l1), some (.int l2), none, none, none, none, none, none, none] [.int s0] h := by
  unfold s_X14_spreadsOut_80 at hs
  refine ev_istore_n C (by decide) dX14_spreadsOut_80 ?_
  refine ev_iconst C (v := 0) dX14_spreadsOut_81 (by decide) ?_
  refine ev_istore C (by decide) dX14_spreadsOut_82 ?_
  exact (t_X14_spreadsOut_84 C  FU hs)
theorem t_X14_spreadsOut_49 (C : Cx p l s m args meth c B0 X RX14 "spreadsOut" cX14_spreadsOut 10 none [])   {l0 : Nat} {l1 : Int32} {s0 : Int32} {h : aH} (hs : s_X14_spreadsOut_49  l0 l1 s0 h = some (r, h')) : Ev p l e { frames := 4, cells := mc, slots := ms, locals := 100 } s m args below meth c D B0 X ws0 r h' mc ms 10 mc ms 49 [some (.ref l0), some (.int l1), none, none, none, none, none, none, none, none] [.int s0] h := by
  unfold s_X14_spreadsOut_49 at hs
  refine ev_istore_n C (by decide) dX14_spreadsOut_49 ?_
  refine ev_aload_n C (x := .ref l0) rfl trivial dX14_spreadsOut_50 ?_
  obtain ⟨x51, e51, hs⟩ := aB hs
  refine ev_get C (ci := 14) (k := 4) rfl wu_14 (by decide) wf_X14_376 (gO_F e51) dX14_spreadsOut_51 ?_
  obtain ⟨x54, e54, hs⟩ := aB hs
  refine ev_getN C (ci := 13) (k := 0) rfl wu_13 (by decide) wg_X14_252 (gO_F e54) dX14_spreadsOut_54 ?_
  refine ev_iconst C (v := 2) dX14_spreadsOut_57 (by decide) ?_
  obtain ⟨x58, e58, hs⟩ := aB hs
  refine ev_iald C e58 dX14_spreadsOut_58 ?_
  refine ev_iconst C (v := 1) dX14_spreadsOut_59 (by decide) ?_
  refine ev_icmp_le C (tgt := 79) (by decide) dX14_spreadsOut_60 (fun q60 => ?_) (fun q60 => ?_)
  · replace hs := (if_pos q60).symm.trans hs
    refine ev_iconst C (v := 1) dX14_spreadsOut_79 (by decide) ?_
    exact (t_X14_spreadsOut_80 C  hs)
  · replace hs := (if_neg q60).symm.trans hs
    refine ev_aload_n C (x := .ref l0) rfl trivial dX14_spreadsOut_63 ?_
    obtain ⟨x64, e64, hs⟩ := aB hs
    refine ev_get C (ci := 14) (k := 4) rfl wu_14 (by decide) wf_X14_376 (gO_F e64) dX14_spreadsOut_64 ?_
    refine ev_bipush C (v := 6) dX14_spreadsOut_67 (by decide) ?_
    obtain ⟨eo69, hs⟩ := kO_at hs
    obtain ⟨x69, h69, e69, hs⟩ := cI_at hs
    refine ev_callV C (T_X13_size _ _ _ _ _ e69) (ci := 13) rfl eo69 wc_X13_size wm_X14_273 wi_X13_size ws_X13_size wz_X13 hy_X13_size ⟨(Nat.le_of_ble_eq_true rfl), (Nat.le_of_ble_eq_true rfl)⟩ ⟨(Nat.le_refl _), (Nat.le_refl _)⟩ (Nat.le_of_ble_eq_true rfl) rfl dX14_spreadsOut_69 ?_
    refine ev_iconst C (v := 2) dX14_spreadsOut_72 (by decide) ?_
    refine ev_iload_n C rfl dX14_spreadsOut_73 ?_
    refine ev_imul C dX14_spreadsOut_74 ?_
    refine ev_iadd C dX14_spreadsOut_75 ?_
    refine ev_goto C (tgt := 80) (by decide) dX14_spreadsOut_76 ?_
    exact (t_X14_spreadsOut_80 C  hs)
theorem t_X14_spreadsOut_2_b (C : Cx p l s m args meth c B0 X RX14 "spreadsOut" cX14_spreadsOut 10 none [])   {k2 : Nat → Int32 → Int32 → aH → aO} (K2 : ∀ (l0 : Nat) (l1 : Int32) (l2 : Int32) (h : aH), k2 l0 l1 l2 h = some (r, h') → Ev p l e { frames := 4, cells := mc, slots := ms, locals := 100 } s m args below meth c D B0 X ws0 r h' mc ms 10 mc ms 2 [some (.ref l0), some (.int l1), some (.int l2), none, none, none, none, none, none, none] [] h) {l0 : Nat} {l1 : Int32} {l2 : Int32} {h : aH} (hs : s_X14_spreadsOut_2_b  k2 l0 l1 l2 h = some (r, h')) : Ev p l e { frames := 4, cells := mc, slots := ms, locals := 100 } s m args below meth c D B0 X ws0 r h' mc ms 10 mc ms 2 [some (.ref l0), some (.int l1), some (.int l2), none, none, none, none, none, none, none] [] h := by
  unfold s_X14_spreadsOut_2_b at hs
  refine ev_iload_n C rfl dX14_spreadsOut_2 ?_
  refine ev_ldc C wv_X14_59 dX14_spreadsOut_3 ?_
  refine ev_icmp_ge C (tgt := 21) (by decide) dX14_spreadsOut_5 (fun q5 => ?_) (fun q5 => ?_)
  · replace hs := (if_pos q5).symm.trans hs
    refine ev_aload_n C (x := .ref l0) rfl trivial dX14_spreadsOut_21 ?_
    obtain ⟨x22, e22, hs⟩ := aB hs
    refine ev_get C (ci := 14) (k := 4) rfl wu_14 (by decide) wf_X14_376 (gO_F e22) dX14_spreadsOut_22 ?_
    obtain ⟨x25, e25, hs⟩ := aB hs
    refine ev_getN C (ci := 13) (k := 0) rfl wu_13 (by decide) wg_X14_252 (gO_F e25) dX14_spreadsOut_25 ?_
    refine ev_iconst C (v := 2) dX14_spreadsOut_28 (by decide) ?_
    obtain ⟨x29, e29, hs⟩ := aB hs
    refine ev_iald C e29 dX14_spreadsOut_29 ?_
    refine ev_if_le C (tgt := 48) (by decide) dX14_spreadsOut_30 (fun q30 => ?_) (fun q30 => ?_)
    · replace hs := (if_pos q30).symm.trans hs
      refine ev_iconst C (v := 1) dX14_spreadsOut_48 (by decide) ?_
      exact Ev.keep [true, true, false, true, true, true, true, true, true, true] (t_X14_spreadsOut_49 C  hs)
    · replace hs := (if_neg q30).symm.trans hs
      refine ev_aload_n C (x := .ref l0) rfl trivial dX14_spreadsOut_33 ?_
      obtain ⟨x34, e34, hs⟩ := aB hs
      refine ev_get C (ci := 14) (k := 4) rfl wu_14 (by decide) wf_X14_376 (gO_F e34) dX14_spreadsOut_34 ?_
      refine ev_iconst C (v := 5) dX14_spreadsOut_37 (by decide) ?_
      obtain ⟨eo38, hs⟩ := kO_at hs
      obtain ⟨x38, h38, e38, hs⟩ := cI_at hs
      refine ev_callV C (T_X13_size _ _ _ _ _ e38) (ci := 13) rfl eo38 wc_X13_size wm_X14_273 wi_X13_size ws_X13_size wz_X13 hy_X13_size ⟨(Nat.le_of_ble_eq_true rfl), (Nat.le_of_ble_eq_true rfl)⟩ ⟨(Nat.le_refl _), (Nat.le_refl _)⟩ (Nat.le_of_ble_eq_true rfl) rfl dX14_spreadsOut_38 ?_
      refine ev_iconst C (v := 2) dX14_spreadsOut_41 (by decide) ?_
      refine ev_iload_n C rfl dX14_spreadsOut_42 ?_
      refine ev_imul C dX14_spreadsOut_43 ?_
      refine ev_iadd C dX14_spreadsOut_44 ?_
      refine ev_goto C (tgt := 49) (by decide) dX14_spreadsOut_45 ?_
      exact Ev.keep [true, true, false, true, true, true, true, true, true, true] (t_X14_spreadsOut_49 C  hs)
  · replace hs := (if_neg q5).symm.trans hs
    refine ev_aload_n C (x := .ref l0) rfl trivial dX14_spreadsOut_8 ?_
    obtain ⟨x9, e9, hs⟩ := aB hs
    refine ev_get C (ci := 14) (k := 34) rfl wu_14 (by decide) wf_X14_60 (gO_F e9) dX14_spreadsOut_9 ?_
    refine ev_iload_n C rfl dX14_spreadsOut_12 ?_
    refine ev_iconst C (v := 0) dX14_spreadsOut_13 (by decide) ?_
    obtain ⟨h14, e14, hs⟩ := aB hs
    refine ev_iast C e14 dX14_spreadsOut_14 ?_
    refine ev_iinc C (i := 2) (n := 1) (x := l2) (v := l2 + 1) rfl (congrArg (fun z => l2 + z) (show Int32.ofInt 1 = 1 by decide)) (by decide) dX14_spreadsOut_15 ?_
    refine ev_goto C (tgt := 2) (by decide) dX14_spreadsOut_18 ?_
    exact (K2 _ _ _ _ hs)
theorem t_X14_spreadsOut_2 (C : Cx p l s m args meth c B0 X RX14 "spreadsOut" cX14_spreadsOut 10 none [])   : ∀ (n : Nat) {l0 : Nat} {l1 : Int32} {l2 : Int32} {h : aH} (hs : s_X14_spreadsOut_2  n l0 l1 l2 h = some (r, h')), Ev p l e { frames := 4, cells := mc, slots := ms, locals := 100 } s m args below meth c D B0 X ws0 r h' mc ms 10 mc ms 2 [some (.ref l0), some (.int l1), some (.int l2), none, none, none, none, none, none, none] [] h
  | 0, _, _, _, _, hs => nomatch hs
  | n + 1, _, _, _, _, hs => t_X14_spreadsOut_2_b C  (k2 := s_X14_spreadsOut_2  n) (fun _ _ _ _ hs => t_X14_spreadsOut_2 C  n hs) hs
theorem hy_X14_spreadsOut : yX14_spreadsOut.cls ≠ "java/lang/invoke/MethodHandle" ∧ yX14_spreadsOut.cls ≠ "java/lang/invoke/VarHandle" ∧ (parseMethodDescriptor yX14_spreadsOut.desc).map (fun d => d.parameters.length) = some 1 := by decide +kernel
theorem T_X14_spreadsOut (o : Nat) (a1 : Int32) (h : aH) (r : aR) (h' : aH) (hs : s_X14_spreadsOut o a1 h = some (r, h')) : Mt yX14_spreadsOut (Cond.code yX14_spreadsOut cX14_spreadsOut 10 none :: aTB) 4 100 0 0 [.ref o, .int a1] h r h' := by
  unfold s_X14_spreadsOut at hs
  refine Mt_of (k := 8) (by decide) rfl (fun p l e s m args below meth c D B0 X ws0 C => ?_)
  show Ev p l e { frames := 4, cells := 0, slots := 0, locals := 100 } s m args below meth c D B0 X ws0 r h' 0 0 10 0 0 0 [some (.ref o), some (.int a1), none, none, none, none, none, none, none, none] [] h
  refine ev_iconst C (v := 0) dX14_spreadsOut_0 (by decide) ?_
  refine ev_istore_n C (by decide) dX14_spreadsOut_1 ?_
  exact (t_X14_spreadsOut_2 C  FU hs)
end
-- X14_leadsInto
theorem dX14_leadsInto_0 : decode cX14_leadsInto 0 = .ok (.iload_n 1, 1) := by decide +kernel
theorem dX14_leadsInto_1 : decode cX14_leadsInto 1 = .ok (.bipush 9, 2) := by decide +kernel
theorem dX14_leadsInto_3 : decode cX14_leadsInto 3 = .ok (.imul, 1) := by decide +kernel
theorem dX14_leadsInto_4 : decode cX14_leadsInto 4 = .ok (.iload_n 2, 1) := by decide +kernel
theorem dX14_leadsInto_5 : decode cX14_leadsInto 5 = .ok (.iadd, 1) := by decide +kernel
theorem dX14_leadsInto_6 : decode cX14_leadsInto 6 = .ok (.istore 4, 2) := by decide +kernel
theorem dX14_leadsInto_8 : decode cX14_leadsInto 8 = .ok (.aload_n 0, 1) := by decide +kernel
theorem dX14_leadsInto_9 : decode cX14_leadsInto 9 = .ok (.getfield 87, 3) := by decide +kernel
theorem dX14_leadsInto_12 : decode cX14_leadsInto 12 = .ok (.iload 4, 2) := by decide +kernel
theorem dX14_leadsInto_14 : decode cX14_leadsInto 14 = .ok (.baload, 1) := by decide +kernel
theorem dX14_leadsInto_15 : decode cX14_leadsInto 15 = .ok (.ifCond .ne 7, 3) := by decide +kernel
theorem dX14_leadsInto_18 : decode cX14_leadsInto 18 = .ok (.iconst 1, 1) := by decide +kernel
theorem dX14_leadsInto_19 : decode cX14_leadsInto 19 = .ok (.goto 4, 3) := by decide +kernel
theorem dX14_leadsInto_22 : decode cX14_leadsInto 22 = .ok (.iconst 0, 1) := by decide +kernel
theorem dX14_leadsInto_23 : decode cX14_leadsInto 23 = .ok (.istore 5, 2) := by decide +kernel
theorem dX14_leadsInto_25 : decode cX14_leadsInto 25 = .ok (.iconst 0, 1) := by decide +kernel
theorem dX14_leadsInto_26 : decode cX14_leadsInto 26 = .ok (.istore 6, 2) := by decide +kernel
theorem dX14_leadsInto_28 : decode cX14_leadsInto 28 = .ok (.iload 6, 2) := by decide +kernel
theorem dX14_leadsInto_30 : decode cX14_leadsInto 30 = .ok (.bipush 13, 2) := by decide +kernel
theorem dX14_leadsInto_32 : decode cX14_leadsInto 32 = .ok (.if_icmp .ge 44, 3) := by decide +kernel
theorem dX14_leadsInto_35 : decode cX14_leadsInto 35 = .ok (.iload 5, 2) := by decide +kernel
theorem dX14_leadsInto_37 : decode cX14_leadsInto 37 = .ok (.ifCond .eq 30, 3) := by decide +kernel
theorem dX14_leadsInto_40 : decode cX14_leadsInto 40 = .ok (.aload_n 0, 1) := by decide +kernel
theorem dX14_leadsInto_41 : decode cX14_leadsInto 41 = .ok (.getfield 60, 3) := by decide +kernel
theorem dX14_leadsInto_44 : decode cX14_leadsInto 44 = .ok (.bipush 13, 2) := by decide +kernel
theorem dX14_leadsInto_46 : decode cX14_leadsInto 46 = .ok (.iload 4, 2) := by decide +kernel
theorem dX14_leadsInto_48 : decode cX14_leadsInto 48 = .ok (.imul, 1) := by decide +kernel
theorem dX14_leadsInto_49 : decode cX14_leadsInto 49 = .ok (.iload 6, 2) := by decide +kernel
theorem dX14_leadsInto_51 : decode cX14_leadsInto 51 = .ok (.iadd, 1) := by decide +kernel
theorem dX14_leadsInto_52 : decode cX14_leadsInto 52 = .ok (.iaload, 1) := by decide +kernel
theorem dX14_leadsInto_53 : decode cX14_leadsInto 53 = .ok (.aload_n 3, 1) := by decide +kernel
theorem dX14_leadsInto_54 : decode cX14_leadsInto 54 = .ok (.iload 6, 2) := by decide +kernel
theorem dX14_leadsInto_56 : decode cX14_leadsInto 56 = .ok (.iaload, 1) := by decide +kernel
theorem dX14_leadsInto_57 : decode cX14_leadsInto 57 = .ok (.iconst (-1), 1) := by decide +kernel
theorem dX14_leadsInto_58 : decode cX14_leadsInto 58 = .ok (.ixor, 1) := by decide +kernel
theorem dX14_leadsInto_59 : decode cX14_leadsInto 59 = .ok (.iand, 1) := by decide +kernel
theorem dX14_leadsInto_60 : decode cX14_leadsInto 60 = .ok (.ifCond .ne 7, 3) := by decide +kernel
theorem dX14_leadsInto_63 : decode cX14_leadsInto 63 = .ok (.iconst 1, 1) := by decide +kernel
theorem dX14_leadsInto_64 : decode cX14_leadsInto 64 = .ok (.goto 4, 3) := by decide +kernel
theorem dX14_leadsInto_67 : decode cX14_leadsInto 67 = .ok (.iconst 0, 1) := by decide +kernel
theorem dX14_leadsInto_68 : decode cX14_leadsInto 68 = .ok (.istore 5, 2) := by decide +kernel
theorem dX14_leadsInto_70 : decode cX14_leadsInto 70 = .ok (.iinc 6 1, 3) := by decide +kernel
theorem dX14_leadsInto_73 : decode cX14_leadsInto 73 = .ok (.goto (-45), 3) := by decide +kernel
theorem dX14_leadsInto_76 : decode cX14_leadsInto 76 = .ok (.iload 5, 2) := by decide +kernel
theorem dX14_leadsInto_78 : decode cX14_leadsInto 78 = .ok (.ireturn, 1) := by decide +kernel
def s_X14_leadsInto_68 (k28 : Nat → Nat → Int32 → Int32 → Int32 → aH → aO) (l0 : Nat) (l3 : Nat) (l4 : Int32) (l6 : Int32) (s0 : Int32) (h : aH) : aO :=
  k28 l0 l3 l4 s0 (l6 + 1) h
def s_X14_leadsInto_67 (k28 : Nat → Nat → Int32 → Int32 → Int32 → aH → aO) (l0 : Nat) (l3 : Nat) (l4 : Int32) (l6 : Int32) (h : aH) : aO :=
  s_X14_leadsInto_68 k28 l0 l3 l4 l6 0 h
def s_X14_leadsInto_28_b  (k28 : Nat → Nat → Int32 → Int32 → Int32 → aH → aO) (l0 : Nat) (l3 : Nat) (l4 : Int32) (l5 : Int32) (l6 : Int32) (h : aH) : aO :=
  if 13 ≤ l6 then (rtZ l5 h) else (if l5 = 0 then (s_X14_leadsInto_67 k28 l0 l3 l4 l6 h) else ((gO h (.ref l0) 14 34).bind fun x41 => (ldI .int h (.ref x41) ((13 * l4) + l6)).bind fun x52 => (ldI .int h (.ref l3) l6).bind fun x56 => if (x52 &&& (x56 ^^^ (-1))) = 0 then (s_X14_leadsInto_68 k28 l0 l3 l4 l6 1 h) else (s_X14_leadsInto_67 k28 l0 l3 l4 l6 h)))
def s_X14_leadsInto_28  (n : Nat) : Nat → Nat → Int32 → Int32 → Int32 → aH → aO := lpF (fun _ _ _ _ _ _ => none) (s_X14_leadsInto_28_b ) n
def s_X14_leadsInto_23  (l0 : Nat) (l3 : Nat) (l4 : Int32) (s0 : Int32) (h : aH) : aO :=
  s_X14_leadsInto_28 FU l0 l3 l4 s0 0 h
def s_X14_leadsInto (o : Nat) (a1 : Int32) (a2 : Int32) (a3 : Nat) (h : aH) : aO :=
  (gO h (.ref o) 14 43).bind fun x9 => (ldI .boolean h (.ref x9) ((a1 * 9) + a2)).bind fun x14 => if x14 = 0 then (s_X14_leadsInto_23 o a3 ((a1 * 9) + a2) 1 h) else (s_X14_leadsInto_23 o a3 ((a1 * 9) + a2) 0 h)
section
variable {p : Program} {l : Launch} {e : Env} {s : State} {m : MethodId} {args : Array Value} {below : List Frame} {meth : Method} {c : Code} {D : va_G} {B0 : Nat} {X : Nat → Nat} {ws0 : va_W} {r : aR} {h' : aH} {mc ms : Nat}
theorem t_X14_leadsInto_68 (C : Cx p l s m args meth c B0 X RX14 "leadsInto" cX14_leadsInto 7 (some .boolean) []) {k28 : Nat → Nat → Int32 → Int32 → Int32 → aH → aO} (K28 : ∀ (l0 : Nat) (l3 : Nat) (l4 : Int32) (l5 : Int32) (l6 : Int32) (h : aH), k28 l0 l3 l4 l5 l6 h = some (r, h') → Ev p l e { frames := 0, cells := mc, slots := ms, locals := 0 } s m args below meth c D B0 X ws0 r h' mc ms 7 mc ms 28 [some (.ref l0), none, none, some (.ref l3), some (.int l4), some (.int l5), some (.int l6)] [] h) {l0 : Nat} {l3 : Nat} {l4 : Int32} {l6 : Int32} {s0 : Int32} {h : aH} (hs : s_X14_leadsInto_68 k28 l0 l3 l4 l6 s0 h = some (r, h')) : Ev p l e { frames := 0, cells := mc, slots := ms, locals := 0 } s m args below meth c D B0 X ws0 r h' mc ms 7 mc ms 68 [some (.ref l0), none, none, some (.ref l3), some (.int l4), none, some (.int l6)] [.int s0] h := by
  unfold s_X14_leadsInto_68 at hs
  refine ev_istore C (by decide) dX14_leadsInto_68 ?_
  refine ev_iinc C (i := 6) (n := 1) (x := l6) (v := l6 + 1) rfl (congrArg (fun z => l6 + z) (show Int32.ofInt 1 = 1 by decide)) (by decide) dX14_leadsInto_70 ?_
  refine ev_goto C (tgt := 28) (by decide) dX14_leadsInto_73 ?_
  exact (K28 _ _ _ _ _ _ hs)
theorem t_X14_leadsInto_67 (C : Cx p l s m args meth c B0 X RX14 "leadsInto" cX14_leadsInto 7 (some .boolean) []) {k28 : Nat → Nat → Int32 → Int32 → Int32 → aH → aO} (K28 : ∀ (l0 : Nat) (l3 : Nat) (l4 : Int32) (l5 : Int32) (l6 : Int32) (h : aH), k28 l0 l3 l4 l5 l6 h = some (r, h') → Ev p l e { frames := 0, cells := mc, slots := ms, locals := 0 } s m args below meth c D B0 X ws0 r h' mc ms 7 mc ms 28 [some (.ref l0), none, none, some (.ref l3), some (.int l4), some (.int l5), some (.int l6)] [] h) {l0 : Nat} {l3 : Nat} {l4 : Int32} {l6 : Int32} {h : aH} (hs : s_X14_leadsInto_67 k28 l0 l3 l4 l6 h = some (r, h')) : Ev p l e { frames := 0, cells := mc, slots := ms, locals := 0 } s m args below meth c D B0 X ws0 r h' mc ms 7 mc ms 67 [some (.ref l0), none, none, some (.ref l3), some (.int l4), none, some (.int l6)] [] h := by
  unfold s_X14_leadsInto_67 at hs
  refine ev_iconst C (v := 0) dX14_leadsInto_67 (by decide) ?_
  exact (t_X14_leadsInto_68 C K28 hs)
theorem t_X14_leadsInto_28_b (C : Cx p l s m args meth c B0 X RX14 "leadsInto" cX14_leadsInto 7 (some .boolean) [])   {k28 : Nat → Nat → Int32 → Int32 → Int32 → aH → aO} (K28 : ∀ (l0 : Nat) (l3 : Nat) (l4 : Int32) (l5 : Int32) (l6 : Int32) (h : aH), k28 l0 l3 l4 l5 l6 h = some (r, h') → Ev p l e { frames := 0, cells := mc, slots := ms, locals := 0 } s m args below meth c D B0 X ws0 r h' mc ms 7 mc ms 28 [some (.ref l0), none, none, some (.ref l3), some (.int l4), some (.int l5), some (.int l6)] [] h) {l0 : Nat} {l3 : Nat} {l4 : Int32} {l5 : Int32} {l6 : Int32} {h : aH} (hs : s_X14_leadsInto_28_b  k28 l0 l3 l4 l5 l6 h = some (r, h')) : Ev p l e { frames := 0, cells := mc, slots := ms, locals := 0 } s m args below meth c D B0 X ws0 r h' mc ms 7 mc ms 28 [some (.ref l0), none, none, some (.ref l3), some (.int l4), some (.int l5), some (.int l6)] [] h := by
  unfold s_X14_leadsInto_28_b at hs
  refine ev_iload C rfl dX14_leadsInto_28 ?_
  refine ev_bipush C (v := 13) dX14_leadsInto_30 (by decide) ?_
  refine ev_icmp_ge C (tgt := 76) (by decide) dX14_leadsInto_32 (fun q32 => ?_) (fun q32 => ?_)
  · replace hs := (if_pos q32).symm.trans hs
    refine ev_iload C rfl dX14_leadsInto_76 ?_
    obtain ⟨hz, rfl, rfl⟩ := rtZ_at hs
    exact ev_zret C rfl hz rfl (Nat.le_refl _) (Nat.le_refl _) rfl dX14_leadsInto_78
  · replace hs := (if_neg q32).symm.trans hs
    refine ev_iload C rfl dX14_leadsInto_35 ?_
    refine ev_if_eq C (tgt := 67) (by decide) dX14_leadsInto_37 (fun q37 => ?_) (fun q37 => ?_)
    · replace hs := (if_pos q37).symm.trans hs
      exact Ev.keep [true, true, true, true, true, false, true] (t_X14_leadsInto_67 C K28 hs)
    · replace hs := (if_neg q37).symm.trans hs
      refine ev_aload_n C (x := .ref l0) rfl trivial dX14_leadsInto_40 ?_
      obtain ⟨x41, e41, hs⟩ := aB hs
      refine ev_get C (ci := 14) (k := 34) rfl wu_14 (by decide) wf_X14_60 (gO_F e41) dX14_leadsInto_41 ?_
      refine ev_bipush C (v := 13) dX14_leadsInto_44 (by decide) ?_
      refine ev_iload C rfl dX14_leadsInto_46 ?_
      refine ev_imul C dX14_leadsInto_48 ?_
      refine ev_iload C rfl dX14_leadsInto_49 ?_
      refine ev_iadd C dX14_leadsInto_51 ?_
      obtain ⟨x52, e52, hs⟩ := aB hs
      refine ev_iald C e52 dX14_leadsInto_52 ?_
      refine ev_aload_n C (x := .ref l3) rfl trivial dX14_leadsInto_53 ?_
      refine ev_iload C rfl dX14_leadsInto_54 ?_
      obtain ⟨x56, e56, hs⟩ := aB hs
      refine ev_iald C e56 dX14_leadsInto_56 ?_
      refine ev_iconst C (v := (-1)) dX14_leadsInto_57 (by decide) ?_
      refine ev_ixor C dX14_leadsInto_58 ?_
      refine ev_iand C dX14_leadsInto_59 ?_
      refine ev_if_ne C (tgt := 67) (by decide) dX14_leadsInto_60 (fun q60 => ?_) (fun q60 => ?_)
      · replace hs := (if_neg q60).symm.trans hs
        exact Ev.keep [true, true, true, true, true, false, true] (t_X14_leadsInto_67 C K28 hs)
      · replace hs := (if_pos q60).symm.trans hs
        refine ev_iconst C (v := 1) dX14_leadsInto_63 (by decide) ?_
        refine ev_goto C (tgt := 68) (by decide) dX14_leadsInto_64 ?_
        exact Ev.keep [true, true, true, true, true, false, true] (t_X14_leadsInto_68 C K28 hs)
theorem t_X14_leadsInto_28 (C : Cx p l s m args meth c B0 X RX14 "leadsInto" cX14_leadsInto 7 (some .boolean) [])   : ∀ (n : Nat) {l0 : Nat} {l3 : Nat} {l4 : Int32} {l5 : Int32} {l6 : Int32} {h : aH} (hs : s_X14_leadsInto_28  n l0 l3 l4 l5 l6 h = some (r, h')), Ev p l e { frames := 0, cells := mc, slots := ms, locals := 0 } s m args below meth c D B0 X ws0 r h' mc ms 7 mc ms 28 [some (.ref l0), none, none, some (.ref l3), some (.int l4), some (.int l5), some (.int l6)] [] h
  | 0, _, _, _, _, _, _, hs => nomatch hs
  | n + 1, _, _, _, _, _, _, hs => t_X14_leadsInto_28_b C  (k28 := s_X14_leadsInto_28  n) (fun _ _ _ _ _ _ hs => t_X14_leadsInto_28 C  n hs) hs
theorem t_X14_leadsInto_23 (C : Cx p l s m args meth c B0 X RX14 "leadsInto" cX14_leadsInto 7 (some .boolean) [])   {l0 : Nat} {l3 : Nat} {l4 : Int32} {s0 : Int32} {h : aH} (hs : s_X14_leadsInto_23  l0 l3 l4 s0 h = some (r, h')) : Ev p l e { frames := 0, cells := mc, slots := ms, locals := 0 } s m args below meth c D B0 X ws0 r h' mc ms 7 mc ms 23 [some (.ref l0), none, none, some (.ref l3), some (.int l4), none, none] [.int s0] h := by
  unfold s_X14_leadsInto_23 at hs
  refine ev_istore C (by decide) dX14_leadsInto_23 ?_
  refine ev_iconst C (v := 0) dX14_leadsInto_25 (by decide) ?_
  refine ev_istore C (by decide) dX14_leadsInto_26 ?_
  exact (t_X14_leadsInto_28 C  FU hs)
theorem hy_X14_leadsInto : yX14_leadsInto.cls ≠ "java/lang/invoke/MethodHandle" ∧ yX14_leadsInto.cls ≠ "java/lang/invoke/VarHandle" ∧ (parseMethodDescriptor yX14_leadsInto.desc).map (fun d => d.parameters.length) = some 3 := by decide +kernel
theorem T_X14_leadsInto (o : Nat) (a1 : Int32) (a2 : Int32) (a3 : Nat) (h : aH) (r : aR) (h' : aH) (hs : s_X14_leadsInto o a1 a2 a3 h = some (r, h')) : Mt yX14_leadsInto (Cond.code yX14_leadsInto cX14_leadsInto 7 (some .boolean) :: aTB) 0 0 0 0 [.ref o, .int a1, .int a2, .ref a3] h r h' := by
  unfold s_X14_leadsInto at hs
  refine Mt_of (k := 3) (by decide) rfl (fun p l e s m args below meth c D B0 X ws0 C => ?_)
  show Ev p l e { frames := 0, cells := 0, slots := 0, locals := 0 } s m args below meth c D B0 X ws0 r h' 0 0 7 0 0 0 [some (.ref o), some (.int a1), some (.int a2), some (.ref a3), none, none, none] [] h
  refine ev_iload_n C rfl dX14_leadsInto_0 ?_
  refine ev_bipush C (v := 9) dX14_leadsInto_1 (by decide) ?_
  refine ev_imul C dX14_leadsInto_3 ?_
  refine ev_iload_n C rfl dX14_leadsInto_4 ?_
  refine ev_iadd C dX14_leadsInto_5 ?_
  refine ev_istore C (by decide) dX14_leadsInto_6 ?_
  refine ev_aload_n C (x := .ref o) rfl trivial dX14_leadsInto_8 ?_
  obtain ⟨x9, e9, hs⟩ := aB hs
  refine ev_get C (ci := 14) (k := 43) rfl wu_14 (by decide) wf_X14_87 (gO_F e9) dX14_leadsInto_9 ?_
  refine ev_iload C rfl dX14_leadsInto_12 ?_
  obtain ⟨x14, e14, hs⟩ := aB hs
  refine ev_zald C e14 dX14_leadsInto_14 ?_
  refine ev_if_ne C (tgt := 22) (by decide) dX14_leadsInto_15 (fun q15 => ?_) (fun q15 => ?_)
  · replace hs := (if_neg q15).symm.trans hs
    refine ev_iconst C (v := 0) dX14_leadsInto_22 (by decide) ?_
    exact Ev.keep [true, false, false, true, true, true, true] (t_X14_leadsInto_23 C  hs)
  · replace hs := (if_pos q15).symm.trans hs
    refine ev_iconst C (v := 1) dX14_leadsInto_18 (by decide) ?_
    refine ev_goto C (tgt := 23) (by decide) dX14_leadsInto_19 ?_
    exact Ev.keep [true, false, false, true, true, true, true] (t_X14_leadsInto_23 C  hs)
end
-- X14_canGo
theorem dX14_canGo_0 : decode cX14_canGo 0 = .ok (.iconst 0, 1) := by decide +kernel
theorem dX14_canGo_1 : decode cX14_canGo 1 = .ok (.istore_n 3, 1) := by decide +kernel
theorem dX14_canGo_2 : decode cX14_canGo 2 = .ok (.iconst 0, 1) := by decide +kernel
theorem dX14_canGo_3 : decode cX14_canGo 3 = .ok (.istore 4, 2) := by decide +kernel
theorem dX14_canGo_5 : decode cX14_canGo 5 = .ok (.iload 4, 2) := by decide +kernel
theorem dX14_canGo_7 : decode cX14_canGo 7 = .ok (.aload_n 0, 1) := by decide +kernel
theorem dX14_canGo_8 : decode cX14_canGo 8 = .ok (.getfield 382, 3) := by decide +kernel
theorem dX14_canGo_11 : decode cX14_canGo 11 = .ok (.if_icmp .ge 30, 3) := by decide +kernel
theorem dX14_canGo_14 : decode cX14_canGo 14 = .ok (.iload_n 3, 1) := by decide +kernel
theorem dX14_canGo_15 : decode cX14_canGo 15 = .ok (.ifCond .ne 14, 3) := by decide +kernel
theorem dX14_canGo_18 : decode cX14_canGo 18 = .ok (.aload_n 0, 1) := by decide +kernel
theorem dX14_canGo_19 : decode cX14_canGo 19 = .ok (.iload_n 1, 1) := by decide +kernel
theorem dX14_canGo_20 : decode cX14_canGo 20 = .ok (.iload 4, 2) := by decide +kernel
theorem dX14_canGo_22 : decode cX14_canGo 22 = .ok (.aload_n 2, 1) := by decide +kernel
theorem dX14_canGo_23 : decode cX14_canGo 23 = .ok (.invokevirtual 496, 3) := by decide +kernel
theorem dX14_canGo_26 : decode cX14_canGo 26 = .ok (.ifCond .eq 7, 3) := by decide +kernel
theorem dX14_canGo_29 : decode cX14_canGo 29 = .ok (.iconst 1, 1) := by decide +kernel
theorem dX14_canGo_30 : decode cX14_canGo 30 = .ok (.goto 4, 3) := by decide +kernel
theorem dX14_canGo_33 : decode cX14_canGo 33 = .ok (.iconst 0, 1) := by decide +kernel
theorem dX14_canGo_34 : decode cX14_canGo 34 = .ok (.istore_n 3, 1) := by decide +kernel
theorem dX14_canGo_35 : decode cX14_canGo 35 = .ok (.iinc 4 1, 3) := by decide +kernel
theorem dX14_canGo_38 : decode cX14_canGo 38 = .ok (.goto (-33), 3) := by decide +kernel
theorem dX14_canGo_41 : decode cX14_canGo 41 = .ok (.iload_n 3, 1) := by decide +kernel
theorem dX14_canGo_42 : decode cX14_canGo 42 = .ok (.ireturn, 1) := by decide +kernel
def s_X14_canGo_34 (k5 : Nat → Int32 → Nat → Int32 → Int32 → aH → aO) (l0 : Nat) (l1 : Int32) (l2 : Nat) (l4 : Int32) (s0 : Int32) (h : aH) : aO :=
  k5 l0 l1 l2 s0 (l4 + 1) h
def s_X14_canGo_29 (k5 : Nat → Int32 → Nat → Int32 → Int32 → aH → aO) (l0 : Nat) (l1 : Int32) (l2 : Nat) (l4 : Int32) (h : aH) : aO :=
  s_X14_canGo_34 k5 l0 l1 l2 l4 1 h
def s_X14_canGo_5_b  (k5 : Nat → Int32 → Nat → Int32 → Int32 → aH → aO) (l0 : Nat) (l1 : Int32) (l2 : Nat) (l3 : Int32) (l4 : Int32) (h : aH) : aO :=
  (gI h (.ref l0) 14 21).bind fun x8 => if x8 ≤ l4 then (rtZ l3 h) else (if l3 = 0 then (kO h l0 14 (cI (s_X14_leadsInto l0 l1 l4 l2 h) fun x23 h23 => if x23 = 0 then (s_X14_canGo_34 k5 l0 l1 l2 l4 0 h23) else (s_X14_canGo_29 k5 l0 l1 l2 l4 h23))) else (s_X14_canGo_29 k5 l0 l1 l2 l4 h))
def s_X14_canGo_5  (n : Nat) : Nat → Int32 → Nat → Int32 → Int32 → aH → aO := lpF (fun _ _ _ _ _ _ => none) (s_X14_canGo_5_b ) n
def s_X14_canGo (o : Nat) (a1 : Int32) (a2 : Nat) (h : aH) : aO :=
  s_X14_canGo_5 FU o a1 a2 0 0 h
section
variable {p : Program} {l : Launch} {e : Env} {s : State} {m : MethodId} {args : Array Value} {below : List Frame} {meth : Method} {c : Code} {D : va_G} {B0 : Nat} {X : Nat → Nat} {ws0 : va_W} {r : aR} {h' : aH} {mc ms : Nat}
theorem t_X14_canGo_34 (C : Cx p l s m args meth c B0 X RX14 "canGo" cX14_canGo 5 (some .boolean) []) {k5 : Nat → Int32 → Nat → Int32 → Int32 → aH → aO} (K5 : ∀ (l0 : Nat) (l1 : Int32) (l2 : Nat) (l3 : Int32) (l4 : Int32) (h : aH), k5 l0 l1 l2 l3 l4 h = some (r, h') → Ev p l e { frames := 1, cells := mc, slots := ms, locals := 26 } s m args below meth c D B0 X ws0 r h' mc ms 5 mc ms 5 [some (.ref l0), some (.int l1), some (.ref l2), some (.int l3), some (.int l4)] [] h) {l0 : Nat} {l1 : Int32} {l2 : Nat} {l4 : Int32} {s0 : Int32} {h : aH} (hs : s_X14_canGo_34 k5 l0 l1 l2 l4 s0 h = some (r, h')) : Ev p l e { frames := 1, cells := mc, slots := ms, locals := 26 } s m args below meth c D B0 X ws0 r h' mc ms 5 mc ms 34 [some (.ref l0), some (.int l1), some (.ref l2), none, some (.int l4)] [.int s0] h := by
  unfold s_X14_canGo_34 at hs
  refine ev_istore_n C (by decide) dX14_canGo_34 ?_
  refine ev_iinc C (i := 4) (n := 1) (x := l4) (v := l4 + 1) rfl (congrArg (fun z => l4 + z) (show Int32.ofInt 1 = 1 by decide)) (by decide) dX14_canGo_35 ?_
  refine ev_goto C (tgt := 5) (by decide) dX14_canGo_38 ?_
  exact (K5 _ _ _ _ _ _ hs)
theorem t_X14_canGo_29 (C : Cx p l s m args meth c B0 X RX14 "canGo" cX14_canGo 5 (some .boolean) []) {k5 : Nat → Int32 → Nat → Int32 → Int32 → aH → aO} (K5 : ∀ (l0 : Nat) (l1 : Int32) (l2 : Nat) (l3 : Int32) (l4 : Int32) (h : aH), k5 l0 l1 l2 l3 l4 h = some (r, h') → Ev p l e { frames := 1, cells := mc, slots := ms, locals := 26 } s m args below meth c D B0 X ws0 r h' mc ms 5 mc ms 5 [some (.ref l0), some (.int l1), some (.ref l2), some (.int l3), some (.int l4)] [] h) {l0 : Nat} {l1 : Int32} {l2 : Nat} {l4 : Int32} {h : aH} (hs : s_X14_canGo_29 k5 l0 l1 l2 l4 h = some (r, h')) : Ev p l e { frames := 1, cells := mc, slots := ms, locals := 26 } s m args below meth c D B0 X ws0 r h' mc ms 5 mc ms 29 [some (.ref l0), some (.int l1), some (.ref l2), none, some (.int l4)] [] h := by
  unfold s_X14_canGo_29 at hs
  refine ev_iconst C (v := 1) dX14_canGo_29 (by decide) ?_
  refine ev_goto C (tgt := 34) (by decide) dX14_canGo_30 ?_
  exact (t_X14_canGo_34 C K5 hs)
theorem t_X14_canGo_5_b (C : Cx p l s m args meth c B0 X RX14 "canGo" cX14_canGo 5 (some .boolean) [])   {k5 : Nat → Int32 → Nat → Int32 → Int32 → aH → aO} (K5 : ∀ (l0 : Nat) (l1 : Int32) (l2 : Nat) (l3 : Int32) (l4 : Int32) (h : aH), k5 l0 l1 l2 l3 l4 h = some (r, h') → Ev p l e { frames := 1, cells := mc, slots := ms, locals := 26 } s m args below meth c D B0 X ws0 r h' mc ms 5 mc ms 5 [some (.ref l0), some (.int l1), some (.ref l2), some (.int l3), some (.int l4)] [] h) {l0 : Nat} {l1 : Int32} {l2 : Nat} {l3 : Int32} {l4 : Int32} {h : aH} (hs : s_X14_canGo_5_b  k5 l0 l1 l2 l3 l4 h = some (r, h')) : Ev p l e { frames := 1, cells := mc, slots := ms, locals := 26 } s m args below meth c D B0 X ws0 r h' mc ms 5 mc ms 5 [some (.ref l0), some (.int l1), some (.ref l2), some (.int l3), some (.int l4)] [] h := by
  unfold s_X14_canGo_5_b at hs
  refine ev_iload C rfl dX14_canGo_5 ?_
  refine ev_aload_n C (x := .ref l0) rfl trivial dX14_canGo_7 ?_
  obtain ⟨x8, e8, hs⟩ := aB hs
  refine ev_get C (ci := 14) (k := 21) rfl wu_14 (by decide) wf_X14_382 (gI_F e8) dX14_canGo_8 ?_
  refine ev_icmp_ge C (tgt := 41) (by decide) dX14_canGo_11 (fun q11 => ?_) (fun q11 => ?_)
  · replace hs := (if_pos q11).symm.trans hs
    refine ev_iload_n C rfl dX14_canGo_41 ?_
    obtain ⟨hz, rfl, rfl⟩ := rtZ_at hs
    exact ev_zret C rfl hz rfl (Nat.le_refl _) (Nat.le_refl _) rfl dX14_canGo_42
  · replace hs := (if_neg q11).symm.trans hs
    refine ev_iload_n C rfl dX14_canGo_14 ?_
    refine ev_if_ne C (tgt := 29) (by decide) dX14_canGo_15 (fun q15 => ?_) (fun q15 => ?_)
    · replace hs := (if_neg q15).symm.trans hs
      exact Ev.keep [true, true, true, false, true] (t_X14_canGo_29 C K5 hs)
    · replace hs := (if_pos q15).symm.trans hs
      refine ev_aload_n C (x := .ref l0) rfl trivial dX14_canGo_18 ?_
      refine ev_iload_n C rfl dX14_canGo_19 ?_
      refine ev_iload C rfl dX14_canGo_20 ?_
      refine ev_aload_n C (x := .ref l2) rfl trivial dX14_canGo_22 ?_
      obtain ⟨eo23, hs⟩ := kO_at hs
      obtain ⟨x23, h23, e23, hs⟩ := cI_at hs
      refine ev_callV C (T_X14_leadsInto _ _ _ _ _ _ _ e23) (ci := 14) rfl eo23 wc_X14_leadsInto wm_X14_496 wi_X14_leadsInto ws_X14_leadsInto wz_X14 hy_X14_leadsInto ⟨(Nat.le_of_ble_eq_true rfl), (Nat.le_of_ble_eq_true rfl)⟩ ⟨(Nat.le_refl _), (Nat.le_refl _)⟩ (Nat.le_of_ble_eq_true rfl) rfl dX14_canGo_23 ?_
      refine ev_if_eq C (tgt := 33) (by decide) dX14_canGo_26 (fun q26 => ?_) (fun q26 => ?_)
      · replace hs := (if_pos q26).symm.trans hs
        refine ev_iconst C (v := 0) dX14_canGo_33 (by decide) ?_
        exact Ev.keep [true, true, true, false, true] (t_X14_canGo_34 C K5 hs)
      · replace hs := (if_neg q26).symm.trans hs
        exact Ev.keep [true, true, true, false, true] (t_X14_canGo_29 C K5 hs)
theorem t_X14_canGo_5 (C : Cx p l s m args meth c B0 X RX14 "canGo" cX14_canGo 5 (some .boolean) [])   : ∀ (n : Nat) {l0 : Nat} {l1 : Int32} {l2 : Nat} {l3 : Int32} {l4 : Int32} {h : aH} (hs : s_X14_canGo_5  n l0 l1 l2 l3 l4 h = some (r, h')), Ev p l e { frames := 1, cells := mc, slots := ms, locals := 26 } s m args below meth c D B0 X ws0 r h' mc ms 5 mc ms 5 [some (.ref l0), some (.int l1), some (.ref l2), some (.int l3), some (.int l4)] [] h
  | 0, _, _, _, _, _, _, hs => nomatch hs
  | n + 1, _, _, _, _, _, _, hs => t_X14_canGo_5_b C  (k5 := s_X14_canGo_5  n) (fun _ _ _ _ _ _ hs => t_X14_canGo_5 C  n hs) hs
theorem hy_X14_canGo : yX14_canGo.cls ≠ "java/lang/invoke/MethodHandle" ∧ yX14_canGo.cls ≠ "java/lang/invoke/VarHandle" ∧ (parseMethodDescriptor yX14_canGo.desc).map (fun d => d.parameters.length) = some 2 := by decide +kernel
theorem T_X14_canGo (o : Nat) (a1 : Int32) (a2 : Nat) (h : aH) (r : aR) (h' : aH) (hs : s_X14_canGo o a1 a2 h = some (r, h')) : Mt yX14_canGo (Cond.code yX14_canGo cX14_canGo 5 (some .boolean) :: aTB) 1 26 0 0 [.ref o, .int a1, .ref a2] h r h' := by
  unfold s_X14_canGo at hs
  refine Mt_of (k := 2) (by decide) rfl (fun p l e s m args below meth c D B0 X ws0 C => ?_)
  show Ev p l e { frames := 1, cells := 0, slots := 0, locals := 26 } s m args below meth c D B0 X ws0 r h' 0 0 5 0 0 0 [some (.ref o), some (.int a1), some (.ref a2), none, none] [] h
  refine ev_iconst C (v := 0) dX14_canGo_0 (by decide) ?_
  refine ev_istore_n C (by decide) dX14_canGo_1 ?_
  refine ev_iconst C (v := 0) dX14_canGo_2 (by decide) ?_
  refine ev_istore C (by decide) dX14_canGo_3 ?_
  exact (t_X14_canGo_5 C  FU hs)
end
-- X14_keeps
theorem dX14_keeps_0 : decode cX14_keeps 0 = .ok (.aload_n 0, 1) := by decide +kernel
theorem dX14_keeps_1 : decode cX14_keeps 1 = .ok (.iload_n 1, 1) := by decide +kernel
theorem dX14_keeps_2 : decode cX14_keeps 2 = .ok (.invokevirtual 500, 3) := by decide +kernel
theorem dX14_keeps_5 : decode cX14_keeps 5 = .ok (.iconst 0, 1) := by decide +kernel
theorem dX14_keeps_6 : decode cX14_keeps 6 = .ok (.istore_n 2, 1) := by decide +kernel
theorem dX14_keeps_7 : decode cX14_keeps 7 = .ok (.iload_n 2, 1) := by decide +kernel
theorem dX14_keeps_8 : decode cX14_keeps 8 = .ok (.bipush 13, 2) := by decide +kernel
theorem dX14_keeps_10 : decode cX14_keeps 10 = .ok (.if_icmp .ge 16, 3) := by decide +kernel
theorem dX14_keeps_13 : decode cX14_keeps 13 = .ok (.aload_n 0, 1) := by decide +kernel
theorem dX14_keeps_14 : decode cX14_keeps 14 = .ok (.getfield 63, 3) := by decide +kernel
theorem dX14_keeps_17 : decode cX14_keeps 17 = .ok (.iload_n 2, 1) := by decide +kernel
theorem dX14_keeps_18 : decode cX14_keeps 18 = .ok (.iconst 0, 1) := by decide +kernel
theorem dX14_keeps_19 : decode cX14_keeps 19 = .ok (.iastore, 1) := by decide +kernel
theorem dX14_keeps_20 : decode cX14_keeps 20 = .ok (.iinc 2 1, 3) := by decide +kernel
theorem dX14_keeps_23 : decode cX14_keeps 23 = .ok (.goto (-16), 3) := by decide +kernel
theorem dX14_keeps_26 : decode cX14_keeps 26 = .ok (.iconst 0, 1) := by decide +kernel
theorem dX14_keeps_27 : decode cX14_keeps 27 = .ok (.istore_n 2, 1) := by decide +kernel
theorem dX14_keeps_28 : decode cX14_keeps 28 = .ok (.iload_n 2, 1) := by decide +kernel
theorem dX14_keeps_29 : decode cX14_keeps 29 = .ok (.aload_n 0, 1) := by decide +kernel
theorem dX14_keeps_30 : decode cX14_keeps 30 = .ok (.getfield 379, 3) := by decide +kernel
theorem dX14_keeps_33 : decode cX14_keeps 33 = .ok (.if_icmp .ge 48, 3) := by decide +kernel
theorem dX14_keeps_36 : decode cX14_keeps 36 = .ok (.aload_n 0, 1) := by decide +kernel
theorem dX14_keeps_37 : decode cX14_keeps 37 = .ok (.getfield 69, 3) := by decide +kernel
theorem dX14_keeps_40 : decode cX14_keeps 40 = .ok (.iload_n 2, 1) := by decide +kernel
theorem dX14_keeps_41 : decode cX14_keeps 41 = .ok (.aload_n 0, 1) := by decide +kernel
theorem dX14_keeps_42 : decode cX14_keeps 42 = .ok (.getfield 37, 3) := by decide +kernel
theorem dX14_keeps_45 : decode cX14_keeps 45 = .ok (.iload_n 2, 1) := by decide +kernel
theorem dX14_keeps_46 : decode cX14_keeps 46 = .ok (.baload, 1) := by decide +kernel
theorem dX14_keeps_47 : decode cX14_keeps 47 = .ok (.ifCond .eq 7, 3) := by decide +kernel
theorem dX14_keeps_50 : decode cX14_keeps 50 = .ok (.iconst 0, 1) := by decide +kernel
theorem dX14_keeps_51 : decode cX14_keeps 51 = .ok (.goto 5, 3) := by decide +kernel
theorem dX14_keeps_54 : decode cX14_keeps 54 = .ok (.bipush (-2), 2) := by decide +kernel
theorem dX14_keeps_56 : decode cX14_keeps 56 = .ok (.iastore, 1) := by decide +kernel
theorem dX14_keeps_57 : decode cX14_keeps 57 = .ok (.aload_n 0, 1) := by decide +kernel
theorem dX14_keeps_58 : decode cX14_keeps 58 = .ok (.getfield 37, 3) := by decide +kernel
theorem dX14_keeps_61 : decode cX14_keeps 61 = .ok (.iload_n 2, 1) := by decide +kernel
theorem dX14_keeps_62 : decode cX14_keeps 62 = .ok (.baload, 1) := by decide +kernel
theorem dX14_keeps_63 : decode cX14_keeps 63 = .ok (.ifCond .eq 12, 3) := by decide +kernel
theorem dX14_keeps_66 : decode cX14_keeps 66 = .ok (.aload_n 0, 1) := by decide +kernel
theorem dX14_keeps_67 : decode cX14_keeps 67 = .ok (.getfield 63, 3) := by decide +kernel
theorem dX14_keeps_70 : decode cX14_keeps 70 = .ok (.iconst 0, 1) := by decide +kernel
theorem dX14_keeps_71 : decode cX14_keeps 71 = .ok (.iload_n 2, 1) := by decide +kernel
theorem dX14_keeps_72 : decode cX14_keeps 72 = .ok (.invokestatic 492, 3) := by decide +kernel
theorem dX14_keeps_75 : decode cX14_keeps 75 = .ok (.iinc 2 1, 3) := by decide +kernel
theorem dX14_keeps_78 : decode cX14_keeps 78 = .ok (.goto (-50), 3) := by decide +kernel
theorem dX14_keeps_81 : decode cX14_keeps 81 = .ok (.iconst 1, 1) := by decide +kernel
theorem dX14_keeps_82 : decode cX14_keeps 82 = .ok (.istore_n 2, 1) := by decide +kernel
theorem dX14_keeps_83 : decode cX14_keeps 83 = .ok (.iconst 1, 1) := by decide +kernel
theorem dX14_keeps_84 : decode cX14_keeps 84 = .ok (.istore_n 3, 1) := by decide +kernel
theorem dX14_keeps_85 : decode cX14_keeps 85 = .ok (.iload_n 2, 1) := by decide +kernel
theorem dX14_keeps_86 : decode cX14_keeps 86 = .ok (.ifCond .eq 135, 3) := by decide +kernel
theorem dX14_keeps_89 : decode cX14_keeps 89 = .ok (.iconst 0, 1) := by decide +kernel
theorem dX14_keeps_90 : decode cX14_keeps 90 = .ok (.istore_n 2, 1) := by decide +kernel
theorem dX14_keeps_91 : decode cX14_keeps 91 = .ok (.iconst 0, 1) := by decide +kernel
theorem dX14_keeps_92 : decode cX14_keeps 92 = .ok (.istore 4, 2) := by decide +kernel
theorem dX14_keeps_94 : decode cX14_keeps 94 = .ok (.iload 4, 2) := by decide +kernel
theorem dX14_keeps_96 : decode cX14_keeps 96 = .ok (.bipush 13, 2) := by decide +kernel
theorem dX14_keeps_98 : decode cX14_keeps 98 = .ok (.if_icmp .ge 17, 3) := by decide +kernel
theorem dX14_keeps_101 : decode cX14_keeps 101 = .ok (.aload_n 0, 1) := by decide +kernel
theorem dX14_keeps_102 : decode cX14_keeps 102 = .ok (.getfield 66, 3) := by decide +kernel
theorem dX14_keeps_105 : decode cX14_keeps 105 = .ok (.iload 4, 2) := by decide +kernel
theorem dX14_keeps_107 : decode cX14_keeps 107 = .ok (.iconst 0, 1) := by decide +kernel
theorem dX14_keeps_108 : decode cX14_keeps 108 = .ok (.iastore, 1) := by decide +kernel
theorem dX14_keeps_109 : decode cX14_keeps 109 = .ok (.iinc 4 1, 3) := by decide +kernel
theorem dX14_keeps_112 : decode cX14_keeps 112 = .ok (.goto (-18), 3) := by decide +kernel
theorem dX14_keeps_115 : decode cX14_keeps 115 = .ok (.iconst 0, 1) := by decide +kernel
theorem dX14_keeps_116 : decode cX14_keeps 116 = .ok (.istore 4, 2) := by decide +kernel
theorem dX14_keeps_118 : decode cX14_keeps 118 = .ok (.iload 4, 2) := by decide +kernel
theorem dX14_keeps_120 : decode cX14_keeps 120 = .ok (.aload_n 0, 1) := by decide +kernel
theorem dX14_keeps_121 : decode cX14_keeps 121 = .ok (.getfield 379, 3) := by decide +kernel
theorem dX14_keeps_124 : decode cX14_keeps 124 = .ok (.if_icmp .ge 61, 3) := by decide +kernel
theorem dX14_keeps_127 : decode cX14_keeps 127 = .ok (.aload_n 0, 1) := by decide +kernel
theorem dX14_keeps_128 : decode cX14_keeps 128 = .ok (.getfield 63, 3) := by decide +kernel
theorem dX14_keeps_131 : decode cX14_keeps 131 = .ok (.iconst 0, 1) := by decide +kernel
theorem dX14_keeps_132 : decode cX14_keeps 132 = .ok (.iload 4, 2) := by decide +kernel
theorem dX14_keeps_134 : decode cX14_keeps 134 = .ok (.invokestatic 503, 3) := by decide +kernel
theorem dX14_keeps_137 : decode cX14_keeps 137 = .ok (.ifCond .ne 6, 3) := by decide +kernel
theorem dX14_keeps_140 : decode cX14_keeps 140 = .ok (.goto 39, 3) := by decide +kernel
theorem dX14_keeps_143 : decode cX14_keeps 143 = .ok (.aload_n 0, 1) := by decide +kernel
theorem dX14_keeps_144 : decode cX14_keeps 144 = .ok (.iload 4, 2) := by decide +kernel
theorem dX14_keeps_146 : decode cX14_keeps 146 = .ok (.aload_n 0, 1) := by decide +kernel
theorem dX14_keeps_147 : decode cX14_keeps 147 = .ok (.getfield 63, 3) := by decide +kernel
theorem dX14_keeps_150 : decode cX14_keeps 150 = .ok (.invokevirtual 507, 3) := by decide +kernel
theorem dX14_keeps_153 : decode cX14_keeps 153 = .ok (.ifCond .eq 16, 3) := by decide +kernel
theorem dX14_keeps_156 : decode cX14_keeps 156 = .ok (.aload_n 0, 1) := by decide +kernel
theorem dX14_keeps_157 : decode cX14_keeps 157 = .ok (.getfield 66, 3) := by decide +kernel
theorem dX14_keeps_160 : decode cX14_keeps 160 = .ok (.iconst 0, 1) := by decide +kernel
theorem dX14_keeps_161 : decode cX14_keeps 161 = .ok (.iload 4, 2) := by decide +kernel
theorem dX14_keeps_163 : decode cX14_keeps 163 = .ok (.invokestatic 492, 3) := by decide +kernel
theorem dX14_keeps_166 : decode cX14_keeps 166 = .ok (.goto 13, 3) := by decide +kernel
theorem dX14_keeps_169 : decode cX14_keeps 169 = .ok (.aload_n 0, 1) := by decide +kernel
theorem dX14_keeps_170 : decode cX14_keeps 170 = .ok (.getfield 69, 3) := by decide +kernel
theorem dX14_keeps_173 : decode cX14_keeps 173 = .ok (.iload 4, 2) := by decide +kernel
theorem dX14_keeps_175 : decode cX14_keeps 175 = .ok (.iload_n 3, 1) := by decide +kernel
theorem dX14_keeps_176 : decode cX14_keeps 176 = .ok (.iastore, 1) := by decide +kernel
theorem dX14_keeps_177 : decode cX14_keeps 177 = .ok (.iconst 1, 1) := by decide +kernel
theorem dX14_keeps_178 : decode cX14_keeps 178 = .ok (.istore_n 2, 1) := by decide +kernel
theorem dX14_keeps_179 : decode cX14_keeps 179 = .ok (.iinc 4 1, 3) := by decide +kernel
theorem dX14_keeps_182 : decode cX14_keeps 182 = .ok (.goto (-64), 3) := by decide +kernel
theorem dX14_keeps_185 : decode cX14_keeps 185 = .ok (.iconst 0, 1) := by decide +kernel
theorem dX14_keeps_186 : decode cX14_keeps 186 = .ok (.istore 4, 2) := by decide +kernel
theorem dX14_keeps_188 : decode cX14_keeps 188 = .ok (.iload 4, 2) := by decide +kernel
theorem dX14_keeps_190 : decode cX14_keeps 190 = .ok (.bipush 13, 2) := by decide +kernel
theorem dX14_keeps_192 : decode cX14_keeps 192 = .ok (.if_icmp .ge 23, 3) := by decide +kernel
theorem dX14_keeps_195 : decode cX14_keeps 195 = .ok (.aload_n 0, 1) := by decide +kernel
theorem dX14_keeps_196 : decode cX14_keeps 196 = .ok (.getfield 63, 3) := by decide +kernel
theorem dX14_keeps_199 : decode cX14_keeps 199 = .ok (.iload 4, 2) := by decide +kernel
theorem dX14_keeps_201 : decode cX14_keeps 201 = .ok (.aload_n 0, 1) := by decide +kernel
theorem dX14_keeps_202 : decode cX14_keeps 202 = .ok (.getfield 66, 3) := by decide +kernel
theorem dX14_keeps_205 : decode cX14_keeps 205 = .ok (.iload 4, 2) := by decide +kernel
theorem dX14_keeps_207 : decode cX14_keeps 207 = .ok (.iaload, 1) := by decide +kernel
theorem dX14_keeps_208 : decode cX14_keeps 208 = .ok (.iastore, 1) := by decide +kernel
theorem dX14_keeps_209 : decode cX14_keeps 209 = .ok (.iinc 4 1, 3) := by decide +kernel
theorem dX14_keeps_212 : decode cX14_keeps 212 = .ok (.goto (-24), 3) := by decide +kernel
theorem dX14_keeps_215 : decode cX14_keeps 215 = .ok (.iinc 3 1, 3) := by decide +kernel
theorem dX14_keeps_218 : decode cX14_keeps 218 = .ok (.goto (-133), 3) := by decide +kernel
theorem dX14_keeps_221 : decode cX14_keeps 221 = .ok (.iconst 0, 1) := by decide +kernel
theorem dX14_keeps_222 : decode cX14_keeps 222 = .ok (.istore_n 3, 1) := by decide +kernel
theorem dX14_keeps_223 : decode cX14_keeps 223 = .ok (.iload_n 3, 1) := by decide +kernel
theorem dX14_keeps_224 : decode cX14_keeps 224 = .ok (.bipush 13, 2) := by decide +kernel
theorem dX14_keeps_226 : decode cX14_keeps 226 = .ok (.if_icmp .ge 26, 3) := by decide +kernel
theorem dX14_keeps_229 : decode cX14_keeps 229 = .ok (.aload_n 0, 1) := by decide +kernel
theorem dX14_keeps_230 : decode cX14_keeps 230 = .ok (.getfield 72, 3) := by decide +kernel
theorem dX14_keeps_233 : decode cX14_keeps 233 = .ok (.bipush 13, 2) := by decide +kernel
theorem dX14_keeps_235 : decode cX14_keeps 235 = .ok (.iload_n 1, 1) := by decide +kernel
theorem dX14_keeps_236 : decode cX14_keeps 236 = .ok (.imul, 1) := by decide +kernel
theorem dX14_keeps_237 : decode cX14_keeps 237 = .ok (.iload_n 3, 1) := by decide +kernel
theorem dX14_keeps_238 : decode cX14_keeps 238 = .ok (.iadd, 1) := by decide +kernel
theorem dX14_keeps_239 : decode cX14_keeps 239 = .ok (.aload_n 0, 1) := by decide +kernel
theorem dX14_keeps_240 : decode cX14_keeps 240 = .ok (.getfield 63, 3) := by decide +kernel
theorem dX14_keeps_243 : decode cX14_keeps 243 = .ok (.iload_n 3, 1) := by decide +kernel
theorem dX14_keeps_244 : decode cX14_keeps 244 = .ok (.iaload, 1) := by decide +kernel
theorem dX14_keeps_245 : decode cX14_keeps 245 = .ok (.iastore, 1) := by decide +kernel
theorem dX14_keeps_246 : decode cX14_keeps 246 = .ok (.iinc 3 1, 3) := by decide +kernel
theorem dX14_keeps_249 : decode cX14_keeps 249 = .ok (.goto (-26), 3) := by decide +kernel
theorem dX14_keeps_252 : decode cX14_keeps 252 = .ok (.return_, 1) := by decide +kernel
def s_X14_keeps_223_b  (k223 : Nat → Int32 → Int32 → aH → aO) (l0 : Nat) (l1 : Int32) (l3 : Int32) (h : aH) : aO :=
  if 13 ≤ l3 then (some (.inl none, h)) else ((gO h (.ref l0) 14 38).bind fun x230 => (gO h (.ref l0) 14 35).bind fun x240 => (ldI .int h (.ref x240) l3).bind fun x244 => (stI h (.ref x230) ((13 * l1) + l3) x244).bind fun h245 => k223 l0 l1 (l3 + 1) h245)
def s_X14_keeps_223  (n : Nat) : Nat → Int32 → Int32 → aH → aO := lpF (fun _ _ _ _ => none) (s_X14_keeps_223_b ) n
def s_X14_keeps_188_b (k85 : Nat → Int32 → Int32 → Int32 → aH → aO) (k188 : Nat → Int32 → Int32 → Int32 → Int32 → aH → aO) (l0 : Nat) (l1 : Int32) (l2 : Int32) (l3 : Int32) (l4 : Int32) (h : aH) : aO :=
  if 13 ≤ l4 then (k85 l0 l1 l2 (l3 + 1) h) else ((gO h (.ref l0) 14 35).bind fun x196 => (gO h (.ref l0) 14 36).bind fun x202 => (ldI .int h (.ref x202) l4).bind fun x207 => (stI h (.ref x196) l4 x207).bind fun h208 => k188 l0 l1 l2 l3 (l4 + 1) h208)
def s_X14_keeps_188 (k85 : Nat → Int32 → Int32 → Int32 → aH → aO) (n : Nat) : Nat → Int32 → Int32 → Int32 → Int32 → aH → aO := lpF (fun _ _ _ _ _ _ => none) (s_X14_keeps_188_b k85) n
def s_X14_keeps_118_b (k85 : Nat → Int32 → Int32 → Int32 → aH → aO) (k118 : Nat → Int32 → Int32 → Int32 → Int32 → aH → aO) (l0 : Nat) (l1 : Int32) (l2 : Int32) (l3 : Int32) (l4 : Int32) (h : aH) : aO :=
  (gI h (.ref l0) 14 20).bind fun x121 => if x121 ≤ l4 then (s_X14_keeps_188 k85 FU l0 l1 l2 l3 0 h) else ((gO h (.ref l0) 14 35).bind fun x128 => cI (s_X14_isIn x128 0 l4 h) fun x134 h134 => if x134 = 0 then (k118 l0 l1 l2 l3 (l4 + 1) h134) else ((gO h134 (.ref l0) 14 35).bind fun x147 => kO h134 l0 14 (cI (s_X14_canGo l0 l4 x147 h134) fun x150 h150 => if x150 = 0 then ((gO h150 (.ref l0) 14 37).bind fun x170 => (stI h150 (.ref x170) l4 l3).bind fun h176 => k118 l0 l1 1 l3 (l4 + 1) h176) else ((gO h150 (.ref l0) 14 36).bind fun x157 => cN (s_X14_puts x157 0 l4 h150) fun h163 => k118 l0 l1 l2 l3 (l4 + 1) h163))))
def s_X14_keeps_118 (k85 : Nat → Int32 → Int32 → Int32 → aH → aO) (n : Nat) : Nat → Int32 → Int32 → Int32 → Int32 → aH → aO := lpF (fun _ _ _ _ _ _ => none) (s_X14_keeps_118_b k85) n
def s_X14_keeps_94_b (k85 : Nat → Int32 → Int32 → Int32 → aH → aO) (k94 : Nat → Int32 → Int32 → Int32 → Int32 → aH → aO) (l0 : Nat) (l1 : Int32) (l2 : Int32) (l3 : Int32) (l4 : Int32) (h : aH) : aO :=
  if 13 ≤ l4 then (s_X14_keeps_118 k85 FU l0 l1 l2 l3 0 h) else ((gO h (.ref l0) 14 36).bind fun x102 => (stI h (.ref x102) l4 0).bind fun h108 => k94 l0 l1 l2 l3 (l4 + 1) h108)
def s_X14_keeps_94 (k85 : Nat → Int32 → Int32 → Int32 → aH → aO) (n : Nat) : Nat → Int32 → Int32 → Int32 → Int32 → aH → aO := lpF (fun _ _ _ _ _ _ => none) (s_X14_keeps_94_b k85) n
def s_X14_keeps_85_b  (k85 : Nat → Int32 → Int32 → Int32 → aH → aO) (l0 : Nat) (l1 : Int32) (l2 : Int32) (l3 : Int32) (h : aH) : aO :=
  if l2 = 0 then (s_X14_keeps_223 FU l0 l1 0 h) else (s_X14_keeps_94 k85 FU l0 l1 0 l3 0 h)
def s_X14_keeps_85  (n : Nat) : Nat → Int32 → Int32 → Int32 → aH → aO := lpF (fun _ _ _ _ _ => none) (s_X14_keeps_85_b ) n
def s_X14_keeps_56 (k28 : Nat → Int32 → Int32 → aH → aO) (l0 : Nat) (l1 : Int32) (l2 : Int32) (s0 : Int32) (s1 : Int32) (s2 : Nat) (h : aH) : aO :=
  (stI h (.ref s2) s1 s0).bind fun h56 => (gO h56 (.ref l0) 14 27).bind fun x58 => (ldI .boolean h56 (.ref x58) l2).bind fun x62 => if x62 = 0 then (k28 l0 l1 (l2 + 1) h56) else ((gO h56 (.ref l0) 14 35).bind fun x67 => cN (s_X14_puts x67 0 l2 h56) fun h72 => k28 l0 l1 (l2 + 1) h72)
def s_X14_keeps_28_b  (k28 : Nat → Int32 → Int32 → aH → aO) (l0 : Nat) (l1 : Int32) (l2 : Int32) (h : aH) : aO :=
  (gI h (.ref l0) 14 20).bind fun x30 => if x30 ≤ l2 then (s_X14_keeps_85 FU l0 l1 1 1 h) else ((gO h (.ref l0) 14 37).bind fun x37 => (gO h (.ref l0) 14 27).bind fun x42 => (ldI .boolean h (.ref x42) l2).bind fun x46 => if x46 = 0 then (s_X14_keeps_56 k28 l0 l1 l2 (-2) l2 x37 h) else (s_X14_keeps_56 k28 l0 l1 l2 0 l2 x37 h))
def s_X14_keeps_28  (n : Nat) : Nat → Int32 → Int32 → aH → aO := lpF (fun _ _ _ _ => none) (s_X14_keeps_28_b ) n
def s_X14_keeps_7_b  (k7 : Nat → Int32 → Int32 → aH → aO) (l0 : Nat) (l1 : Int32) (l2 : Int32) (h : aH) : aO :=
  if 13 ≤ l2 then (s_X14_keeps_28 FU l0 l1 0 h) else ((gO h (.ref l0) 14 35).bind fun x14 => (stI h (.ref x14) l2 0).bind fun h19 => k7 l0 l1 (l2 + 1) h19)
def s_X14_keeps_7  (n : Nat) : Nat → Int32 → Int32 → aH → aO := lpF (fun _ _ _ _ => none) (s_X14_keeps_7_b ) n
def s_X14_keeps (o : Nat) (a1 : Int32) (h : aH) : aO :=
  kO h o 14 (cN (s_X14_spreadsOut o a1 h) fun h2 => s_X14_keeps_7 FU o a1 0 h2)
section
variable {p : Program} {l : Launch} {e : Env} {s : State} {m : MethodId} {args : Array Value} {below : List Frame} {meth : Method} {c : Code} {D : va_G} {B0 : Nat} {X : Nat → Nat} {ws0 : va_W} {r : aR} {h' : aH} {mc ms : Nat}
theorem t_X14_keeps_223_b (C : Cx p l s m args meth c B0 X RX14 "keeps" cX14_keeps 5 none [])   {k223 : Nat → Int32 → Int32 → aH → aO} (K223 : ∀ (l0 : Nat) (l1 : Int32) (l3 : Int32) (h : aH), k223 l0 l1 l3 h = some (r, h') → Ev p l e { frames := 5, cells := mc, slots := ms, locals := 129 } s m args below meth c D B0 X ws0 r h' mc ms 5 mc ms 223 [some (.ref l0), some (.int l1), none, some (.int l3), none] [] h) {l0 : Nat} {l1 : Int32} {l3 : Int32} {h : aH} (hs : s_X14_keeps_223_b  k223 l0 l1 l3 h = some (r, h')) : Ev p l e { frames := 5, cells := mc, slots := ms, locals := 129 } s m args below meth c D B0 X ws0 r h' mc ms 5 mc ms 223 [some (.ref l0), some (.int l1), none, some (.int l3), none] [] h := by
  unfold s_X14_keeps_223_b at hs
  refine ev_iload_n C rfl dX14_keeps_223 ?_
  refine ev_bipush C (v := 13) dX14_keeps_224 (by decide) ?_
  refine ev_icmp_ge C (tgt := 252) (by decide) dX14_keeps_226 (fun q226 => ?_) (fun q226 => ?_)
  · replace hs := (if_pos q226).symm.trans hs
    cases hs
    exact ev_vret C rfl rfl (Nat.le_refl _) (Nat.le_refl _) rfl dX14_keeps_252
  · replace hs := (if_neg q226).symm.trans hs
    refine ev_aload_n C (x := .ref l0) rfl trivial dX14_keeps_229 ?_
    obtain ⟨x230, e230, hs⟩ := aB hs
    refine ev_get C (ci := 14) (k := 38) rfl wu_14 (by decide) wf_X14_72 (gO_F e230) dX14_keeps_230 ?_
    refine ev_bipush C (v := 13) dX14_keeps_233 (by decide) ?_
    refine ev_iload_n C rfl dX14_keeps_235 ?_
    refine ev_imul C dX14_keeps_236 ?_
    refine ev_iload_n C rfl dX14_keeps_237 ?_
    refine ev_iadd C dX14_keeps_238 ?_
    refine ev_aload_n C (x := .ref l0) rfl trivial dX14_keeps_239 ?_
    obtain ⟨x240, e240, hs⟩ := aB hs
    refine ev_get C (ci := 14) (k := 35) rfl wu_14 (by decide) wf_X14_63 (gO_F e240) dX14_keeps_240 ?_
    refine ev_iload_n C rfl dX14_keeps_243 ?_
    obtain ⟨x244, e244, hs⟩ := aB hs
    refine ev_iald C e244 dX14_keeps_244 ?_
    obtain ⟨h245, e245, hs⟩ := aB hs
    refine ev_iast C e245 dX14_keeps_245 ?_
    refine ev_iinc C (i := 3) (n := 1) (x := l3) (v := l3 + 1) rfl (congrArg (fun z => l3 + z) (show Int32.ofInt 1 = 1 by decide)) (by decide) dX14_keeps_246 ?_
    refine ev_goto C (tgt := 223) (by decide) dX14_keeps_249 ?_
    exact (K223 _ _ _ _ hs)
theorem t_X14_keeps_223 (C : Cx p l s m args meth c B0 X RX14 "keeps" cX14_keeps 5 none [])   : ∀ (n : Nat) {l0 : Nat} {l1 : Int32} {l3 : Int32} {h : aH} (hs : s_X14_keeps_223  n l0 l1 l3 h = some (r, h')), Ev p l e { frames := 5, cells := mc, slots := ms, locals := 129 } s m args below meth c D B0 X ws0 r h' mc ms 5 mc ms 223 [some (.ref l0), some (.int l1), none, some (.int l3), none] [] h
  | 0, _, _, _, _, hs => nomatch hs
  | n + 1, _, _, _, _, hs => t_X14_keeps_223_b C  (k223 := s_X14_keeps_223  n) (fun _ _ _ _ hs => t_X14_keeps_223 C  n hs) hs
theorem t_X14_keeps_188_b (C : Cx p l s m args meth c B0 X RX14 "keeps" cX14_keeps 5 none []) {k85 : Nat → Int32 → Int32 → Int32 → aH → aO} (K85 : ∀ (l0 : Nat) (l1 : Int32) (l2 : Int32) (l3 : Int32) (h : aH), k85 l0 l1 l2 l3 h = some (r, h') → Ev p l e { frames := 5, cells := mc, slots := ms, locals := 129 } s m args below meth c D B0 X ws0 r h' mc ms 5 mc ms 85 [some (.ref l0), some (.int l1), some (.int l2), some (.int l3), none] [] h) {k188 : Nat → Int32 → Int32 → Int32 → Int32 → aH → aO} (K188 : ∀ (l0 : Nat) (l1 : Int32) (l2 : Int32) (l3 : Int32) (l4 : Int32) (h : aH), k188 l0 l1 l2 l3 l4 h = some (r, h') → Ev p l e { frames := 5, cells := mc, slots := ms, locals := 129 } s m args below meth c D B0 X ws0 r h' mc ms 5 mc ms 188 [some (.ref l0), some (.int l1), some (.int l2), some (.int l3), some (.int l4)] [] h) {l0 : Nat} {l1 : Int32} {l2 : Int32} {l3 : Int32} {l4 : Int32} {h : aH} (hs : s_X14_keeps_188_b k85 k188 l0 l1 l2 l3 l4 h = some (r, h')) : Ev p l e { frames := 5, cells := mc, slots := ms, locals := 129 } s m args below meth c D B0 X ws0 r h' mc ms 5 mc ms 188 [some (.ref l0), some (.int l1), some (.int l2), some (.int l3), some (.int l4)] [] h := by
  unfold s_X14_keeps_188_b at hs
  refine ev_iload C rfl dX14_keeps_188 ?_
  refine ev_bipush C (v := 13) dX14_keeps_190 (by decide) ?_
  refine ev_icmp_ge C (tgt := 215) (by decide) dX14_keeps_192 (fun q192 => ?_) (fun q192 => ?_)
  · replace hs := (if_pos q192).symm.trans hs
    refine ev_iinc C (i := 3) (n := 1) (x := l3) (v := l3 + 1) rfl (congrArg (fun z => l3 + z) (show Int32.ofInt 1 = 1 by decide)) (by decide) dX14_keeps_215 ?_
    refine ev_goto C (tgt := 85) (by decide) dX14_keeps_218 ?_
    exact Ev.keep [true, true, true, true, false] (K85 _ _ _ _ _ hs)
  · replace hs := (if_neg q192).symm.trans hs
    refine ev_aload_n C (x := .ref l0) rfl trivial dX14_keeps_195 ?_
    obtain ⟨x196, e196, hs⟩ := aB hs
    refine ev_get C (ci := 14) (k := 35) rfl wu_14 (by decide) wf_X14_63 (gO_F e196) dX14_keeps_196 ?_
    refine ev_iload C rfl dX14_keeps_199 ?_
    refine ev_aload_n C (x := .ref l0) rfl trivial dX14_keeps_201 ?_
    obtain ⟨x202, e202, hs⟩ := aB hs
    refine ev_get C (ci := 14) (k := 36) rfl wu_14 (by decide) wf_X14_66 (gO_F e202) dX14_keeps_202 ?_
    refine ev_iload C rfl dX14_keeps_205 ?_
    obtain ⟨x207, e207, hs⟩ := aB hs
    refine ev_iald C e207 dX14_keeps_207 ?_
    obtain ⟨h208, e208, hs⟩ := aB hs
    refine ev_iast C e208 dX14_keeps_208 ?_
    refine ev_iinc C (i := 4) (n := 1) (x := l4) (v := l4 + 1) rfl (congrArg (fun z => l4 + z) (show Int32.ofInt 1 = 1 by decide)) (by decide) dX14_keeps_209 ?_
    refine ev_goto C (tgt := 188) (by decide) dX14_keeps_212 ?_
    exact (K188 _ _ _ _ _ _ hs)
theorem t_X14_keeps_188 (C : Cx p l s m args meth c B0 X RX14 "keeps" cX14_keeps 5 none []) {k85 : Nat → Int32 → Int32 → Int32 → aH → aO} (K85 : ∀ (l0 : Nat) (l1 : Int32) (l2 : Int32) (l3 : Int32) (h : aH), k85 l0 l1 l2 l3 h = some (r, h') → Ev p l e { frames := 5, cells := mc, slots := ms, locals := 129 } s m args below meth c D B0 X ws0 r h' mc ms 5 mc ms 85 [some (.ref l0), some (.int l1), some (.int l2), some (.int l3), none] [] h) : ∀ (n : Nat) {l0 : Nat} {l1 : Int32} {l2 : Int32} {l3 : Int32} {l4 : Int32} {h : aH} (hs : s_X14_keeps_188 k85 n l0 l1 l2 l3 l4 h = some (r, h')), Ev p l e { frames := 5, cells := mc, slots := ms, locals := 129 } s m args below meth c D B0 X ws0 r h' mc ms 5 mc ms 188 [some (.ref l0), some (.int l1), some (.int l2), some (.int l3), some (.int l4)] [] h
  | 0, _, _, _, _, _, _, hs => nomatch hs
  | n + 1, _, _, _, _, _, _, hs => t_X14_keeps_188_b C K85 (k188 := s_X14_keeps_188 k85 n) (fun _ _ _ _ _ _ hs => t_X14_keeps_188 C K85 n hs) hs
theorem t_X14_keeps_118_b (C : Cx p l s m args meth c B0 X RX14 "keeps" cX14_keeps 5 none []) {k85 : Nat → Int32 → Int32 → Int32 → aH → aO} (K85 : ∀ (l0 : Nat) (l1 : Int32) (l2 : Int32) (l3 : Int32) (h : aH), k85 l0 l1 l2 l3 h = some (r, h') → Ev p l e { frames := 5, cells := mc, slots := ms, locals := 129 } s m args below meth c D B0 X ws0 r h' mc ms 5 mc ms 85 [some (.ref l0), some (.int l1), some (.int l2), some (.int l3), none] [] h) {k118 : Nat → Int32 → Int32 → Int32 → Int32 → aH → aO} (K118 : ∀ (l0 : Nat) (l1 : Int32) (l2 : Int32) (l3 : Int32) (l4 : Int32) (h : aH), k118 l0 l1 l2 l3 l4 h = some (r, h') → Ev p l e { frames := 5, cells := mc, slots := ms, locals := 129 } s m args below meth c D B0 X ws0 r h' mc ms 5 mc ms 118 [some (.ref l0), some (.int l1), some (.int l2), some (.int l3), some (.int l4)] [] h) {l0 : Nat} {l1 : Int32} {l2 : Int32} {l3 : Int32} {l4 : Int32} {h : aH} (hs : s_X14_keeps_118_b k85 k118 l0 l1 l2 l3 l4 h = some (r, h')) : Ev p l e { frames := 5, cells := mc, slots := ms, locals := 129 } s m args below meth c D B0 X ws0 r h' mc ms 5 mc ms 118 [some (.ref l0), some (.int l1), some (.int l2), some (.int l3), some (.int l4)] [] h := by
  unfold s_X14_keeps_118_b at hs
  refine ev_iload C rfl dX14_keeps_118 ?_
  refine ev_aload_n C (x := .ref l0) rfl trivial dX14_keeps_120 ?_
  obtain ⟨x121, e121, hs⟩ := aB hs
  refine ev_get C (ci := 14) (k := 20) rfl wu_14 (by decide) wf_X14_379 (gI_F e121) dX14_keeps_121 ?_
  refine ev_icmp_ge C (tgt := 185) (by decide) dX14_keeps_124 (fun q124 => ?_) (fun q124 => ?_)
  · replace hs := (if_pos q124).symm.trans hs
    refine ev_iconst C (v := 0) dX14_keeps_185 (by decide) ?_
    refine ev_istore C (by decide) dX14_keeps_186 ?_
    exact (t_X14_keeps_188 C K85 FU hs)
  · replace hs := (if_neg q124).symm.trans hs
    refine ev_aload_n C (x := .ref l0) rfl trivial dX14_keeps_127 ?_
    obtain ⟨x128, e128, hs⟩ := aB hs
    refine ev_get C (ci := 14) (k := 35) rfl wu_14 (by decide) wf_X14_63 (gO_F e128) dX14_keeps_128 ?_
    refine ev_iconst C (v := 0) dX14_keeps_131 (by decide) ?_
    refine ev_iload C rfl dX14_keeps_132 ?_
    obtain ⟨x134, h134, e134, hs⟩ := cI_at hs
    refine ev_callS C (T_X14_isIn _ _ _ _ _ _ e134) wc_X14_isIn wm_X14_503 wt_X14_isIn wz_X14 hy_X14_isIn ⟨(Nat.le_of_ble_eq_true rfl), (Nat.le_of_ble_eq_true rfl)⟩ ⟨(Nat.le_refl _), (Nat.le_refl _)⟩ (Nat.le_of_ble_eq_true rfl) rfl dX14_keeps_134 ?_
    refine ev_if_ne C (tgt := 143) (by decide) dX14_keeps_137 (fun q137 => ?_) (fun q137 => ?_)
    · replace hs := (if_neg q137).symm.trans hs
      refine ev_aload_n C (x := .ref l0) rfl trivial dX14_keeps_143 ?_
      refine ev_iload C rfl dX14_keeps_144 ?_
      refine ev_aload_n C (x := .ref l0) rfl trivial dX14_keeps_146 ?_
      obtain ⟨x147, e147, hs⟩ := aB hs
      refine ev_get C (ci := 14) (k := 35) rfl wu_14 (by decide) wf_X14_63 (gO_F e147) dX14_keeps_147 ?_
      obtain ⟨eo150, hs⟩ := kO_at hs
      obtain ⟨x150, h150, e150, hs⟩ := cI_at hs
      refine ev_callV C (T_X14_canGo _ _ _ _ _ _ e150) (ci := 14) rfl eo150 wc_X14_canGo wm_X14_507 wi_X14_canGo ws_X14_canGo wz_X14 hy_X14_canGo ⟨(Nat.le_of_ble_eq_true rfl), (Nat.le_of_ble_eq_true rfl)⟩ ⟨(Nat.le_refl _), (Nat.le_refl _)⟩ (Nat.le_of_ble_eq_true rfl) rfl dX14_keeps_150 ?_
      refine ev_if_eq C (tgt := 169) (by decide) dX14_keeps_153 (fun q153 => ?_) (fun q153 => ?_)
      · replace hs := (if_pos q153).symm.trans hs
        refine ev_aload_n C (x := .ref l0) rfl trivial dX14_keeps_169 ?_
        obtain ⟨x170, e170, hs⟩ := aB hs
        refine ev_get C (ci := 14) (k := 37) rfl wu_14 (by decide) wf_X14_69 (gO_F e170) dX14_keeps_170 ?_
        refine ev_iload C rfl dX14_keeps_173 ?_
        refine ev_iload_n C rfl dX14_keeps_175 ?_
        obtain ⟨h176, e176, hs⟩ := aB hs
        refine ev_iast C e176 dX14_keeps_176 ?_
        refine ev_iconst C (v := 1) dX14_keeps_177 (by decide) ?_
        refine ev_istore_n C (by decide) dX14_keeps_178 ?_
        refine ev_iinc C (i := 4) (n := 1) (x := l4) (v := l4 + 1) rfl (congrArg (fun z => l4 + z) (show Int32.ofInt 1 = 1 by decide)) (by decide) dX14_keeps_179 ?_
        refine ev_goto C (tgt := 118) (by decide) dX14_keeps_182 ?_
        exact (K118 _ _ _ _ _ _ hs)
      · replace hs := (if_neg q153).symm.trans hs
        refine ev_aload_n C (x := .ref l0) rfl trivial dX14_keeps_156 ?_
        obtain ⟨x157, e157, hs⟩ := aB hs
        refine ev_get C (ci := 14) (k := 36) rfl wu_14 (by decide) wf_X14_66 (gO_F e157) dX14_keeps_157 ?_
        refine ev_iconst C (v := 0) dX14_keeps_160 (by decide) ?_
        refine ev_iload C rfl dX14_keeps_161 ?_
        obtain ⟨h163, e163, hs⟩ := cN_at hs
        refine ev_callS C (T_X14_puts _ _ _ _ _ _ e163) wc_X14_puts wm_X14_492 wt_X14_puts wz_X14 hy_X14_puts ⟨(Nat.le_of_ble_eq_true rfl), (Nat.le_of_ble_eq_true rfl)⟩ ⟨(Nat.le_refl _), (Nat.le_refl _)⟩ (Nat.le_of_ble_eq_true rfl) rfl dX14_keeps_163 ?_
        refine ev_goto C (tgt := 179) (by decide) dX14_keeps_166 ?_
        refine ev_iinc C (i := 4) (n := 1) (x := l4) (v := l4 + 1) rfl (congrArg (fun z => l4 + z) (show Int32.ofInt 1 = 1 by decide)) (by decide) dX14_keeps_179 ?_
        refine ev_goto C (tgt := 118) (by decide) dX14_keeps_182 ?_
        exact (K118 _ _ _ _ _ _ hs)
    · replace hs := (if_pos q137).symm.trans hs
      refine ev_goto C (tgt := 179) (by decide) dX14_keeps_140 ?_
      refine ev_iinc C (i := 4) (n := 1) (x := l4) (v := l4 + 1) rfl (congrArg (fun z => l4 + z) (show Int32.ofInt 1 = 1 by decide)) (by decide) dX14_keeps_179 ?_
      refine ev_goto C (tgt := 118) (by decide) dX14_keeps_182 ?_
      exact (K118 _ _ _ _ _ _ hs)
theorem t_X14_keeps_118 (C : Cx p l s m args meth c B0 X RX14 "keeps" cX14_keeps 5 none []) {k85 : Nat → Int32 → Int32 → Int32 → aH → aO} (K85 : ∀ (l0 : Nat) (l1 : Int32) (l2 : Int32) (l3 : Int32) (h : aH), k85 l0 l1 l2 l3 h = some (r, h') → Ev p l e { frames := 5, cells := mc, slots := ms, locals := 129 } s m args below meth c D B0 X ws0 r h' mc ms 5 mc ms 85 [some (.ref l0), some (.int l1), some (.int l2), some (.int l3), none] [] h) : ∀ (n : Nat) {l0 : Nat} {l1 : Int32} {l2 : Int32} {l3 : Int32} {l4 : Int32} {h : aH} (hs : s_X14_keeps_118 k85 n l0 l1 l2 l3 l4 h = some (r, h')), Ev p l e { frames := 5, cells := mc, slots := ms, locals := 129 } s m args below meth c D B0 X ws0 r h' mc ms 5 mc ms 118 [some (.ref l0), some (.int l1), some (.int l2), some (.int l3), some (.int l4)] [] h
  | 0, _, _, _, _, _, _, hs => nomatch hs
  | n + 1, _, _, _, _, _, _, hs => t_X14_keeps_118_b C K85 (k118 := s_X14_keeps_118 k85 n) (fun _ _ _ _ _ _ hs => t_X14_keeps_118 C K85 n hs) hs
theorem t_X14_keeps_94_b (C : Cx p l s m args meth c B0 X RX14 "keeps" cX14_keeps 5 none []) {k85 : Nat → Int32 → Int32 → Int32 → aH → aO} (K85 : ∀ (l0 : Nat) (l1 : Int32) (l2 : Int32) (l3 : Int32) (h : aH), k85 l0 l1 l2 l3 h = some (r, h') → Ev p l e { frames := 5, cells := mc, slots := ms, locals := 129 } s m args below meth c D B0 X ws0 r h' mc ms 5 mc ms 85 [some (.ref l0), some (.int l1), some (.int l2), some (.int l3), none] [] h) {k94 : Nat → Int32 → Int32 → Int32 → Int32 → aH → aO} (K94 : ∀ (l0 : Nat) (l1 : Int32) (l2 : Int32) (l3 : Int32) (l4 : Int32) (h : aH), k94 l0 l1 l2 l3 l4 h = some (r, h') → Ev p l e { frames := 5, cells := mc, slots := ms, locals := 129 } s m args below meth c D B0 X ws0 r h' mc ms 5 mc ms 94 [some (.ref l0), some (.int l1), some (.int l2), some (.int l3), some (.int l4)] [] h) {l0 : Nat} {l1 : Int32} {l2 : Int32} {l3 : Int32} {l4 : Int32} {h : aH} (hs : s_X14_keeps_94_b k85 k94 l0 l1 l2 l3 l4 h = some (r, h')) : Ev p l e { frames := 5, cells := mc, slots := ms, locals := 129 } s m args below meth c D B0 X ws0 r h' mc ms 5 mc ms 94 [some (.ref l0), some (.int l1), some (.int l2), some (.int l3), some (.int l4)] [] h := by
  unfold s_X14_keeps_94_b at hs
  refine ev_iload C rfl dX14_keeps_94 ?_
  refine ev_bipush C (v := 13) dX14_keeps_96 (by decide) ?_
  refine ev_icmp_ge C (tgt := 115) (by decide) dX14_keeps_98 (fun q98 => ?_) (fun q98 => ?_)
  · replace hs := (if_pos q98).symm.trans hs
    refine ev_iconst C (v := 0) dX14_keeps_115 (by decide) ?_
    refine ev_istore C (by decide) dX14_keeps_116 ?_
    exact (t_X14_keeps_118 C K85 FU hs)
  · replace hs := (if_neg q98).symm.trans hs
    refine ev_aload_n C (x := .ref l0) rfl trivial dX14_keeps_101 ?_
    obtain ⟨x102, e102, hs⟩ := aB hs
    refine ev_get C (ci := 14) (k := 36) rfl wu_14 (by decide) wf_X14_66 (gO_F e102) dX14_keeps_102 ?_
    refine ev_iload C rfl dX14_keeps_105 ?_
    refine ev_iconst C (v := 0) dX14_keeps_107 (by decide) ?_
    obtain ⟨h108, e108, hs⟩ := aB hs
    refine ev_iast C e108 dX14_keeps_108 ?_
    refine ev_iinc C (i := 4) (n := 1) (x := l4) (v := l4 + 1) rfl (congrArg (fun z => l4 + z) (show Int32.ofInt 1 = 1 by decide)) (by decide) dX14_keeps_109 ?_
    refine ev_goto C (tgt := 94) (by decide) dX14_keeps_112 ?_
    exact (K94 _ _ _ _ _ _ hs)
theorem t_X14_keeps_94 (C : Cx p l s m args meth c B0 X RX14 "keeps" cX14_keeps 5 none []) {k85 : Nat → Int32 → Int32 → Int32 → aH → aO} (K85 : ∀ (l0 : Nat) (l1 : Int32) (l2 : Int32) (l3 : Int32) (h : aH), k85 l0 l1 l2 l3 h = some (r, h') → Ev p l e { frames := 5, cells := mc, slots := ms, locals := 129 } s m args below meth c D B0 X ws0 r h' mc ms 5 mc ms 85 [some (.ref l0), some (.int l1), some (.int l2), some (.int l3), none] [] h) : ∀ (n : Nat) {l0 : Nat} {l1 : Int32} {l2 : Int32} {l3 : Int32} {l4 : Int32} {h : aH} (hs : s_X14_keeps_94 k85 n l0 l1 l2 l3 l4 h = some (r, h')), Ev p l e { frames := 5, cells := mc, slots := ms, locals := 129 } s m args below meth c D B0 X ws0 r h' mc ms 5 mc ms 94 [some (.ref l0), some (.int l1), some (.int l2), some (.int l3), some (.int l4)] [] h
  | 0, _, _, _, _, _, _, hs => nomatch hs
  | n + 1, _, _, _, _, _, _, hs => t_X14_keeps_94_b C K85 (k94 := s_X14_keeps_94 k85 n) (fun _ _ _ _ _ _ hs => t_X14_keeps_94 C K85 n hs) hs
theorem t_X14_keeps_85_b (C : Cx p l s m args meth c B0 X RX14 "keeps" cX14_keeps 5 none [])   {k85 : Nat → Int32 → Int32 → Int32 → aH → aO} (K85 : ∀ (l0 : Nat) (l1 : Int32) (l2 : Int32) (l3 : Int32) (h : aH), k85 l0 l1 l2 l3 h = some (r, h') → Ev p l e { frames := 5, cells := mc, slots := ms, locals := 129 } s m args below meth c D B0 X ws0 r h' mc ms 5 mc ms 85 [some (.ref l0), some (.int l1), some (.int l2), some (.int l3), none] [] h) {l0 : Nat} {l1 : Int32} {l2 : Int32} {l3 : Int32} {h : aH} (hs : s_X14_keeps_85_b  k85 l0 l1 l2 l3 h = some (r, h')) : Ev p l e { frames := 5, cells := mc, slots := ms, locals := 129 } s m args below meth c D B0 X ws0 r h' mc ms 5 mc ms 85 [some (.ref l0), some (.int l1), some (.int l2), some (.int l3), none] [] h := by
  unfold s_X14_keeps_85_b at hs
  refine ev_iload_n C rfl dX14_keeps_85 ?_
  refine ev_if_eq C (tgt := 221) (by decide) dX14_keeps_86 (fun q86 => ?_) (fun q86 => ?_)
  · replace hs := (if_pos q86).symm.trans hs
    refine ev_iconst C (v := 0) dX14_keeps_221 (by decide) ?_
    refine ev_istore_n C (by decide) dX14_keeps_222 ?_
    exact Ev.keep [true, true, false, true, true] (t_X14_keeps_223 C  FU hs)
  · replace hs := (if_neg q86).symm.trans hs
    refine ev_iconst C (v := 0) dX14_keeps_89 (by decide) ?_
    refine ev_istore_n C (by decide) dX14_keeps_90 ?_
    refine ev_iconst C (v := 0) dX14_keeps_91 (by decide) ?_
    refine ev_istore C (by decide) dX14_keeps_92 ?_
    exact (t_X14_keeps_94 C K85 FU hs)
theorem t_X14_keeps_85 (C : Cx p l s m args meth c B0 X RX14 "keeps" cX14_keeps 5 none [])   : ∀ (n : Nat) {l0 : Nat} {l1 : Int32} {l2 : Int32} {l3 : Int32} {h : aH} (hs : s_X14_keeps_85  n l0 l1 l2 l3 h = some (r, h')), Ev p l e { frames := 5, cells := mc, slots := ms, locals := 129 } s m args below meth c D B0 X ws0 r h' mc ms 5 mc ms 85 [some (.ref l0), some (.int l1), some (.int l2), some (.int l3), none] [] h
  | 0, _, _, _, _, _, hs => nomatch hs
  | n + 1, _, _, _, _, _, hs => t_X14_keeps_85_b C  (k85 := s_X14_keeps_85  n) (fun _ _ _ _ _ hs => t_X14_keeps_85 C  n hs) hs
theorem t_X14_keeps_56 (C : Cx p l s m args meth c B0 X RX14 "keeps" cX14_keeps 5 none []) {k28 : Nat → Int32 → Int32 → aH → aO} (K28 : ∀ (l0 : Nat) (l1 : Int32) (l2 : Int32) (h : aH), k28 l0 l1 l2 h = some (r, h') → Ev p l e { frames := 5, cells := mc, slots := ms, locals := 129 } s m args below meth c D B0 X ws0 r h' mc ms 5 mc ms 28 [some (.ref l0), some (.int l1), some (.int l2), none, none] [] h) {l0 : Nat} {l1 : Int32} {l2 : Int32} {s0 : Int32} {s1 : Int32} {s2 : Nat} {h : aH} (hs : s_X14_keeps_56 k28 l0 l1 l2 s0 s1 s2 h = some (r, h')) : Ev p l e { frames := 5, cells := mc, slots := ms, locals := 129 } s m args below meth c D B0 X ws0 r h' mc ms 5 mc ms 56 [some (.ref l0), some (.int l1), some (.int l2), none, none] [.int s0, .int s1, .ref s2] h := by
  unfold s_X14_keeps_56 at hs
  obtain ⟨h56, e56, hs⟩ := aB hs
  refine ev_iast C e56 dX14_keeps_56 ?_
  refine ev_aload_n C (x := .ref l0) rfl trivial dX14_keeps_57 ?_
  obtain ⟨x58, e58, hs⟩ := aB hs
  refine ev_get C (ci := 14) (k := 27) rfl wu_14 (by decide) wf_X14_37 (gO_F e58) dX14_keeps_58 ?_
  refine ev_iload_n C rfl dX14_keeps_61 ?_
  obtain ⟨x62, e62, hs⟩ := aB hs
  refine ev_zald C e62 dX14_keeps_62 ?_
  refine ev_if_eq C (tgt := 75) (by decide) dX14_keeps_63 (fun q63 => ?_) (fun q63 => ?_)
  · replace hs := (if_pos q63).symm.trans hs
    refine ev_iinc C (i := 2) (n := 1) (x := l2) (v := l2 + 1) rfl (congrArg (fun z => l2 + z) (show Int32.ofInt 1 = 1 by decide)) (by decide) dX14_keeps_75 ?_
    refine ev_goto C (tgt := 28) (by decide) dX14_keeps_78 ?_
    exact (K28 _ _ _ _ hs)
  · replace hs := (if_neg q63).symm.trans hs
    refine ev_aload_n C (x := .ref l0) rfl trivial dX14_keeps_66 ?_
    obtain ⟨x67, e67, hs⟩ := aB hs
    refine ev_get C (ci := 14) (k := 35) rfl wu_14 (by decide) wf_X14_63 (gO_F e67) dX14_keeps_67 ?_
    refine ev_iconst C (v := 0) dX14_keeps_70 (by decide) ?_
    refine ev_iload_n C rfl dX14_keeps_71 ?_
    obtain ⟨h72, e72, hs⟩ := cN_at hs
    refine ev_callS C (T_X14_puts _ _ _ _ _ _ e72) wc_X14_puts wm_X14_492 wt_X14_puts wz_X14 hy_X14_puts ⟨(Nat.le_of_ble_eq_true rfl), (Nat.le_of_ble_eq_true rfl)⟩ ⟨(Nat.le_refl _), (Nat.le_refl _)⟩ (Nat.le_of_ble_eq_true rfl) rfl dX14_keeps_72 ?_
    refine ev_iinc C (i := 2) (n := 1) (x := l2) (v := l2 + 1) rfl (congrArg (fun z => l2 + z) (show Int32.ofInt 1 = 1 by decide)) (by decide) dX14_keeps_75 ?_
    refine ev_goto C (tgt := 28) (by decide) dX14_keeps_78 ?_
    exact (K28 _ _ _ _ hs)
theorem t_X14_keeps_28_b (C : Cx p l s m args meth c B0 X RX14 "keeps" cX14_keeps 5 none [])   {k28 : Nat → Int32 → Int32 → aH → aO} (K28 : ∀ (l0 : Nat) (l1 : Int32) (l2 : Int32) (h : aH), k28 l0 l1 l2 h = some (r, h') → Ev p l e { frames := 5, cells := mc, slots := ms, locals := 129 } s m args below meth c D B0 X ws0 r h' mc ms 5 mc ms 28 [some (.ref l0), some (.int l1), some (.int l2), none, none] [] h) {l0 : Nat} {l1 : Int32} {l2 : Int32} {h : aH} (hs : s_X14_keeps_28_b  k28 l0 l1 l2 h = some (r, h')) : Ev p l e { frames := 5, cells := mc, slots := ms, locals := 129 } s m args below meth c D B0 X ws0 r h' mc ms 5 mc ms 28 [some (.ref l0), some (.int l1), some (.int l2), none, none] [] h := by
  unfold s_X14_keeps_28_b at hs
  refine ev_iload_n C rfl dX14_keeps_28 ?_
  refine ev_aload_n C (x := .ref l0) rfl trivial dX14_keeps_29 ?_
  obtain ⟨x30, e30, hs⟩ := aB hs
  refine ev_get C (ci := 14) (k := 20) rfl wu_14 (by decide) wf_X14_379 (gI_F e30) dX14_keeps_30 ?_
  refine ev_icmp_ge C (tgt := 81) (by decide) dX14_keeps_33 (fun q33 => ?_) (fun q33 => ?_)
  · replace hs := (if_pos q33).symm.trans hs
    refine ev_iconst C (v := 1) dX14_keeps_81 (by decide) ?_
    refine ev_istore_n C (by decide) dX14_keeps_82 ?_
    refine ev_iconst C (v := 1) dX14_keeps_83 (by decide) ?_
    refine ev_istore_n C (by decide) dX14_keeps_84 ?_
    exact (t_X14_keeps_85 C  FU hs)
  · replace hs := (if_neg q33).symm.trans hs
    refine ev_aload_n C (x := .ref l0) rfl trivial dX14_keeps_36 ?_
    obtain ⟨x37, e37, hs⟩ := aB hs
    refine ev_get C (ci := 14) (k := 37) rfl wu_14 (by decide) wf_X14_69 (gO_F e37) dX14_keeps_37 ?_
    refine ev_iload_n C rfl dX14_keeps_40 ?_
    refine ev_aload_n C (x := .ref l0) rfl trivial dX14_keeps_41 ?_
    obtain ⟨x42, e42, hs⟩ := aB hs
    refine ev_get C (ci := 14) (k := 27) rfl wu_14 (by decide) wf_X14_37 (gO_F e42) dX14_keeps_42 ?_
    refine ev_iload_n C rfl dX14_keeps_45 ?_
    obtain ⟨x46, e46, hs⟩ := aB hs
    refine ev_zald C e46 dX14_keeps_46 ?_
    refine ev_if_eq C (tgt := 54) (by decide) dX14_keeps_47 (fun q47 => ?_) (fun q47 => ?_)
    · replace hs := (if_pos q47).symm.trans hs
      refine ev_bipush C (v := (-2)) dX14_keeps_54 (by decide) ?_
      exact (t_X14_keeps_56 C K28 hs)
    · replace hs := (if_neg q47).symm.trans hs
      refine ev_iconst C (v := 0) dX14_keeps_50 (by decide) ?_
      refine ev_goto C (tgt := 56) (by decide) dX14_keeps_51 ?_
      exact (t_X14_keeps_56 C K28 hs)
theorem t_X14_keeps_28 (C : Cx p l s m args meth c B0 X RX14 "keeps" cX14_keeps 5 none [])   : ∀ (n : Nat) {l0 : Nat} {l1 : Int32} {l2 : Int32} {h : aH} (hs : s_X14_keeps_28  n l0 l1 l2 h = some (r, h')), Ev p l e { frames := 5, cells := mc, slots := ms, locals := 129 } s m args below meth c D B0 X ws0 r h' mc ms 5 mc ms 28 [some (.ref l0), some (.int l1), some (.int l2), none, none] [] h
  | 0, _, _, _, _, hs => nomatch hs
  | n + 1, _, _, _, _, hs => t_X14_keeps_28_b C  (k28 := s_X14_keeps_28  n) (fun _ _ _ _ hs => t_X14_keeps_28 C  n hs) hs
theorem t_X14_keeps_7_b (C : Cx p l s m args meth c B0 X RX14 "keeps" cX14_keeps 5 none [])   {k7 : Nat → Int32 → Int32 → aH → aO} (K7 : ∀ (l0 : Nat) (l1 : Int32) (l2 : Int32) (h : aH), k7 l0 l1 l2 h = some (r, h') → Ev p l e { frames := 5, cells := mc, slots := ms, locals := 129 } s m args below meth c D B0 X ws0 r h' mc ms 5 mc ms 7 [some (.ref l0), some (.int l1), some (.int l2), none, none] [] h) {l0 : Nat} {l1 : Int32} {l2 : Int32} {h : aH} (hs : s_X14_keeps_7_b  k7 l0 l1 l2 h = some (r, h')) : Ev p l e { frames := 5, cells := mc, slots := ms, locals := 129 } s m args below meth c D B0 X ws0 r h' mc ms 5 mc ms 7 [some (.ref l0), some (.int l1), some (.int l2), none, none] [] h := by
  unfold s_X14_keeps_7_b at hs
  refine ev_iload_n C rfl dX14_keeps_7 ?_
  refine ev_bipush C (v := 13) dX14_keeps_8 (by decide) ?_
  refine ev_icmp_ge C (tgt := 26) (by decide) dX14_keeps_10 (fun q10 => ?_) (fun q10 => ?_)
  · replace hs := (if_pos q10).symm.trans hs
    refine ev_iconst C (v := 0) dX14_keeps_26 (by decide) ?_
    refine ev_istore_n C (by decide) dX14_keeps_27 ?_
    exact (t_X14_keeps_28 C  FU hs)
  · replace hs := (if_neg q10).symm.trans hs
    refine ev_aload_n C (x := .ref l0) rfl trivial dX14_keeps_13 ?_
    obtain ⟨x14, e14, hs⟩ := aB hs
    refine ev_get C (ci := 14) (k := 35) rfl wu_14 (by decide) wf_X14_63 (gO_F e14) dX14_keeps_14 ?_
    refine ev_iload_n C rfl dX14_keeps_17 ?_
    refine ev_iconst C (v := 0) dX14_keeps_18 (by decide) ?_
    obtain ⟨h19, e19, hs⟩ := aB hs
    refine ev_iast C e19 dX14_keeps_19 ?_
    refine ev_iinc C (i := 2) (n := 1) (x := l2) (v := l2 + 1) rfl (congrArg (fun z => l2 + z) (show Int32.ofInt 1 = 1 by decide)) (by decide) dX14_keeps_20 ?_
    refine ev_goto C (tgt := 7) (by decide) dX14_keeps_23 ?_
    exact (K7 _ _ _ _ hs)
theorem t_X14_keeps_7 (C : Cx p l s m args meth c B0 X RX14 "keeps" cX14_keeps 5 none [])   : ∀ (n : Nat) {l0 : Nat} {l1 : Int32} {l2 : Int32} {h : aH} (hs : s_X14_keeps_7  n l0 l1 l2 h = some (r, h')), Ev p l e { frames := 5, cells := mc, slots := ms, locals := 129 } s m args below meth c D B0 X ws0 r h' mc ms 5 mc ms 7 [some (.ref l0), some (.int l1), some (.int l2), none, none] [] h
  | 0, _, _, _, _, hs => nomatch hs
  | n + 1, _, _, _, _, hs => t_X14_keeps_7_b C  (k7 := s_X14_keeps_7  n) (fun _ _ _ _ hs => t_X14_keeps_7 C  n hs) hs
theorem hy_X14_keeps : yX14_keeps.cls ≠ "java/lang/invoke/MethodHandle" ∧ yX14_keeps.cls ≠ "java/lang/invoke/VarHandle" ∧ (parseMethodDescriptor yX14_keeps.desc).map (fun d => d.parameters.length) = some 1 := by decide +kernel
theorem T_X14_keeps (o : Nat) (a1 : Int32) (h : aH) (r : aR) (h' : aH) (hs : s_X14_keeps o a1 h = some (r, h')) : Mt yX14_keeps (Cond.code yX14_keeps cX14_keeps 5 none :: aTB) 5 129 0 0 [.ref o, .int a1] h r h' := by
  unfold s_X14_keeps at hs
  refine Mt_of (k := 3) (by decide) rfl (fun p l e s m args below meth c D B0 X ws0 C => ?_)
  show Ev p l e { frames := 5, cells := 0, slots := 0, locals := 129 } s m args below meth c D B0 X ws0 r h' 0 0 5 0 0 0 [some (.ref o), some (.int a1), none, none, none] [] h
  refine ev_aload_n C (x := .ref o) rfl trivial dX14_keeps_0 ?_
  refine ev_iload_n C rfl dX14_keeps_1 ?_
  obtain ⟨eo2, hs⟩ := kO_at hs
  obtain ⟨h2, e2, hs⟩ := cN_at hs
  refine ev_callV C (T_X14_spreadsOut _ _ _ _ _ e2) (ci := 14) rfl eo2 wc_X14_spreadsOut wm_X14_500 wi_X14_spreadsOut ws_X14_spreadsOut wz_X14 hy_X14_spreadsOut ⟨(Nat.le_of_ble_eq_true rfl), (Nat.le_of_ble_eq_true rfl)⟩ ⟨(Nat.le_refl _), (Nat.le_refl _)⟩ (Nat.le_of_ble_eq_true rfl) rfl dX14_keeps_2 ?_
  refine ev_iconst C (v := 0) dX14_keeps_5 (by decide) ?_
  refine ev_istore_n C (by decide) dX14_keeps_6 ?_
  exact (t_X14_keeps_7 C  FU hs)
end
-- X14_reaches
theorem dX14_reaches_0 : decode cX14_reaches 0 = .ok (.iconst 0, 1) := by decide +kernel
theorem dX14_reaches_1 : decode cX14_reaches 1 = .ok (.istore_n 1, 1) := by decide +kernel
theorem dX14_reaches_2 : decode cX14_reaches 2 = .ok (.iload_n 1, 1) := by decide +kernel
theorem dX14_reaches_3 : decode cX14_reaches 3 = .ok (.bipush 13, 2) := by decide +kernel
theorem dX14_reaches_5 : decode cX14_reaches 5 = .ok (.if_icmp .ge 16, 3) := by decide +kernel
theorem dX14_reaches_8 : decode cX14_reaches 8 = .ok (.aload_n 0, 1) := by decide +kernel
theorem dX14_reaches_9 : decode cX14_reaches 9 = .ok (.getfield 63, 3) := by decide +kernel
theorem dX14_reaches_12 : decode cX14_reaches 12 = .ok (.iload_n 1, 1) := by decide +kernel
theorem dX14_reaches_13 : decode cX14_reaches 13 = .ok (.iconst 0, 1) := by decide +kernel
theorem dX14_reaches_14 : decode cX14_reaches 14 = .ok (.iastore, 1) := by decide +kernel
theorem dX14_reaches_15 : decode cX14_reaches 15 = .ok (.iinc 1 1, 3) := by decide +kernel
theorem dX14_reaches_18 : decode cX14_reaches 18 = .ok (.goto (-16), 3) := by decide +kernel
theorem dX14_reaches_21 : decode cX14_reaches 21 = .ok (.iconst 0, 1) := by decide +kernel
theorem dX14_reaches_22 : decode cX14_reaches 22 = .ok (.istore_n 1, 1) := by decide +kernel
theorem dX14_reaches_23 : decode cX14_reaches 23 = .ok (.iload_n 1, 1) := by decide +kernel
theorem dX14_reaches_24 : decode cX14_reaches 24 = .ok (.aload_n 0, 1) := by decide +kernel
theorem dX14_reaches_25 : decode cX14_reaches 25 = .ok (.getfield 379, 3) := by decide +kernel
theorem dX14_reaches_28 : decode cX14_reaches 28 = .ok (.if_icmp .ge 65, 3) := by decide +kernel
theorem dX14_reaches_31 : decode cX14_reaches 31 = .ok (.aload_n 0, 1) := by decide +kernel
theorem dX14_reaches_32 : decode cX14_reaches 32 = .ok (.getfield 75, 3) := by decide +kernel
theorem dX14_reaches_35 : decode cX14_reaches 35 = .ok (.iload_n 1, 1) := by decide +kernel
theorem dX14_reaches_36 : decode cX14_reaches 36 = .ok (.aload_n 0, 1) := by decide +kernel
theorem dX14_reaches_37 : decode cX14_reaches 37 = .ok (.getfield 37, 3) := by decide +kernel
theorem dX14_reaches_40 : decode cX14_reaches 40 = .ok (.iload_n 1, 1) := by decide +kernel
theorem dX14_reaches_41 : decode cX14_reaches 41 = .ok (.baload, 1) := by decide +kernel
theorem dX14_reaches_42 : decode cX14_reaches 42 = .ok (.ifCond .eq 16, 3) := by decide +kernel
theorem dX14_reaches_45 : decode cX14_reaches 45 = .ok (.aload_n 0, 1) := by decide +kernel
theorem dX14_reaches_46 : decode cX14_reaches 46 = .ok (.getfield 41, 3) := by decide +kernel
theorem dX14_reaches_49 : decode cX14_reaches 49 = .ok (.iload_n 1, 1) := by decide +kernel
theorem dX14_reaches_50 : decode cX14_reaches 50 = .ok (.baload, 1) := by decide +kernel
theorem dX14_reaches_51 : decode cX14_reaches 51 = .ok (.ifCond .eq 7, 3) := by decide +kernel
theorem dX14_reaches_54 : decode cX14_reaches 54 = .ok (.iconst 0, 1) := by decide +kernel
theorem dX14_reaches_55 : decode cX14_reaches 55 = .ok (.goto 5, 3) := by decide +kernel
theorem dX14_reaches_58 : decode cX14_reaches 58 = .ok (.bipush (-2), 2) := by decide +kernel
theorem dX14_reaches_60 : decode cX14_reaches 60 = .ok (.iastore, 1) := by decide +kernel
theorem dX14_reaches_61 : decode cX14_reaches 61 = .ok (.aload_n 0, 1) := by decide +kernel
theorem dX14_reaches_62 : decode cX14_reaches 62 = .ok (.getfield 78, 3) := by decide +kernel
theorem dX14_reaches_65 : decode cX14_reaches 65 = .ok (.iload_n 1, 1) := by decide +kernel
theorem dX14_reaches_66 : decode cX14_reaches 66 = .ok (.bipush (-2), 2) := by decide +kernel
theorem dX14_reaches_68 : decode cX14_reaches 68 = .ok (.iastore, 1) := by decide +kernel
theorem dX14_reaches_69 : decode cX14_reaches 69 = .ok (.aload_n 0, 1) := by decide +kernel
theorem dX14_reaches_70 : decode cX14_reaches 70 = .ok (.getfield 75, 3) := by decide +kernel
theorem dX14_reaches_73 : decode cX14_reaches 73 = .ok (.iload_n 1, 1) := by decide +kernel
theorem dX14_reaches_74 : decode cX14_reaches 74 = .ok (.iaload, 1) := by decide +kernel
theorem dX14_reaches_75 : decode cX14_reaches 75 = .ok (.ifCond .ne 12, 3) := by decide +kernel
theorem dX14_reaches_78 : decode cX14_reaches 78 = .ok (.aload_n 0, 1) := by decide +kernel
theorem dX14_reaches_79 : decode cX14_reaches 79 = .ok (.getfield 63, 3) := by decide +kernel
theorem dX14_reaches_82 : decode cX14_reaches 82 = .ok (.iconst 0, 1) := by decide +kernel
theorem dX14_reaches_83 : decode cX14_reaches 83 = .ok (.iload_n 1, 1) := by decide +kernel
theorem dX14_reaches_84 : decode cX14_reaches 84 = .ok (.invokestatic 492, 3) := by decide +kernel
theorem dX14_reaches_87 : decode cX14_reaches 87 = .ok (.iinc 1 1, 3) := by decide +kernel
theorem dX14_reaches_90 : decode cX14_reaches 90 = .ok (.goto (-67), 3) := by decide +kernel
theorem dX14_reaches_93 : decode cX14_reaches 93 = .ok (.iconst 1, 1) := by decide +kernel
theorem dX14_reaches_94 : decode cX14_reaches 94 = .ok (.istore_n 1, 1) := by decide +kernel
theorem dX14_reaches_95 : decode cX14_reaches 95 = .ok (.iconst 1, 1) := by decide +kernel
theorem dX14_reaches_96 : decode cX14_reaches 96 = .ok (.istore_n 2, 1) := by decide +kernel
theorem dX14_reaches_97 : decode cX14_reaches 97 = .ok (.iload_n 1, 1) := by decide +kernel
theorem dX14_reaches_98 : decode cX14_reaches 98 = .ok (.ifCond .eq 185, 3) := by decide +kernel
theorem dX14_reaches_101 : decode cX14_reaches 101 = .ok (.iconst 0, 1) := by decide +kernel
theorem dX14_reaches_102 : decode cX14_reaches 102 = .ok (.istore_n 1, 1) := by decide +kernel
theorem dX14_reaches_103 : decode cX14_reaches 103 = .ok (.iconst 0, 1) := by decide +kernel
theorem dX14_reaches_104 : decode cX14_reaches 104 = .ok (.istore_n 3, 1) := by decide +kernel
theorem dX14_reaches_105 : decode cX14_reaches 105 = .ok (.iload_n 3, 1) := by decide +kernel
theorem dX14_reaches_106 : decode cX14_reaches 106 = .ok (.bipush 13, 2) := by decide +kernel
theorem dX14_reaches_108 : decode cX14_reaches 108 = .ok (.if_icmp .ge 21, 3) := by decide +kernel
theorem dX14_reaches_111 : decode cX14_reaches 111 = .ok (.aload_n 0, 1) := by decide +kernel
theorem dX14_reaches_112 : decode cX14_reaches 112 = .ok (.getfield 66, 3) := by decide +kernel
theorem dX14_reaches_115 : decode cX14_reaches 115 = .ok (.iload_n 3, 1) := by decide +kernel
theorem dX14_reaches_116 : decode cX14_reaches 116 = .ok (.aload_n 0, 1) := by decide +kernel
theorem dX14_reaches_117 : decode cX14_reaches 117 = .ok (.getfield 63, 3) := by decide +kernel
theorem dX14_reaches_120 : decode cX14_reaches 120 = .ok (.iload_n 3, 1) := by decide +kernel
theorem dX14_reaches_121 : decode cX14_reaches 121 = .ok (.iaload, 1) := by decide +kernel
theorem dX14_reaches_122 : decode cX14_reaches 122 = .ok (.iastore, 1) := by decide +kernel
theorem dX14_reaches_123 : decode cX14_reaches 123 = .ok (.iinc 3 1, 3) := by decide +kernel
theorem dX14_reaches_126 : decode cX14_reaches 126 = .ok (.goto (-21), 3) := by decide +kernel
theorem dX14_reaches_129 : decode cX14_reaches 129 = .ok (.iconst 0, 1) := by decide +kernel
theorem dX14_reaches_130 : decode cX14_reaches 130 = .ok (.istore_n 3, 1) := by decide +kernel
theorem dX14_reaches_131 : decode cX14_reaches 131 = .ok (.iload_n 3, 1) := by decide +kernel
theorem dX14_reaches_132 : decode cX14_reaches 132 = .ok (.aload_n 0, 1) := by decide +kernel
theorem dX14_reaches_133 : decode cX14_reaches 133 = .ok (.getfield 379, 3) := by decide +kernel
theorem dX14_reaches_136 : decode cX14_reaches 136 = .ok (.if_icmp .ge 115, 3) := by decide +kernel
theorem dX14_reaches_139 : decode cX14_reaches 139 = .ok (.aload_n 0, 1) := by decide +kernel
theorem dX14_reaches_140 : decode cX14_reaches 140 = .ok (.getfield 37, 3) := by decide +kernel
theorem dX14_reaches_143 : decode cX14_reaches 143 = .ok (.iload_n 3, 1) := by decide +kernel
theorem dX14_reaches_144 : decode cX14_reaches 144 = .ok (.baload, 1) := by decide +kernel
theorem dX14_reaches_145 : decode cX14_reaches 145 = .ok (.ifCond .eq 100, 3) := by decide +kernel
theorem dX14_reaches_148 : decode cX14_reaches 148 = .ok (.aload_n 0, 1) := by decide +kernel
theorem dX14_reaches_149 : decode cX14_reaches 149 = .ok (.getfield 75, 3) := by decide +kernel
theorem dX14_reaches_152 : decode cX14_reaches 152 = .ok (.iload_n 3, 1) := by decide +kernel
theorem dX14_reaches_153 : decode cX14_reaches 153 = .ok (.iaload, 1) := by decide +kernel
theorem dX14_reaches_154 : decode cX14_reaches 154 = .ok (.bipush (-2), 2) := by decide +kernel
theorem dX14_reaches_156 : decode cX14_reaches 156 = .ok (.if_icmp .eq 6, 3) := by decide +kernel
theorem dX14_reaches_159 : decode cX14_reaches 159 = .ok (.goto 86, 3) := by decide +kernel
theorem dX14_reaches_162 : decode cX14_reaches 162 = .ok (.iconst 0, 1) := by decide +kernel
theorem dX14_reaches_163 : decode cX14_reaches 163 = .ok (.istore 4, 2) := by decide +kernel
theorem dX14_reaches_165 : decode cX14_reaches 165 = .ok (.iload 4, 2) := by decide +kernel
theorem dX14_reaches_167 : decode cX14_reaches 167 = .ok (.aload_n 0, 1) := by decide +kernel
theorem dX14_reaches_168 : decode cX14_reaches 168 = .ok (.getfield 382, 3) := by decide +kernel
theorem dX14_reaches_171 : decode cX14_reaches 171 = .ok (.if_icmp .ge 42, 3) := by decide +kernel
theorem dX14_reaches_174 : decode cX14_reaches 174 = .ok (.aload_n 0, 1) := by decide +kernel
theorem dX14_reaches_175 : decode cX14_reaches 175 = .ok (.getfield 78, 3) := by decide +kernel
theorem dX14_reaches_178 : decode cX14_reaches 178 = .ok (.iload_n 3, 1) := by decide +kernel
theorem dX14_reaches_179 : decode cX14_reaches 179 = .ok (.iaload, 1) := by decide +kernel
theorem dX14_reaches_180 : decode cX14_reaches 180 = .ok (.bipush (-2), 2) := by decide +kernel
theorem dX14_reaches_182 : decode cX14_reaches 182 = .ok (.if_icmp .ne 31, 3) := by decide +kernel
theorem dX14_reaches_185 : decode cX14_reaches 185 = .ok (.aload_n 0, 1) := by decide +kernel
theorem dX14_reaches_186 : decode cX14_reaches 186 = .ok (.iload_n 3, 1) := by decide +kernel
theorem dX14_reaches_187 : decode cX14_reaches 187 = .ok (.iload 4, 2) := by decide +kernel
theorem dX14_reaches_189 : decode cX14_reaches 189 = .ok (.aload_n 0, 1) := by decide +kernel
theorem dX14_reaches_190 : decode cX14_reaches 190 = .ok (.getfield 63, 3) := by decide +kernel
theorem dX14_reaches_193 : decode cX14_reaches 193 = .ok (.invokevirtual 496, 3) := by decide +kernel
theorem dX14_reaches_196 : decode cX14_reaches 196 = .ok (.ifCond .eq 11, 3) := by decide +kernel
theorem dX14_reaches_199 : decode cX14_reaches 199 = .ok (.aload_n 0, 1) := by decide +kernel
theorem dX14_reaches_200 : decode cX14_reaches 200 = .ok (.getfield 78, 3) := by decide +kernel
theorem dX14_reaches_203 : decode cX14_reaches 203 = .ok (.iload_n 3, 1) := by decide +kernel
theorem dX14_reaches_204 : decode cX14_reaches 204 = .ok (.iload 4, 2) := by decide +kernel
theorem dX14_reaches_206 : decode cX14_reaches 206 = .ok (.iastore, 1) := by decide +kernel
theorem dX14_reaches_207 : decode cX14_reaches 207 = .ok (.iinc 4 1, 3) := by decide +kernel
theorem dX14_reaches_210 : decode cX14_reaches 210 = .ok (.goto (-45), 3) := by decide +kernel
theorem dX14_reaches_213 : decode cX14_reaches 213 = .ok (.aload_n 0, 1) := by decide +kernel
theorem dX14_reaches_214 : decode cX14_reaches 214 = .ok (.getfield 78, 3) := by decide +kernel
theorem dX14_reaches_217 : decode cX14_reaches 217 = .ok (.iload_n 3, 1) := by decide +kernel
theorem dX14_reaches_218 : decode cX14_reaches 218 = .ok (.iaload, 1) := by decide +kernel
theorem dX14_reaches_219 : decode cX14_reaches 219 = .ok (.bipush (-2), 2) := by decide +kernel
theorem dX14_reaches_221 : decode cX14_reaches 221 = .ok (.if_icmp .ne 6, 3) := by decide +kernel
theorem dX14_reaches_224 : decode cX14_reaches 224 = .ok (.goto 21, 3) := by decide +kernel
theorem dX14_reaches_227 : decode cX14_reaches 227 = .ok (.aload_n 0, 1) := by decide +kernel
theorem dX14_reaches_228 : decode cX14_reaches 228 = .ok (.getfield 75, 3) := by decide +kernel
theorem dX14_reaches_231 : decode cX14_reaches 231 = .ok (.iload_n 3, 1) := by decide +kernel
theorem dX14_reaches_232 : decode cX14_reaches 232 = .ok (.iload_n 2, 1) := by decide +kernel
theorem dX14_reaches_233 : decode cX14_reaches 233 = .ok (.iastore, 1) := by decide +kernel
theorem dX14_reaches_234 : decode cX14_reaches 234 = .ok (.aload_n 0, 1) := by decide +kernel
theorem dX14_reaches_235 : decode cX14_reaches 235 = .ok (.getfield 66, 3) := by decide +kernel
theorem dX14_reaches_238 : decode cX14_reaches 238 = .ok (.iconst 0, 1) := by decide +kernel
theorem dX14_reaches_239 : decode cX14_reaches 239 = .ok (.iload_n 3, 1) := by decide +kernel
theorem dX14_reaches_240 : decode cX14_reaches 240 = .ok (.invokestatic 492, 3) := by decide +kernel
theorem dX14_reaches_243 : decode cX14_reaches 243 = .ok (.iconst 1, 1) := by decide +kernel
theorem dX14_reaches_244 : decode cX14_reaches 244 = .ok (.istore_n 1, 1) := by decide +kernel
theorem dX14_reaches_245 : decode cX14_reaches 245 = .ok (.iinc 3 1, 3) := by decide +kernel
theorem dX14_reaches_248 : decode cX14_reaches 248 = .ok (.goto (-117), 3) := by decide +kernel
theorem dX14_reaches_251 : decode cX14_reaches 251 = .ok (.iconst 0, 1) := by decide +kernel
theorem dX14_reaches_252 : decode cX14_reaches 252 = .ok (.istore_n 3, 1) := by decide +kernel
theorem dX14_reaches_253 : decode cX14_reaches 253 = .ok (.iload_n 3, 1) := by decide +kernel
theorem dX14_reaches_254 : decode cX14_reaches 254 = .ok (.bipush 13, 2) := by decide +kernel
theorem dX14_reaches_256 : decode cX14_reaches 256 = .ok (.if_icmp .ge 21, 3) := by decide +kernel
theorem dX14_reaches_259 : decode cX14_reaches 259 = .ok (.aload_n 0, 1) := by decide +kernel
theorem dX14_reaches_260 : decode cX14_reaches 260 = .ok (.getfield 63, 3) := by decide +kernel
theorem dX14_reaches_263 : decode cX14_reaches 263 = .ok (.iload_n 3, 1) := by decide +kernel
theorem dX14_reaches_264 : decode cX14_reaches 264 = .ok (.aload_n 0, 1) := by decide +kernel
theorem dX14_reaches_265 : decode cX14_reaches 265 = .ok (.getfield 66, 3) := by decide +kernel
theorem dX14_reaches_268 : decode cX14_reaches 268 = .ok (.iload_n 3, 1) := by decide +kernel
theorem dX14_reaches_269 : decode cX14_reaches 269 = .ok (.iaload, 1) := by decide +kernel
theorem dX14_reaches_270 : decode cX14_reaches 270 = .ok (.iastore, 1) := by decide +kernel
theorem dX14_reaches_271 : decode cX14_reaches 271 = .ok (.iinc 3 1, 3) := by decide +kernel
theorem dX14_reaches_274 : decode cX14_reaches 274 = .ok (.goto (-21), 3) := by decide +kernel
theorem dX14_reaches_277 : decode cX14_reaches 277 = .ok (.iinc 2 1, 3) := by decide +kernel
theorem dX14_reaches_280 : decode cX14_reaches 280 = .ok (.goto (-183), 3) := by decide +kernel
theorem dX14_reaches_283 : decode cX14_reaches 283 = .ok (.return_, 1) := by decide +kernel
def s_X14_reaches_253_b (k97 : Nat → Int32 → Int32 → aH → aO) (k253 : Nat → Int32 → Int32 → Int32 → aH → aO) (l0 : Nat) (l1 : Int32) (l2 : Int32) (l3 : Int32) (h : aH) : aO :=
  if 13 ≤ l3 then (k97 l0 l1 (l2 + 1) h) else ((gO h (.ref l0) 14 35).bind fun x260 => (gO h (.ref l0) 14 36).bind fun x265 => (ldI .int h (.ref x265) l3).bind fun x269 => (stI h (.ref x260) l3 x269).bind fun h270 => k253 l0 l1 l2 (l3 + 1) h270)
def s_X14_reaches_253 (k97 : Nat → Int32 → Int32 → aH → aO) (n : Nat) : Nat → Int32 → Int32 → Int32 → aH → aO := lpF (fun _ _ _ _ _ => none) (s_X14_reaches_253_b k97) n
def s_X14_reaches_213 (k97 : Nat → Int32 → Int32 → aH → aO) (k131 : Nat → Int32 → Int32 → Int32 → aH → aO) (l0 : Nat) (l1 : Int32) (l2 : Int32) (l3 : Int32) (h : aH) : aO :=
  (gO h (.ref l0) 14 40).bind fun x214 => (ldI .int h (.ref x214) l3).bind fun x218 => if x218 = (-2) then (k131 l0 l1 l2 (l3 + 1) h) else ((gO h (.ref l0) 14 39).bind fun x228 => (stI h (.ref x228) l3 l2).bind fun h233 => (gO h233 (.ref l0) 14 36).bind fun x235 => cN (s_X14_puts x235 0 l3 h233) fun h240 => k131 l0 1 l2 (l3 + 1) h240)
def s_X14_reaches_165_b (k97 : Nat → Int32 → Int32 → aH → aO) (k131 : Nat → Int32 → Int32 → Int32 → aH → aO) (k165 : Nat → Int32 → Int32 → Int32 → Int32 → aH → aO) (l0 : Nat) (l1 : Int32) (l2 : Int32) (l3 : Int32) (l4 : Int32) (h : aH) : aO :=
  (gI h (.ref l0) 14 21).bind fun x168 => if x168 ≤ l4 then (s_X14_reaches_213 k97 k131 l0 l1 l2 l3 h) else ((gO h (.ref l0) 14 40).bind fun x175 => (ldI .int h (.ref x175) l3).bind fun x179 => if x179 = (-2) then ((gO h (.ref l0) 14 35).bind fun x190 => kO h l0 14 (cI (s_X14_leadsInto l0 l3 l4 x190 h) fun x193 h193 => if x193 = 0 then (k165 l0 l1 l2 l3 (l4 + 1) h193) else ((gO h193 (.ref l0) 14 40).bind fun x200 => (stI h193 (.ref x200) l3 l4).bind fun h206 => k165 l0 l1 l2 l3 (l4 + 1) h206))) else (s_X14_reaches_213 k97 k131 l0 l1 l2 l3 h))
def s_X14_reaches_165 (k97 : Nat → Int32 → Int32 → aH → aO) (k131 : Nat → Int32 → Int32 → Int32 → aH → aO) (n : Nat) : Nat → Int32 → Int32 → Int32 → Int32 → aH → aO := lpF (fun _ _ _ _ _ _ => none) (s_X14_reaches_165_b k97 k131) n
def s_X14_reaches_131_b (k97 : Nat → Int32 → Int32 → aH → aO) (k131 : Nat → Int32 → Int32 → Int32 → aH → aO) (l0 : Nat) (l1 : Int32) (l2 : Int32) (l3 : Int32) (h : aH) : aO :=
  (gI h (.ref l0) 14 20).bind fun x133 => if x133 ≤ l3 then (s_X14_reaches_253 k97 FU l0 l1 l2 0 h) else ((gO h (.ref l0) 14 27).bind fun x140 => (ldI .boolean h (.ref x140) l3).bind fun x144 => if x144 = 0 then (k131 l0 l1 l2 (l3 + 1) h) else ((gO h (.ref l0) 14 39).bind fun x149 => (ldI .int h (.ref x149) l3).bind fun x153 => if x153 = (-2) then (s_X14_reaches_165 k97 k131 FU l0 l1 l2 l3 0 h) else (k131 l0 l1 l2 (l3 + 1) h)))
def s_X14_reaches_131 (k97 : Nat → Int32 → Int32 → aH → aO) (n : Nat) : Nat → Int32 → Int32 → Int32 → aH → aO := lpF (fun _ _ _ _ _ => none) (s_X14_reaches_131_b k97) n
def s_X14_reaches_105_b (k97 : Nat → Int32 → Int32 → aH → aO) (k105 : Nat → Int32 → Int32 → Int32 → aH → aO) (l0 : Nat) (l1 : Int32) (l2 : Int32) (l3 : Int32) (h : aH) : aO :=
  if 13 ≤ l3 then (s_X14_reaches_131 k97 FU l0 l1 l2 0 h) else ((gO h (.ref l0) 14 36).bind fun x112 => (gO h (.ref l0) 14 35).bind fun x117 => (ldI .int h (.ref x117) l3).bind fun x121 => (stI h (.ref x112) l3 x121).bind fun h122 => k105 l0 l1 l2 (l3 + 1) h122)
def s_X14_reaches_105 (k97 : Nat → Int32 → Int32 → aH → aO) (n : Nat) : Nat → Int32 → Int32 → Int32 → aH → aO := lpF (fun _ _ _ _ _ => none) (s_X14_reaches_105_b k97) n
def s_X14_reaches_97_b  (k97 : Nat → Int32 → Int32 → aH → aO) (l0 : Nat) (l1 : Int32) (l2 : Int32) (h : aH) : aO :=
  if l1 = 0 then (some (.inl none, h)) else (s_X14_reaches_105 k97 FU l0 0 l2 0 h)
def s_X14_reaches_97  (n : Nat) : Nat → Int32 → Int32 → aH → aO := lpF (fun _ _ _ _ => none) (s_X14_reaches_97_b ) n
def s_X14_reaches_60 (k23 : Nat → Int32 → aH → aO) (l0 : Nat) (l1 : Int32) (s0 : Int32) (s1 : Int32) (s2 : Nat) (h : aH) : aO :=
  (stI h (.ref s2) s1 s0).bind fun h60 => (gO h60 (.ref l0) 14 40).bind fun x62 => (stI h60 (.ref x62) l1 (-2)).bind fun h68 => (gO h68 (.ref l0) 14 39).bind fun x70 => (ldI .int h68 (.ref x70) l1).bind fun x74 => if x74 = 0 then ((gO h68 (.ref l0) 14 35).bind fun x79 => cN (s_X14_puts x79 0 l1 h68) fun h84 => k23 l0 (l1 + 1) h84) else (k23 l0 (l1 + 1) h68)
def s_X14_reaches_58 (k23 : Nat → Int32 → aH → aO) (l0 : Nat) (l1 : Int32) (s0 : Int32) (s1 : Nat) (h : aH) : aO :=
  s_X14_reaches_60 k23 l0 l1 (-2) s0 s1 h
def s_X14_reaches_23_b  (k23 : Nat → Int32 → aH → aO) (l0 : Nat) (l1 : Int32) (h : aH) : aO :=
  (gI h (.ref l0) 14 20).bind fun x25 => if x25 ≤ l1 then (s_X14_reaches_97 FU l0 1 1 h) else ((gO h (.ref l0) 14 39).bind fun x32 => (gO h (.ref l0) 14 27).bind fun x37 => (ldI .boolean h (.ref x37) l1).bind fun x41 => if x41 = 0 then (s_X14_reaches_58 k23 l0 l1 l1 x32 h) else ((gO h (.ref l0) 14 28).bind fun x46 => (ldI .boolean h (.ref x46) l1).bind fun x50 => if x50 = 0 then (s_X14_reaches_58 k23 l0 l1 l1 x32 h) else (s_X14_reaches_60 k23 l0 l1 0 l1 x32 h)))
def s_X14_reaches_23  (n : Nat) : Nat → Int32 → aH → aO := lpF (fun _ _ _ => none) (s_X14_reaches_23_b ) n
def s_X14_reaches_2_b  (k2 : Nat → Int32 → aH → aO) (l0 : Nat) (l1 : Int32) (h : aH) : aO :=
  if 13 ≤ l1 then (s_X14_reaches_23 FU l0 0 h) else ((gO h (.ref l0) 14 35).bind fun x9 => (stI h (.ref x9) l1 0).bind fun h14 => k2 l0 (l1 + 1) h14)
def s_X14_reaches_2  (n : Nat) : Nat → Int32 → aH → aO := lpF (fun _ _ _ => none) (s_X14_reaches_2_b ) n
def s_X14_reaches (o : Nat) (h : aH) : aO :=
  s_X14_reaches_2 FU o 0 h
section
variable {p : Program} {l : Launch} {e : Env} {s : State} {m : MethodId} {args : Array Value} {below : List Frame} {meth : Method} {c : Code} {D : va_G} {B0 : Nat} {X : Nat → Nat} {ws0 : va_W} {r : aR} {h' : aH} {mc ms : Nat}
theorem t_X14_reaches_253_b (C : Cx p l s m args meth c B0 X RX14 "reaches" cX14_reaches 5 none []) {k97 : Nat → Int32 → Int32 → aH → aO} (K97 : ∀ (l0 : Nat) (l1 : Int32) (l2 : Int32) (h : aH), k97 l0 l1 l2 h = some (r, h') → Ev p l e { frames := 1, cells := mc, slots := ms, locals := 26 } s m args below meth c D B0 X ws0 r h' mc ms 5 mc ms 97 [some (.ref l0), some (.int l1), some (.int l2), none, none] [] h) {k253 : Nat → Int32 → Int32 → Int32 → aH → aO} (K253 : ∀ (l0 : Nat) (l1 : Int32) (l2 : Int32) (l3 : Int32) (h : aH), k253 l0 l1 l2 l3 h = some (r, h') → Ev p l e { frames := 1, cells := mc, slots := ms, locals := 26 } s m args below meth c D B0 X ws0 r h' mc ms 5 mc ms 253 [some (.ref l0), some (.int l1), some (.int l2), some (.int l3), none] [] h) {l0 : Nat} {l1 : Int32} {l2 : Int32} {l3 : Int32} {h : aH} (hs : s_X14_reaches_253_b k97 k253 l0 l1 l2 l3 h = some (r, h')) : Ev p l e { frames := 1, cells := mc, slots := ms, locals := 26 } s m args below meth c D B0 X ws0 r h' mc ms 5 mc ms 253 [some (.ref l0), some (.int l1), some (.int l2), some (.int l3), none] [] h := by
  unfold s_X14_reaches_253_b at hs
  refine ev_iload_n C rfl dX14_reaches_253 ?_
  refine ev_bipush C (v := 13) dX14_reaches_254 (by decide) ?_
  refine ev_icmp_ge C (tgt := 277) (by decide) dX14_reaches_256 (fun q256 => ?_) (fun q256 => ?_)
  · replace hs := (if_pos q256).symm.trans hs
    refine ev_iinc C (i := 2) (n := 1) (x := l2) (v := l2 + 1) rfl (congrArg (fun z => l2 + z) (show Int32.ofInt 1 = 1 by decide)) (by decide) dX14_reaches_277 ?_
    refine ev_goto C (tgt := 97) (by decide) dX14_reaches_280 ?_
    exact Ev.keep [true, true, true, false, true] (K97 _ _ _ _ hs)
  · replace hs := (if_neg q256).symm.trans hs
    refine ev_aload_n C (x := .ref l0) rfl trivial dX14_reaches_259 ?_
    obtain ⟨x260, e260, hs⟩ := aB hs
    refine ev_get C (ci := 14) (k := 35) rfl wu_14 (by decide) wf_X14_63 (gO_F e260) dX14_reaches_260 ?_
    refine ev_iload_n C rfl dX14_reaches_263 ?_
    refine ev_aload_n C (x := .ref l0) rfl trivial dX14_reaches_264 ?_
    obtain ⟨x265, e265, hs⟩ := aB hs
    refine ev_get C (ci := 14) (k := 36) rfl wu_14 (by decide) wf_X14_66 (gO_F e265) dX14_reaches_265 ?_
    refine ev_iload_n C rfl dX14_reaches_268 ?_
    obtain ⟨x269, e269, hs⟩ := aB hs
    refine ev_iald C e269 dX14_reaches_269 ?_
    obtain ⟨h270, e270, hs⟩ := aB hs
    refine ev_iast C e270 dX14_reaches_270 ?_
    refine ev_iinc C (i := 3) (n := 1) (x := l3) (v := l3 + 1) rfl (congrArg (fun z => l3 + z) (show Int32.ofInt 1 = 1 by decide)) (by decide) dX14_reaches_271 ?_
    refine ev_goto C (tgt := 253) (by decide) dX14_reaches_274 ?_
    exact (K253 _ _ _ _ _ hs)
theorem t_X14_reaches_253 (C : Cx p l s m args meth c B0 X RX14 "reaches" cX14_reaches 5 none []) {k97 : Nat → Int32 → Int32 → aH → aO} (K97 : ∀ (l0 : Nat) (l1 : Int32) (l2 : Int32) (h : aH), k97 l0 l1 l2 h = some (r, h') → Ev p l e { frames := 1, cells := mc, slots := ms, locals := 26 } s m args below meth c D B0 X ws0 r h' mc ms 5 mc ms 97 [some (.ref l0), some (.int l1), some (.int l2), none, none] [] h) : ∀ (n : Nat) {l0 : Nat} {l1 : Int32} {l2 : Int32} {l3 : Int32} {h : aH} (hs : s_X14_reaches_253 k97 n l0 l1 l2 l3 h = some (r, h')), Ev p l e { frames := 1, cells := mc, slots := ms, locals := 26 } s m args below meth c D B0 X ws0 r h' mc ms 5 mc ms 253 [some (.ref l0), some (.int l1), some (.int l2), some (.int l3), none] [] h
  | 0, _, _, _, _, _, hs => nomatch hs
  | n + 1, _, _, _, _, _, hs => t_X14_reaches_253_b C K97 (k253 := s_X14_reaches_253 k97 n) (fun _ _ _ _ _ hs => t_X14_reaches_253 C K97 n hs) hs
theorem t_X14_reaches_213 (C : Cx p l s m args meth c B0 X RX14 "reaches" cX14_reaches 5 none []) {k97 : Nat → Int32 → Int32 → aH → aO} {k131 : Nat → Int32 → Int32 → Int32 → aH → aO} (K97 : ∀ (l0 : Nat) (l1 : Int32) (l2 : Int32) (h : aH), k97 l0 l1 l2 h = some (r, h') → Ev p l e { frames := 1, cells := mc, slots := ms, locals := 26 } s m args below meth c D B0 X ws0 r h' mc ms 5 mc ms 97 [some (.ref l0), some (.int l1), some (.int l2), none, none] [] h) (K131 : ∀ (l0 : Nat) (l1 : Int32) (l2 : Int32) (l3 : Int32) (h : aH), k131 l0 l1 l2 l3 h = some (r, h') → Ev p l e { frames := 1, cells := mc, slots := ms, locals := 26 } s m args below meth c D B0 X ws0 r h' mc ms 5 mc ms 131 [some (.ref l0), some (.int l1), some (.int l2), some (.int l3), none] [] h) {l0 : Nat} {l1 : Int32} {l2 : Int32} {l3 : Int32} {h : aH} (hs : s_X14_reaches_213 k97 k131 l0 l1 l2 l3 h = some (r, h')) : Ev p l e { frames := 1, cells := mc, slots := ms, locals := 26 } s m args below meth c D B0 X ws0 r h' mc ms 5 mc ms 213 [some (.ref l0), some (.int l1), some (.int l2), some (.int l3), none] [] h := by
  unfold s_X14_reaches_213 at hs
  refine ev_aload_n C (x := .ref l0) rfl trivial dX14_reaches_213 ?_
  obtain ⟨x214, e214, hs⟩ := aB hs
  refine ev_get C (ci := 14) (k := 40) rfl wu_14 (by decide) wf_X14_78 (gO_F e214) dX14_reaches_214 ?_
  refine ev_iload_n C rfl dX14_reaches_217 ?_
  obtain ⟨x218, e218, hs⟩ := aB hs
  refine ev_iald C e218 dX14_reaches_218 ?_
  refine ev_bipush C (v := (-2)) dX14_reaches_219 (by decide) ?_
  refine ev_icmp_ne C (tgt := 227) (by decide) dX14_reaches_221 (fun q221 => ?_) (fun q221 => ?_)
  · replace hs := (if_neg q221).symm.trans hs
    refine ev_aload_n C (x := .ref l0) rfl trivial dX14_reaches_227 ?_
    obtain ⟨x228, e228, hs⟩ := aB hs
    refine ev_get C (ci := 14) (k := 39) rfl wu_14 (by decide) wf_X14_75 (gO_F e228) dX14_reaches_228 ?_
    refine ev_iload_n C rfl dX14_reaches_231 ?_
    refine ev_iload_n C rfl dX14_reaches_232 ?_
    obtain ⟨h233, e233, hs⟩ := aB hs
    refine ev_iast C e233 dX14_reaches_233 ?_
    refine ev_aload_n C (x := .ref l0) rfl trivial dX14_reaches_234 ?_
    obtain ⟨x235, e235, hs⟩ := aB hs
    refine ev_get C (ci := 14) (k := 36) rfl wu_14 (by decide) wf_X14_66 (gO_F e235) dX14_reaches_235 ?_
    refine ev_iconst C (v := 0) dX14_reaches_238 (by decide) ?_
    refine ev_iload_n C rfl dX14_reaches_239 ?_
    obtain ⟨h240, e240, hs⟩ := cN_at hs
    refine ev_callS C (T_X14_puts _ _ _ _ _ _ e240) wc_X14_puts wm_X14_492 wt_X14_puts wz_X14 hy_X14_puts ⟨(Nat.le_of_ble_eq_true rfl), (Nat.le_of_ble_eq_true rfl)⟩ ⟨(Nat.le_refl _), (Nat.le_refl _)⟩ (Nat.le_of_ble_eq_true rfl) rfl dX14_reaches_240 ?_
    refine ev_iconst C (v := 1) dX14_reaches_243 (by decide) ?_
    refine ev_istore_n C (by decide) dX14_reaches_244 ?_
    refine ev_iinc C (i := 3) (n := 1) (x := l3) (v := l3 + 1) rfl (congrArg (fun z => l3 + z) (show Int32.ofInt 1 = 1 by decide)) (by decide) dX14_reaches_245 ?_
    refine ev_goto C (tgt := 131) (by decide) dX14_reaches_248 ?_
    exact (K131 _ _ _ _ _ hs)
  · replace hs := (if_pos q221).symm.trans hs
    refine ev_goto C (tgt := 245) (by decide) dX14_reaches_224 ?_
    refine ev_iinc C (i := 3) (n := 1) (x := l3) (v := l3 + 1) rfl (congrArg (fun z => l3 + z) (show Int32.ofInt 1 = 1 by decide)) (by decide) dX14_reaches_245 ?_
    refine ev_goto C (tgt := 131) (by decide) dX14_reaches_248 ?_
    exact (K131 _ _ _ _ _ hs)
theorem t_X14_reaches_165_b (C : Cx p l s m args meth c B0 X RX14 "reaches" cX14_reaches 5 none []) {k97 : Nat → Int32 → Int32 → aH → aO} {k131 : Nat → Int32 → Int32 → Int32 → aH → aO} (K97 : ∀ (l0 : Nat) (l1 : Int32) (l2 : Int32) (h : aH), k97 l0 l1 l2 h = some (r, h') → Ev p l e { frames := 1, cells := mc, slots := ms, locals := 26 } s m args below meth c D B0 X ws0 r h' mc ms 5 mc ms 97 [some (.ref l0), some (.int l1), some (.int l2), none, none] [] h) (K131 : ∀ (l0 : Nat) (l1 : Int32) (l2 : Int32) (l3 : Int32) (h : aH), k131 l0 l1 l2 l3 h = some (r, h') → Ev p l e { frames := 1, cells := mc, slots := ms, locals := 26 } s m args below meth c D B0 X ws0 r h' mc ms 5 mc ms 131 [some (.ref l0), some (.int l1), some (.int l2), some (.int l3), none] [] h) {k165 : Nat → Int32 → Int32 → Int32 → Int32 → aH → aO} (K165 : ∀ (l0 : Nat) (l1 : Int32) (l2 : Int32) (l3 : Int32) (l4 : Int32) (h : aH), k165 l0 l1 l2 l3 l4 h = some (r, h') → Ev p l e { frames := 1, cells := mc, slots := ms, locals := 26 } s m args below meth c D B0 X ws0 r h' mc ms 5 mc ms 165 [some (.ref l0), some (.int l1), some (.int l2), some (.int l3), some (.int l4)] [] h) {l0 : Nat} {l1 : Int32} {l2 : Int32} {l3 : Int32} {l4 : Int32} {h : aH} (hs : s_X14_reaches_165_b k97 k131 k165 l0 l1 l2 l3 l4 h = some (r, h')) : Ev p l e { frames := 1, cells := mc, slots := ms, locals := 26 } s m args below meth c D B0 X ws0 r h' mc ms 5 mc ms 165 [some (.ref l0), some (.int l1), some (.int l2), some (.int l3), some (.int l4)] [] h := by
  unfold s_X14_reaches_165_b at hs
  refine ev_iload C rfl dX14_reaches_165 ?_
  refine ev_aload_n C (x := .ref l0) rfl trivial dX14_reaches_167 ?_
  obtain ⟨x168, e168, hs⟩ := aB hs
  refine ev_get C (ci := 14) (k := 21) rfl wu_14 (by decide) wf_X14_382 (gI_F e168) dX14_reaches_168 ?_
  refine ev_icmp_ge C (tgt := 213) (by decide) dX14_reaches_171 (fun q171 => ?_) (fun q171 => ?_)
  · replace hs := (if_pos q171).symm.trans hs
    exact Ev.keep [true, true, true, true, false] (t_X14_reaches_213 C K97 K131 hs)
  · replace hs := (if_neg q171).symm.trans hs
    refine ev_aload_n C (x := .ref l0) rfl trivial dX14_reaches_174 ?_
    obtain ⟨x175, e175, hs⟩ := aB hs
    refine ev_get C (ci := 14) (k := 40) rfl wu_14 (by decide) wf_X14_78 (gO_F e175) dX14_reaches_175 ?_
    refine ev_iload_n C rfl dX14_reaches_178 ?_
    obtain ⟨x179, e179, hs⟩ := aB hs
    refine ev_iald C e179 dX14_reaches_179 ?_
    refine ev_bipush C (v := (-2)) dX14_reaches_180 (by decide) ?_
    refine ev_icmp_ne C (tgt := 213) (by decide) dX14_reaches_182 (fun q182 => ?_) (fun q182 => ?_)
    · replace hs := (if_neg q182).symm.trans hs
      exact Ev.keep [true, true, true, true, false] (t_X14_reaches_213 C K97 K131 hs)
    · replace hs := (if_pos q182).symm.trans hs
      refine ev_aload_n C (x := .ref l0) rfl trivial dX14_reaches_185 ?_
      refine ev_iload_n C rfl dX14_reaches_186 ?_
      refine ev_iload C rfl dX14_reaches_187 ?_
      refine ev_aload_n C (x := .ref l0) rfl trivial dX14_reaches_189 ?_
      obtain ⟨x190, e190, hs⟩ := aB hs
      refine ev_get C (ci := 14) (k := 35) rfl wu_14 (by decide) wf_X14_63 (gO_F e190) dX14_reaches_190 ?_
      obtain ⟨eo193, hs⟩ := kO_at hs
      obtain ⟨x193, h193, e193, hs⟩ := cI_at hs
      refine ev_callV C (T_X14_leadsInto _ _ _ _ _ _ _ e193) (ci := 14) rfl eo193 wc_X14_leadsInto wm_X14_496 wi_X14_leadsInto ws_X14_leadsInto wz_X14 hy_X14_leadsInto ⟨(Nat.le_of_ble_eq_true rfl), (Nat.le_of_ble_eq_true rfl)⟩ ⟨(Nat.le_refl _), (Nat.le_refl _)⟩ (Nat.le_of_ble_eq_true rfl) rfl dX14_reaches_193 ?_
      refine ev_if_eq C (tgt := 207) (by decide) dX14_reaches_196 (fun q196 => ?_) (fun q196 => ?_)
      · replace hs := (if_pos q196).symm.trans hs
        refine ev_iinc C (i := 4) (n := 1) (x := l4) (v := l4 + 1) rfl (congrArg (fun z => l4 + z) (show Int32.ofInt 1 = 1 by decide)) (by decide) dX14_reaches_207 ?_
        refine ev_goto C (tgt := 165) (by decide) dX14_reaches_210 ?_
        exact (K165 _ _ _ _ _ _ hs)
      · replace hs := (if_neg q196).symm.trans hs
        refine ev_aload_n C (x := .ref l0) rfl trivial dX14_reaches_199 ?_
        obtain ⟨x200, e200, hs⟩ := aB hs
        refine ev_get C (ci := 14) (k := 40) rfl wu_14 (by decide) wf_X14_78 (gO_F e200) dX14_reaches_200 ?_
        refine ev_iload_n C rfl dX14_reaches_203 ?_
        refine ev_iload C rfl dX14_reaches_204 ?_
        obtain ⟨h206, e206, hs⟩ := aB hs
        refine ev_iast C e206 dX14_reaches_206 ?_
        refine ev_iinc C (i := 4) (n := 1) (x := l4) (v := l4 + 1) rfl (congrArg (fun z => l4 + z) (show Int32.ofInt 1 = 1 by decide)) (by decide) dX14_reaches_207 ?_
        refine ev_goto C (tgt := 165) (by decide) dX14_reaches_210 ?_
        exact (K165 _ _ _ _ _ _ hs)
theorem t_X14_reaches_165 (C : Cx p l s m args meth c B0 X RX14 "reaches" cX14_reaches 5 none []) {k97 : Nat → Int32 → Int32 → aH → aO} {k131 : Nat → Int32 → Int32 → Int32 → aH → aO} (K97 : ∀ (l0 : Nat) (l1 : Int32) (l2 : Int32) (h : aH), k97 l0 l1 l2 h = some (r, h') → Ev p l e { frames := 1, cells := mc, slots := ms, locals := 26 } s m args below meth c D B0 X ws0 r h' mc ms 5 mc ms 97 [some (.ref l0), some (.int l1), some (.int l2), none, none] [] h) (K131 : ∀ (l0 : Nat) (l1 : Int32) (l2 : Int32) (l3 : Int32) (h : aH), k131 l0 l1 l2 l3 h = some (r, h') → Ev p l e { frames := 1, cells := mc, slots := ms, locals := 26 } s m args below meth c D B0 X ws0 r h' mc ms 5 mc ms 131 [some (.ref l0), some (.int l1), some (.int l2), some (.int l3), none] [] h) : ∀ (n : Nat) {l0 : Nat} {l1 : Int32} {l2 : Int32} {l3 : Int32} {l4 : Int32} {h : aH} (hs : s_X14_reaches_165 k97 k131 n l0 l1 l2 l3 l4 h = some (r, h')), Ev p l e { frames := 1, cells := mc, slots := ms, locals := 26 } s m args below meth c D B0 X ws0 r h' mc ms 5 mc ms 165 [some (.ref l0), some (.int l1), some (.int l2), some (.int l3), some (.int l4)] [] h
  | 0, _, _, _, _, _, _, hs => nomatch hs
  | n + 1, _, _, _, _, _, _, hs => t_X14_reaches_165_b C K97 K131 (k165 := s_X14_reaches_165 k97 k131 n) (fun _ _ _ _ _ _ hs => t_X14_reaches_165 C K97 K131 n hs) hs
theorem t_X14_reaches_131_b (C : Cx p l s m args meth c B0 X RX14 "reaches" cX14_reaches 5 none []) {k97 : Nat → Int32 → Int32 → aH → aO} (K97 : ∀ (l0 : Nat) (l1 : Int32) (l2 : Int32) (h : aH), k97 l0 l1 l2 h = some (r, h') → Ev p l e { frames := 1, cells := mc, slots := ms, locals := 26 } s m args below meth c D B0 X ws0 r h' mc ms 5 mc ms 97 [some (.ref l0), some (.int l1), some (.int l2), none, none] [] h) {k131 : Nat → Int32 → Int32 → Int32 → aH → aO} (K131 : ∀ (l0 : Nat) (l1 : Int32) (l2 : Int32) (l3 : Int32) (h : aH), k131 l0 l1 l2 l3 h = some (r, h') → Ev p l e { frames := 1, cells := mc, slots := ms, locals := 26 } s m args below meth c D B0 X ws0 r h' mc ms 5 mc ms 131 [some (.ref l0), some (.int l1), some (.int l2), some (.int l3), none] [] h) {l0 : Nat} {l1 : Int32} {l2 : Int32} {l3 : Int32} {h : aH} (hs : s_X14_reaches_131_b k97 k131 l0 l1 l2 l3 h = some (r, h')) : Ev p l e { frames := 1, cells := mc, slots := ms, locals := 26 } s m args below meth c D B0 X ws0 r h' mc ms 5 mc ms 131 [some (.ref l0), some (.int l1), some (.int l2), some (.int l3), none] [] h := by
  unfold s_X14_reaches_131_b at hs
  refine ev_iload_n C rfl dX14_reaches_131 ?_
  refine ev_aload_n C (x := .ref l0) rfl trivial dX14_reaches_132 ?_
  obtain ⟨x133, e133, hs⟩ := aB hs
  refine ev_get C (ci := 14) (k := 20) rfl wu_14 (by decide) wf_X14_379 (gI_F e133) dX14_reaches_133 ?_
  refine ev_icmp_ge C (tgt := 251) (by decide) dX14_reaches_136 (fun q136 => ?_) (fun q136 => ?_)
  · replace hs := (if_pos q136).symm.trans hs
    refine ev_iconst C (v := 0) dX14_reaches_251 (by decide) ?_
    refine ev_istore_n C (by decide) dX14_reaches_252 ?_
    exact (t_X14_reaches_253 C K97 FU hs)
  · replace hs := (if_neg q136).symm.trans hs
    refine ev_aload_n C (x := .ref l0) rfl trivial dX14_reaches_139 ?_
    obtain ⟨x140, e140, hs⟩ := aB hs
    refine ev_get C (ci := 14) (k := 27) rfl wu_14 (by decide) wf_X14_37 (gO_F e140) dX14_reaches_140 ?_
    refine ev_iload_n C rfl dX14_reaches_143 ?_
    obtain ⟨x144, e144, hs⟩ := aB hs
    refine ev_zald C e144 dX14_reaches_144 ?_
    refine ev_if_eq C (tgt := 245) (by decide) dX14_reaches_145 (fun q145 => ?_) (fun q145 => ?_)
    · replace hs := (if_pos q145).symm.trans hs
      refine ev_iinc C (i := 3) (n := 1) (x := l3) (v := l3 + 1) rfl (congrArg (fun z => l3 + z) (show Int32.ofInt 1 = 1 by decide)) (by decide) dX14_reaches_245 ?_
      refine ev_goto C (tgt := 131) (by decide) dX14_reaches_248 ?_
      exact (K131 _ _ _ _ _ hs)
    · replace hs := (if_neg q145).symm.trans hs
      refine ev_aload_n C (x := .ref l0) rfl trivial dX14_reaches_148 ?_
      obtain ⟨x149, e149, hs⟩ := aB hs
      refine ev_get C (ci := 14) (k := 39) rfl wu_14 (by decide) wf_X14_75 (gO_F e149) dX14_reaches_149 ?_
      refine ev_iload_n C rfl dX14_reaches_152 ?_
      obtain ⟨x153, e153, hs⟩ := aB hs
      refine ev_iald C e153 dX14_reaches_153 ?_
      refine ev_bipush C (v := (-2)) dX14_reaches_154 (by decide) ?_
      refine ev_icmp_eq C (tgt := 162) (by decide) dX14_reaches_156 (fun q156 => ?_) (fun q156 => ?_)
      · replace hs := (if_pos q156).symm.trans hs
        refine ev_iconst C (v := 0) dX14_reaches_162 (by decide) ?_
        refine ev_istore C (by decide) dX14_reaches_163 ?_
        exact (t_X14_reaches_165 C K97 K131 FU hs)
      · replace hs := (if_neg q156).symm.trans hs
        refine ev_goto C (tgt := 245) (by decide) dX14_reaches_159 ?_
        refine ev_iinc C (i := 3) (n := 1) (x := l3) (v := l3 + 1) rfl (congrArg (fun z => l3 + z) (show Int32.ofInt 1 = 1 by decide)) (by decide) dX14_reaches_245 ?_
        refine ev_goto C (tgt := 131) (by decide) dX14_reaches_248 ?_
        exact (K131 _ _ _ _ _ hs)
theorem t_X14_reaches_131 (C : Cx p l s m args meth c B0 X RX14 "reaches" cX14_reaches 5 none []) {k97 : Nat → Int32 → Int32 → aH → aO} (K97 : ∀ (l0 : Nat) (l1 : Int32) (l2 : Int32) (h : aH), k97 l0 l1 l2 h = some (r, h') → Ev p l e { frames := 1, cells := mc, slots := ms, locals := 26 } s m args below meth c D B0 X ws0 r h' mc ms 5 mc ms 97 [some (.ref l0), some (.int l1), some (.int l2), none, none] [] h) : ∀ (n : Nat) {l0 : Nat} {l1 : Int32} {l2 : Int32} {l3 : Int32} {h : aH} (hs : s_X14_reaches_131 k97 n l0 l1 l2 l3 h = some (r, h')), Ev p l e { frames := 1, cells := mc, slots := ms, locals := 26 } s m args below meth c D B0 X ws0 r h' mc ms 5 mc ms 131 [some (.ref l0), some (.int l1), some (.int l2), some (.int l3), none] [] h
  | 0, _, _, _, _, _, hs => nomatch hs
  | n + 1, _, _, _, _, _, hs => t_X14_reaches_131_b C K97 (k131 := s_X14_reaches_131 k97 n) (fun _ _ _ _ _ hs => t_X14_reaches_131 C K97 n hs) hs
theorem t_X14_reaches_105_b (C : Cx p l s m args meth c B0 X RX14 "reaches" cX14_reaches 5 none []) {k97 : Nat → Int32 → Int32 → aH → aO} (K97 : ∀ (l0 : Nat) (l1 : Int32) (l2 : Int32) (h : aH), k97 l0 l1 l2 h = some (r, h') → Ev p l e { frames := 1, cells := mc, slots := ms, locals := 26 } s m args below meth c D B0 X ws0 r h' mc ms 5 mc ms 97 [some (.ref l0), some (.int l1), some (.int l2), none, none] [] h) {k105 : Nat → Int32 → Int32 → Int32 → aH → aO} (K105 : ∀ (l0 : Nat) (l1 : Int32) (l2 : Int32) (l3 : Int32) (h : aH), k105 l0 l1 l2 l3 h = some (r, h') → Ev p l e { frames := 1, cells := mc, slots := ms, locals := 26 } s m args below meth c D B0 X ws0 r h' mc ms 5 mc ms 105 [some (.ref l0), some (.int l1), some (.int l2), some (.int l3), none] [] h) {l0 : Nat} {l1 : Int32} {l2 : Int32} {l3 : Int32} {h : aH} (hs : s_X14_reaches_105_b k97 k105 l0 l1 l2 l3 h = some (r, h')) : Ev p l e { frames := 1, cells := mc, slots := ms, locals := 26 } s m args below meth c D B0 X ws0 r h' mc ms 5 mc ms 105 [some (.ref l0), some (.int l1), some (.int l2), some (.int l3), none] [] h := by
  unfold s_X14_reaches_105_b at hs
  refine ev_iload_n C rfl dX14_reaches_105 ?_
  refine ev_bipush C (v := 13) dX14_reaches_106 (by decide) ?_
  refine ev_icmp_ge C (tgt := 129) (by decide) dX14_reaches_108 (fun q108 => ?_) (fun q108 => ?_)
  · replace hs := (if_pos q108).symm.trans hs
    refine ev_iconst C (v := 0) dX14_reaches_129 (by decide) ?_
    refine ev_istore_n C (by decide) dX14_reaches_130 ?_
    exact (t_X14_reaches_131 C K97 FU hs)
  · replace hs := (if_neg q108).symm.trans hs
    refine ev_aload_n C (x := .ref l0) rfl trivial dX14_reaches_111 ?_
    obtain ⟨x112, e112, hs⟩ := aB hs
    refine ev_get C (ci := 14) (k := 36) rfl wu_14 (by decide) wf_X14_66 (gO_F e112) dX14_reaches_112 ?_
    refine ev_iload_n C rfl dX14_reaches_115 ?_
    refine ev_aload_n C (x := .ref l0) rfl trivial dX14_reaches_116 ?_
    obtain ⟨x117, e117, hs⟩ := aB hs
    refine ev_get C (ci := 14) (k := 35) rfl wu_14 (by decide) wf_X14_63 (gO_F e117) dX14_reaches_117 ?_
    refine ev_iload_n C rfl dX14_reaches_120 ?_
    obtain ⟨x121, e121, hs⟩ := aB hs
    refine ev_iald C e121 dX14_reaches_121 ?_
    obtain ⟨h122, e122, hs⟩ := aB hs
    refine ev_iast C e122 dX14_reaches_122 ?_
    refine ev_iinc C (i := 3) (n := 1) (x := l3) (v := l3 + 1) rfl (congrArg (fun z => l3 + z) (show Int32.ofInt 1 = 1 by decide)) (by decide) dX14_reaches_123 ?_
    refine ev_goto C (tgt := 105) (by decide) dX14_reaches_126 ?_
    exact (K105 _ _ _ _ _ hs)
theorem t_X14_reaches_105 (C : Cx p l s m args meth c B0 X RX14 "reaches" cX14_reaches 5 none []) {k97 : Nat → Int32 → Int32 → aH → aO} (K97 : ∀ (l0 : Nat) (l1 : Int32) (l2 : Int32) (h : aH), k97 l0 l1 l2 h = some (r, h') → Ev p l e { frames := 1, cells := mc, slots := ms, locals := 26 } s m args below meth c D B0 X ws0 r h' mc ms 5 mc ms 97 [some (.ref l0), some (.int l1), some (.int l2), none, none] [] h) : ∀ (n : Nat) {l0 : Nat} {l1 : Int32} {l2 : Int32} {l3 : Int32} {h : aH} (hs : s_X14_reaches_105 k97 n l0 l1 l2 l3 h = some (r, h')), Ev p l e { frames := 1, cells := mc, slots := ms, locals := 26 } s m args below meth c D B0 X ws0 r h' mc ms 5 mc ms 105 [some (.ref l0), some (.int l1), some (.int l2), some (.int l3), none] [] h
  | 0, _, _, _, _, _, hs => nomatch hs
  | n + 1, _, _, _, _, _, hs => t_X14_reaches_105_b C K97 (k105 := s_X14_reaches_105 k97 n) (fun _ _ _ _ _ hs => t_X14_reaches_105 C K97 n hs) hs
theorem t_X14_reaches_97_b (C : Cx p l s m args meth c B0 X RX14 "reaches" cX14_reaches 5 none [])   {k97 : Nat → Int32 → Int32 → aH → aO} (K97 : ∀ (l0 : Nat) (l1 : Int32) (l2 : Int32) (h : aH), k97 l0 l1 l2 h = some (r, h') → Ev p l e { frames := 1, cells := mc, slots := ms, locals := 26 } s m args below meth c D B0 X ws0 r h' mc ms 5 mc ms 97 [some (.ref l0), some (.int l1), some (.int l2), none, none] [] h) {l0 : Nat} {l1 : Int32} {l2 : Int32} {h : aH} (hs : s_X14_reaches_97_b  k97 l0 l1 l2 h = some (r, h')) : Ev p l e { frames := 1, cells := mc, slots := ms, locals := 26 } s m args below meth c D B0 X ws0 r h' mc ms 5 mc ms 97 [some (.ref l0), some (.int l1), some (.int l2), none, none] [] h := by
  unfold s_X14_reaches_97_b at hs
  refine ev_iload_n C rfl dX14_reaches_97 ?_
  refine ev_if_eq C (tgt := 283) (by decide) dX14_reaches_98 (fun q98 => ?_) (fun q98 => ?_)
  · replace hs := (if_pos q98).symm.trans hs
    cases hs
    exact ev_vret C rfl rfl (Nat.le_refl _) (Nat.le_refl _) rfl dX14_reaches_283
  · replace hs := (if_neg q98).symm.trans hs
    refine ev_iconst C (v := 0) dX14_reaches_101 (by decide) ?_
    refine ev_istore_n C (by decide) dX14_reaches_102 ?_
    refine ev_iconst C (v := 0) dX14_reaches_103 (by decide) ?_
    refine ev_istore_n C (by decide) dX14_reaches_104 ?_
    exact (t_X14_reaches_105 C K97 FU hs)
theorem t_X14_reaches_97 (C : Cx p l s m args meth c B0 X RX14 "reaches" cX14_reaches 5 none [])   : ∀ (n : Nat) {l0 : Nat} {l1 : Int32} {l2 : Int32} {h : aH} (hs : s_X14_reaches_97  n l0 l1 l2 h = some (r, h')), Ev p l e { frames := 1, cells := mc, slots := ms, locals := 26 } s m args below meth c D B0 X ws0 r h' mc ms 5 mc ms 97 [some (.ref l0), some (.int l1), some (.int l2), none, none] [] h
  | 0, _, _, _, _, hs => nomatch hs
  | n + 1, _, _, _, _, hs => t_X14_reaches_97_b C  (k97 := s_X14_reaches_97  n) (fun _ _ _ _ hs => t_X14_reaches_97 C  n hs) hs
theorem t_X14_reaches_60 (C : Cx p l s m args meth c B0 X RX14 "reaches" cX14_reaches 5 none []) {k23 : Nat → Int32 → aH → aO} (K23 : ∀ (l0 : Nat) (l1 : Int32) (h : aH), k23 l0 l1 h = some (r, h') → Ev p l e { frames := 1, cells := mc, slots := ms, locals := 26 } s m args below meth c D B0 X ws0 r h' mc ms 5 mc ms 23 [some (.ref l0), some (.int l1), none, none, none] [] h) {l0 : Nat} {l1 : Int32} {s0 : Int32} {s1 : Int32} {s2 : Nat} {h : aH} (hs : s_X14_reaches_60 k23 l0 l1 s0 s1 s2 h = some (r, h')) : Ev p l e { frames := 1, cells := mc, slots := ms, locals := 26 } s m args below meth c D B0 X ws0 r h' mc ms 5 mc ms 60 [some (.ref l0), some (.int l1), none, none, none] [.int s0, .int s1, .ref s2] h := by
  unfold s_X14_reaches_60 at hs
  obtain ⟨h60, e60, hs⟩ := aB hs
  refine ev_iast C e60 dX14_reaches_60 ?_
  refine ev_aload_n C (x := .ref l0) rfl trivial dX14_reaches_61 ?_
  obtain ⟨x62, e62, hs⟩ := aB hs
  refine ev_get C (ci := 14) (k := 40) rfl wu_14 (by decide) wf_X14_78 (gO_F e62) dX14_reaches_62 ?_
  refine ev_iload_n C rfl dX14_reaches_65 ?_
  refine ev_bipush C (v := (-2)) dX14_reaches_66 (by decide) ?_
  obtain ⟨h68, e68, hs⟩ := aB hs
  refine ev_iast C e68 dX14_reaches_68 ?_
  refine ev_aload_n C (x := .ref l0) rfl trivial dX14_reaches_69 ?_
  obtain ⟨x70, e70, hs⟩ := aB hs
  refine ev_get C (ci := 14) (k := 39) rfl wu_14 (by decide) wf_X14_75 (gO_F e70) dX14_reaches_70 ?_
  refine ev_iload_n C rfl dX14_reaches_73 ?_
  obtain ⟨x74, e74, hs⟩ := aB hs
  refine ev_iald C e74 dX14_reaches_74 ?_
  refine ev_if_ne C (tgt := 87) (by decide) dX14_reaches_75 (fun q75 => ?_) (fun q75 => ?_)
  · replace hs := (if_neg q75).symm.trans hs
    refine ev_iinc C (i := 1) (n := 1) (x := l1) (v := l1 + 1) rfl (congrArg (fun z => l1 + z) (show Int32.ofInt 1 = 1 by decide)) (by decide) dX14_reaches_87 ?_
    refine ev_goto C (tgt := 23) (by decide) dX14_reaches_90 ?_
    exact (K23 _ _ _ hs)
  · replace hs := (if_pos q75).symm.trans hs
    refine ev_aload_n C (x := .ref l0) rfl trivial dX14_reaches_78 ?_
    obtain ⟨x79, e79, hs⟩ := aB hs
    refine ev_get C (ci := 14) (k := 35) rfl wu_14 (by decide) wf_X14_63 (gO_F e79) dX14_reaches_79 ?_
    refine ev_iconst C (v := 0) dX14_reaches_82 (by decide) ?_
    refine ev_iload_n C rfl dX14_reaches_83 ?_
    obtain ⟨h84, e84, hs⟩ := cN_at hs
    refine ev_callS C (T_X14_puts _ _ _ _ _ _ e84) wc_X14_puts wm_X14_492 wt_X14_puts wz_X14 hy_X14_puts ⟨(Nat.le_of_ble_eq_true rfl), (Nat.le_of_ble_eq_true rfl)⟩ ⟨(Nat.le_refl _), (Nat.le_refl _)⟩ (Nat.le_of_ble_eq_true rfl) rfl dX14_reaches_84 ?_
    refine ev_iinc C (i := 1) (n := 1) (x := l1) (v := l1 + 1) rfl (congrArg (fun z => l1 + z) (show Int32.ofInt 1 = 1 by decide)) (by decide) dX14_reaches_87 ?_
    refine ev_goto C (tgt := 23) (by decide) dX14_reaches_90 ?_
    exact (K23 _ _ _ hs)
theorem t_X14_reaches_58 (C : Cx p l s m args meth c B0 X RX14 "reaches" cX14_reaches 5 none []) {k23 : Nat → Int32 → aH → aO} (K23 : ∀ (l0 : Nat) (l1 : Int32) (h : aH), k23 l0 l1 h = some (r, h') → Ev p l e { frames := 1, cells := mc, slots := ms, locals := 26 } s m args below meth c D B0 X ws0 r h' mc ms 5 mc ms 23 [some (.ref l0), some (.int l1), none, none, none] [] h) {l0 : Nat} {l1 : Int32} {s0 : Int32} {s1 : Nat} {h : aH} (hs : s_X14_reaches_58 k23 l0 l1 s0 s1 h = some (r, h')) : Ev p l e { frames := 1, cells := mc, slots := ms, locals := 26 } s m args below meth c D B0 X ws0 r h' mc ms 5 mc ms 58 [some (.ref l0), some (.int l1), none, none, none] [.int s0, .ref s1] h := by
  unfold s_X14_reaches_58 at hs
  refine ev_bipush C (v := (-2)) dX14_reaches_58 (by decide) ?_
  exact (t_X14_reaches_60 C K23 hs)
theorem t_X14_reaches_23_b (C : Cx p l s m args meth c B0 X RX14 "reaches" cX14_reaches 5 none [])   {k23 : Nat → Int32 → aH → aO} (K23 : ∀ (l0 : Nat) (l1 : Int32) (h : aH), k23 l0 l1 h = some (r, h') → Ev p l e { frames := 1, cells := mc, slots := ms, locals := 26 } s m args below meth c D B0 X ws0 r h' mc ms 5 mc ms 23 [some (.ref l0), some (.int l1), none, none, none] [] h) {l0 : Nat} {l1 : Int32} {h : aH} (hs : s_X14_reaches_23_b  k23 l0 l1 h = some (r, h')) : Ev p l e { frames := 1, cells := mc, slots := ms, locals := 26 } s m args below meth c D B0 X ws0 r h' mc ms 5 mc ms 23 [some (.ref l0), some (.int l1), none, none, none] [] h := by
  unfold s_X14_reaches_23_b at hs
  refine ev_iload_n C rfl dX14_reaches_23 ?_
  refine ev_aload_n C (x := .ref l0) rfl trivial dX14_reaches_24 ?_
  obtain ⟨x25, e25, hs⟩ := aB hs
  refine ev_get C (ci := 14) (k := 20) rfl wu_14 (by decide) wf_X14_379 (gI_F e25) dX14_reaches_25 ?_
  refine ev_icmp_ge C (tgt := 93) (by decide) dX14_reaches_28 (fun q28 => ?_) (fun q28 => ?_)
  · replace hs := (if_pos q28).symm.trans hs
    refine ev_iconst C (v := 1) dX14_reaches_93 (by decide) ?_
    refine ev_istore_n C (by decide) dX14_reaches_94 ?_
    refine ev_iconst C (v := 1) dX14_reaches_95 (by decide) ?_
    refine ev_istore_n C (by decide) dX14_reaches_96 ?_
    exact (t_X14_reaches_97 C  FU hs)
  · replace hs := (if_neg q28).symm.trans hs
    refine ev_aload_n C (x := .ref l0) rfl trivial dX14_reaches_31 ?_
    obtain ⟨x32, e32, hs⟩ := aB hs
    refine ev_get C (ci := 14) (k := 39) rfl wu_14 (by decide) wf_X14_75 (gO_F e32) dX14_reaches_32 ?_
    refine ev_iload_n C rfl dX14_reaches_35 ?_
    refine ev_aload_n C (x := .ref l0) rfl trivial dX14_reaches_36 ?_
    obtain ⟨x37, e37, hs⟩ := aB hs
    refine ev_get C (ci := 14) (k := 27) rfl wu_14 (by decide) wf_X14_37 (gO_F e37) dX14_reaches_37 ?_
    refine ev_iload_n C rfl dX14_reaches_40 ?_
    obtain ⟨x41, e41, hs⟩ := aB hs
    refine ev_zald C e41 dX14_reaches_41 ?_
    refine ev_if_eq C (tgt := 58) (by decide) dX14_reaches_42 (fun q42 => ?_) (fun q42 => ?_)
    · replace hs := (if_pos q42).symm.trans hs
      exact (t_X14_reaches_58 C K23 hs)
    · replace hs := (if_neg q42).symm.trans hs
      refine ev_aload_n C (x := .ref l0) rfl trivial dX14_reaches_45 ?_
      obtain ⟨x46, e46, hs⟩ := aB hs
      refine ev_get C (ci := 14) (k := 28) rfl wu_14 (by decide) wf_X14_41 (gO_F e46) dX14_reaches_46 ?_
      refine ev_iload_n C rfl dX14_reaches_49 ?_
      obtain ⟨x50, e50, hs⟩ := aB hs
      refine ev_zald C e50 dX14_reaches_50 ?_
      refine ev_if_eq C (tgt := 58) (by decide) dX14_reaches_51 (fun q51 => ?_) (fun q51 => ?_)
      · replace hs := (if_pos q51).symm.trans hs
        exact (t_X14_reaches_58 C K23 hs)
      · replace hs := (if_neg q51).symm.trans hs
        refine ev_iconst C (v := 0) dX14_reaches_54 (by decide) ?_
        refine ev_goto C (tgt := 60) (by decide) dX14_reaches_55 ?_
        exact (t_X14_reaches_60 C K23 hs)
theorem t_X14_reaches_23 (C : Cx p l s m args meth c B0 X RX14 "reaches" cX14_reaches 5 none [])   : ∀ (n : Nat) {l0 : Nat} {l1 : Int32} {h : aH} (hs : s_X14_reaches_23  n l0 l1 h = some (r, h')), Ev p l e { frames := 1, cells := mc, slots := ms, locals := 26 } s m args below meth c D B0 X ws0 r h' mc ms 5 mc ms 23 [some (.ref l0), some (.int l1), none, none, none] [] h
  | 0, _, _, _, hs => nomatch hs
  | n + 1, _, _, _, hs => t_X14_reaches_23_b C  (k23 := s_X14_reaches_23  n) (fun _ _ _ hs => t_X14_reaches_23 C  n hs) hs
theorem t_X14_reaches_2_b (C : Cx p l s m args meth c B0 X RX14 "reaches" cX14_reaches 5 none [])   {k2 : Nat → Int32 → aH → aO} (K2 : ∀ (l0 : Nat) (l1 : Int32) (h : aH), k2 l0 l1 h = some (r, h') → Ev p l e { frames := 1, cells := mc, slots := ms, locals := 26 } s m args below meth c D B0 X ws0 r h' mc ms 5 mc ms 2 [some (.ref l0), some (.int l1), none, none, none] [] h) {l0 : Nat} {l1 : Int32} {h : aH} (hs : s_X14_reaches_2_b  k2 l0 l1 h = some (r, h')) : Ev p l e { frames := 1, cells := mc, slots := ms, locals := 26 } s m args below meth c D B0 X ws0 r h' mc ms 5 mc ms 2 [some (.ref l0), some (.int l1), none, none, none] [] h := by
  unfold s_X14_reaches_2_b at hs
  refine ev_iload_n C rfl dX14_reaches_2 ?_
  refine ev_bipush C (v := 13) dX14_reaches_3 (by decide) ?_
  refine ev_icmp_ge C (tgt := 21) (by decide) dX14_reaches_5 (fun q5 => ?_) (fun q5 => ?_)
  · replace hs := (if_pos q5).symm.trans hs
    refine ev_iconst C (v := 0) dX14_reaches_21 (by decide) ?_
    refine ev_istore_n C (by decide) dX14_reaches_22 ?_
    exact (t_X14_reaches_23 C  FU hs)
  · replace hs := (if_neg q5).symm.trans hs
    refine ev_aload_n C (x := .ref l0) rfl trivial dX14_reaches_8 ?_
    obtain ⟨x9, e9, hs⟩ := aB hs
    refine ev_get C (ci := 14) (k := 35) rfl wu_14 (by decide) wf_X14_63 (gO_F e9) dX14_reaches_9 ?_
    refine ev_iload_n C rfl dX14_reaches_12 ?_
    refine ev_iconst C (v := 0) dX14_reaches_13 (by decide) ?_
    obtain ⟨h14, e14, hs⟩ := aB hs
    refine ev_iast C e14 dX14_reaches_14 ?_
    refine ev_iinc C (i := 1) (n := 1) (x := l1) (v := l1 + 1) rfl (congrArg (fun z => l1 + z) (show Int32.ofInt 1 = 1 by decide)) (by decide) dX14_reaches_15 ?_
    refine ev_goto C (tgt := 2) (by decide) dX14_reaches_18 ?_
    exact (K2 _ _ _ hs)
theorem t_X14_reaches_2 (C : Cx p l s m args meth c B0 X RX14 "reaches" cX14_reaches 5 none [])   : ∀ (n : Nat) {l0 : Nat} {l1 : Int32} {h : aH} (hs : s_X14_reaches_2  n l0 l1 h = some (r, h')), Ev p l e { frames := 1, cells := mc, slots := ms, locals := 26 } s m args below meth c D B0 X ws0 r h' mc ms 5 mc ms 2 [some (.ref l0), some (.int l1), none, none, none] [] h
  | 0, _, _, _, hs => nomatch hs
  | n + 1, _, _, _, hs => t_X14_reaches_2_b C  (k2 := s_X14_reaches_2  n) (fun _ _ _ hs => t_X14_reaches_2 C  n hs) hs
theorem hy_X14_reaches : yX14_reaches.cls ≠ "java/lang/invoke/MethodHandle" ∧ yX14_reaches.cls ≠ "java/lang/invoke/VarHandle" ∧ (parseMethodDescriptor yX14_reaches.desc).map (fun d => d.parameters.length) = some 0 := by decide +kernel
theorem T_X14_reaches (o : Nat) (h : aH) (r : aR) (h' : aH) (hs : s_X14_reaches o h = some (r, h')) : Mt yX14_reaches (Cond.code yX14_reaches cX14_reaches 5 none :: aTB) 1 26 0 0 [.ref o] h r h' := by
  unfold s_X14_reaches at hs
  refine Mt_of (k := 4) (by decide) rfl (fun p l e s m args below meth c D B0 X ws0 C => ?_)
  show Ev p l e { frames := 1, cells := 0, slots := 0, locals := 26 } s m args below meth c D B0 X ws0 r h' 0 0 5 0 0 0 [some (.ref o), none, none, none, none] [] h
  refine ev_iconst C (v := 0) dX14_reaches_0 (by decide) ?_
  refine ev_istore_n C (by decide) dX14_reaches_1 ?_
  exact (t_X14_reaches_2 C  FU hs)
end
-- X14_costOf
theorem dX14_costOf_0 : decode cX14_costOf 0 = .ok (.aload_n 0, 1) := by decide +kernel
theorem dX14_costOf_1 : decode cX14_costOf 1 = .ok (.getfield 391, 3) := by decide +kernel
theorem dX14_costOf_4 : decode cX14_costOf 4 = .ok (.ifCond .ne 5, 3) := by decide +kernel
theorem dX14_costOf_7 : decode cX14_costOf 7 = .ok (.iconst 0, 1) := by decide +kernel
theorem dX14_costOf_8 : decode cX14_costOf 8 = .ok (.ireturn, 1) := by decide +kernel
theorem dX14_costOf_9 : decode cX14_costOf 9 = .ok (.aload_n 0, 1) := by decide +kernel
theorem dX14_costOf_10 : decode cX14_costOf 10 = .ok (.iload_n 1, 1) := by decide +kernel
theorem dX14_costOf_11 : decode cX14_costOf 11 = .ok (.invokevirtual 416, 3) := by decide +kernel
theorem dX14_costOf_14 : decode cX14_costOf 14 = .ok (.aload_n 0, 1) := by decide +kernel
theorem dX14_costOf_15 : decode cX14_costOf 15 = .ok (.iload_n 2, 1) := by decide +kernel
theorem dX14_costOf_16 : decode cX14_costOf 16 = .ok (.invokevirtual 459, 3) := by decide +kernel
theorem dX14_costOf_19 : decode cX14_costOf 19 = .ok (.iconst 0, 1) := by decide +kernel
theorem dX14_costOf_20 : decode cX14_costOf 20 = .ok (.sipush 1000, 3) := by decide +kernel
theorem dX14_costOf_23 : decode cX14_costOf 23 = .ok (.aload_n 0, 1) := by decide +kernel
theorem dX14_costOf_24 : decode cX14_costOf 24 = .ok (.aload_n 0, 1) := by decide +kernel
theorem dX14_costOf_25 : decode cX14_costOf 25 = .ok (.getfield 34, 3) := by decide +kernel
theorem dX14_costOf_28 : decode cX14_costOf 28 = .ok (.iconst 0, 1) := by decide +kernel
theorem dX14_costOf_29 : decode cX14_costOf 29 = .ok (.aload_n 0, 1) := by decide +kernel
theorem dX14_costOf_30 : decode cX14_costOf 30 = .ok (.getfield 391, 3) := by decide +kernel
theorem dX14_costOf_33 : decode cX14_costOf 33 = .ok (.invokevirtual 419, 3) := by decide +kernel
theorem dX14_costOf_36 : decode cX14_costOf 36 = .ok (.invokestatic 511, 3) := by decide +kernel
theorem dX14_costOf_39 : decode cX14_costOf 39 = .ok (.invokestatic 513, 3) := by decide +kernel
theorem dX14_costOf_42 : decode cX14_costOf 42 = .ok (.ireturn, 1) := by decide +kernel
def s_X14_costOf (o : Nat) (a1 : Int32) (a2 : Int32) (h : aH) : aO :=
  (gI h (.ref o) 14 24).bind fun x1 => if x1 = 0 then (some (.inl (some (.int 0)), h)) else (kO h o 14 (cN (s_X14_lays o a1 h) fun h11 => kO h11 o 14 (cN (s_X14_pushed o a2 h11) fun h16 => (gO h16 (.ref o) 14 26).bind fun x25 => (gI h16 (.ref o) 14 24).bind fun x30 => kO h16 o 14 (cI (s_X14_valueOf o x25 0 x30 h16) fun x33 h33 => some (.inl (some (.int (jmax 0 (jmin 1000 x33)))), h33)))))
section
variable {p : Program} {l : Launch} {e : Env} {s : State} {m : MethodId} {args : Array Value} {below : List Frame} {meth : Method} {c : Code} {D : va_G} {B0 : Nat} {X : Nat → Nat} {ws0 : va_W} {r : aR} {h' : aH} {mc ms : Nat}
theorem hy_X14_costOf : yX14_costOf.cls ≠ "java/lang/invoke/MethodHandle" ∧ yX14_costOf.cls ≠ "java/lang/invoke/VarHandle" ∧ (parseMethodDescriptor yX14_costOf.desc).map (fun d => d.parameters.length) = some 2 := by decide +kernel
theorem T_X14_costOf (o : Nat) (a1 : Int32) (a2 : Int32) (h : aH) (r : aR) (h' : aH) (hs : s_X14_costOf o a1 a2 h = some (r, h')) : Mt yX14_costOf (Cond.code yX14_costOf cX14_costOf 3 (some .int) :: aTB) 3 75 0 0 [.ref o, .int a1, .int a2] h r h' := by
  unfold s_X14_costOf at hs
  refine Mt_of (k := 0) (by decide) rfl (fun p l e s m args below meth c D B0 X ws0 C => ?_)
  show Ev p l e { frames := 3, cells := 0, slots := 0, locals := 75 } s m args below meth c D B0 X ws0 r h' 0 0 3 0 0 0 [some (.ref o), some (.int a1), some (.int a2)] [] h
  refine ev_aload_n C (x := .ref o) rfl trivial dX14_costOf_0 ?_
  obtain ⟨x1, e1, hs⟩ := aB hs
  refine ev_get C (ci := 14) (k := 24) rfl wu_14 (by decide) wf_X14_391 (gI_F e1) dX14_costOf_1 ?_
  refine ev_if_ne C (tgt := 9) (by decide) dX14_costOf_4 (fun q4 => ?_) (fun q4 => ?_)
  · replace hs := (if_neg q4).symm.trans hs
    refine ev_aload_n C (x := .ref o) rfl trivial dX14_costOf_9 ?_
    refine ev_iload_n C rfl dX14_costOf_10 ?_
    obtain ⟨eo11, hs⟩ := kO_at hs
    obtain ⟨h11, e11, hs⟩ := cN_at hs
    refine ev_callV C (T_X14_lays _ _ _ _ _ e11) (ci := 14) rfl eo11 wc_X14_lays wm_X14_416 wi_X14_lays ws_X14_lays wz_X14 hy_X14_lays ⟨(Nat.le_of_ble_eq_true rfl), (Nat.le_of_ble_eq_true rfl)⟩ ⟨(Nat.le_refl _), (Nat.le_refl _)⟩ (Nat.le_of_ble_eq_true rfl) rfl dX14_costOf_11 ?_
    refine ev_aload_n C (x := .ref o) rfl trivial dX14_costOf_14 ?_
    refine ev_iload_n C rfl dX14_costOf_15 ?_
    obtain ⟨eo16, hs⟩ := kO_at hs
    obtain ⟨h16, e16, hs⟩ := cN_at hs
    refine ev_callV C (T_X14_pushed _ _ _ _ _ e16) (ci := 14) rfl eo16 wc_X14_pushed wm_X14_459 wi_X14_pushed ws_X14_pushed wz_X14 hy_X14_pushed ⟨(Nat.le_of_ble_eq_true rfl), (Nat.le_of_ble_eq_true rfl)⟩ ⟨(Nat.le_refl _), (Nat.le_refl _)⟩ (Nat.le_of_ble_eq_true rfl) rfl dX14_costOf_16 ?_
    refine ev_iconst C (v := 0) dX14_costOf_19 (by decide) ?_
    refine ev_sipush C (v := 1000) dX14_costOf_20 (by decide) ?_
    refine ev_aload_n C (x := .ref o) rfl trivial dX14_costOf_23 ?_
    refine ev_aload_n C (x := .ref o) rfl trivial dX14_costOf_24 ?_
    obtain ⟨x25, e25, hs⟩ := aB hs
    refine ev_get C (ci := 14) (k := 26) rfl wu_14 (by decide) wf_X14_34 (gO_F e25) dX14_costOf_25 ?_
    refine ev_iconst C (v := 0) dX14_costOf_28 (by decide) ?_
    refine ev_aload_n C (x := .ref o) rfl trivial dX14_costOf_29 ?_
    obtain ⟨x30, e30, hs⟩ := aB hs
    refine ev_get C (ci := 14) (k := 24) rfl wu_14 (by decide) wf_X14_391 (gI_F e30) dX14_costOf_30 ?_
    obtain ⟨eo33, hs⟩ := kO_at hs
    obtain ⟨x33, h33, e33, hs⟩ := cI_at hs
    refine ev_callV C (T_X14_valueOf _ _ _ _ _ _ _ e33) (ci := 14) rfl eo33 wc_X14_valueOf wm_X14_419 wi_X14_valueOf ws_X14_valueOf wz_X14 hy_X14_valueOf ⟨(Nat.le_of_ble_eq_true rfl), (Nat.le_of_ble_eq_true rfl)⟩ ⟨(Nat.le_refl _), (Nat.le_refl _)⟩ (Nat.le_of_ble_eq_true rfl) rfl dX14_costOf_33 ?_
    refine ev_mmin C wm_X14_511 wt_mmin wz_J9 wc_mmin (Nat.le_of_ble_eq_true rfl) (Nat.le_of_ble_eq_true rfl) (Nat.le_refl _) (Nat.le_refl _) dX14_costOf_36 ?_
    refine ev_mmax C wm_X14_513 wt_mmax wz_J9 wc_mmax (Nat.le_of_ble_eq_true rfl) (Nat.le_of_ble_eq_true rfl) (Nat.le_refl _) (Nat.le_refl _) dX14_costOf_39 ?_
    cases hs
    exact ev_iret C rfl rfl (Nat.le_refl _) (Nat.le_refl _) rfl dX14_costOf_42
  · replace hs := (if_pos q4).symm.trans hs
    refine ev_iconst C (v := 0) dX14_costOf_7 (by decide) ?_
    cases hs
    exact ev_iret C rfl rfl (Nat.le_refl _) (Nat.le_refl _) rfl dX14_costOf_8
end
-- X14_ahead
theorem dX14_ahead_0 : decode cX14_ahead 0 = .ok (.iload_n 1, 1) := by decide +kernel
theorem dX14_ahead_1 : decode cX14_ahead 1 = .ok (.bipush (-2), 2) := by decide +kernel
theorem dX14_ahead_3 : decode cX14_ahead 3 = .ok (.if_icmp .ne 9, 3) := by decide +kernel
theorem dX14_ahead_6 : decode cX14_ahead 6 = .ok (.ldc_w 518, 3) := by decide +kernel
theorem dX14_ahead_9 : decode cX14_ahead 9 = .ok (.goto 15, 3) := by decide +kernel
theorem dX14_ahead_12 : decode cX14_ahead 12 = .ok (.aload_n 0, 1) := by decide +kernel
theorem dX14_ahead_13 : decode cX14_ahead 13 = .ok (.getfield 81, 3) := by decide +kernel
theorem dX14_ahead_16 : decode cX14_ahead 16 = .ok (.sipush 400, 3) := by decide +kernel
theorem dX14_ahead_19 : decode cX14_ahead 19 = .ok (.iload_n 2, 1) := by decide +kernel
theorem dX14_ahead_20 : decode cX14_ahead 20 = .ok (.imul, 1) := by decide +kernel
theorem dX14_ahead_21 : decode cX14_ahead 21 = .ok (.iload_n 1, 1) := by decide +kernel
theorem dX14_ahead_22 : decode cX14_ahead 22 = .ok (.iadd, 1) := by decide +kernel
theorem dX14_ahead_23 : decode cX14_ahead 23 = .ok (.iaload, 1) := by decide +kernel
theorem dX14_ahead_24 : decode cX14_ahead 24 = .ok (.ireturn, 1) := by decide +kernel
def s_X14_ahead (o : Nat) (a1 : Int32) (a2 : Int32) (h : aH) : aO :=
  if a1 = (-2) then (some (.inl (some (.int 1000000)), h)) else ((gO h (.ref o) 14 41).bind fun x13 => (ldI .int h (.ref x13) ((400 * a2) + a1)).bind fun x23 => some (.inl (some (.int x23)), h))
section
variable {p : Program} {l : Launch} {e : Env} {s : State} {m : MethodId} {args : Array Value} {below : List Frame} {meth : Method} {c : Code} {D : va_G} {B0 : Nat} {X : Nat → Nat} {ws0 : va_W} {r : aR} {h' : aH} {mc ms : Nat}
theorem hy_X14_ahead : yX14_ahead.cls ≠ "java/lang/invoke/MethodHandle" ∧ yX14_ahead.cls ≠ "java/lang/invoke/VarHandle" ∧ (parseMethodDescriptor yX14_ahead.desc).map (fun d => d.parameters.length) = some 2 := by decide +kernel
theorem T_X14_ahead (o : Nat) (a1 : Int32) (a2 : Int32) (h : aH) (r : aR) (h' : aH) (hs : s_X14_ahead o a1 a2 h = some (r, h')) : Mt yX14_ahead (Cond.code yX14_ahead cX14_ahead 3 (some .int) :: aTB) 0 0 0 0 [.ref o, .int a1, .int a2] h r h' := by
  unfold s_X14_ahead at hs
  refine Mt_of (k := 0) (by decide) rfl (fun p l e s m args below meth c D B0 X ws0 C => ?_)
  show Ev p l e { frames := 0, cells := 0, slots := 0, locals := 0 } s m args below meth c D B0 X ws0 r h' 0 0 3 0 0 0 [some (.ref o), some (.int a1), some (.int a2)] [] h
  refine ev_iload_n C rfl dX14_ahead_0 ?_
  refine ev_bipush C (v := (-2)) dX14_ahead_1 (by decide) ?_
  refine ev_icmp_ne C (tgt := 12) (by decide) dX14_ahead_3 (fun q3 => ?_) (fun q3 => ?_)
  · replace hs := (if_neg q3).symm.trans hs
    refine ev_aload_n C (x := .ref o) rfl trivial dX14_ahead_12 ?_
    obtain ⟨x13, e13, hs⟩ := aB hs
    refine ev_get C (ci := 14) (k := 41) rfl wu_14 (by decide) wf_X14_81 (gO_F e13) dX14_ahead_13 ?_
    refine ev_sipush C (v := 400) dX14_ahead_16 (by decide) ?_
    refine ev_iload_n C rfl dX14_ahead_19 ?_
    refine ev_imul C dX14_ahead_20 ?_
    refine ev_iload_n C rfl dX14_ahead_21 ?_
    refine ev_iadd C dX14_ahead_22 ?_
    obtain ⟨x23, e23, hs⟩ := aB hs
    refine ev_iald C e23 dX14_ahead_23 ?_
    cases hs
    exact ev_iret C rfl rfl (Nat.le_refl _) (Nat.le_refl _) rfl dX14_ahead_24
  · replace hs := (if_pos q3).symm.trans hs
    refine ev_ldcw C wv_X14_518 dX14_ahead_6 ?_
    refine ev_goto C (tgt := 24) (by decide) dX14_ahead_9 ?_
    cases hs
    exact ev_iret C rfl rfl (Nat.le_refl _) (Nat.le_refl _) rfl dX14_ahead_24
end
-- X14_paidBy
theorem dX14_paidBy_0 : decode cX14_paidBy 0 = .ok (.iconst 0, 1) := by decide +kernel
theorem dX14_paidBy_1 : decode cX14_paidBy 1 = .ok (.istore 4, 2) := by decide +kernel
theorem dX14_paidBy_3 : decode cX14_paidBy 3 = .ok (.iconst 0, 1) := by decide +kernel
theorem dX14_paidBy_4 : decode cX14_paidBy 4 = .ok (.istore 5, 2) := by decide +kernel
theorem dX14_paidBy_6 : decode cX14_paidBy 6 = .ok (.iload 5, 2) := by decide +kernel
theorem dX14_paidBy_8 : decode cX14_paidBy 8 = .ok (.aload_n 0, 1) := by decide +kernel
theorem dX14_paidBy_9 : decode cX14_paidBy 9 = .ok (.getfield 388, 3) := by decide +kernel
theorem dX14_paidBy_12 : decode cX14_paidBy 12 = .ok (.if_icmp .ge 31, 3) := by decide +kernel
theorem dX14_paidBy_15 : decode cX14_paidBy 15 = .ok (.iload 4, 2) := by decide +kernel
theorem dX14_paidBy_17 : decode cX14_paidBy 17 = .ok (.aload_n 0, 1) := by decide +kernel
theorem dX14_paidBy_18 : decode cX14_paidBy 18 = .ok (.aload_n 0, 1) := by decide +kernel
theorem dX14_paidBy_19 : decode cX14_paidBy 19 = .ok (.iload_n 1, 1) := by decide +kernel
theorem dX14_paidBy_20 : decode cX14_paidBy 20 = .ok (.iload_n 2, 1) := by decide +kernel
theorem dX14_paidBy_21 : decode cX14_paidBy 21 = .ok (.iload 5, 2) := by decide +kernel
theorem dX14_paidBy_23 : decode cX14_paidBy 23 = .ok (.invokevirtual 483, 3) := by decide +kernel
theorem dX14_paidBy_26 : decode cX14_paidBy 26 = .ok (.iload_n 3, 1) := by decide +kernel
theorem dX14_paidBy_27 : decode cX14_paidBy 27 = .ok (.iconst 1, 1) := by decide +kernel
theorem dX14_paidBy_28 : decode cX14_paidBy 28 = .ok (.isub, 1) := by decide +kernel
theorem dX14_paidBy_29 : decode cX14_paidBy 29 = .ok (.invokevirtual 515, 3) := by decide +kernel
theorem dX14_paidBy_32 : decode cX14_paidBy 32 = .ok (.invokestatic 513, 3) := by decide +kernel
theorem dX14_paidBy_35 : decode cX14_paidBy 35 = .ok (.istore 4, 2) := by decide +kernel
theorem dX14_paidBy_37 : decode cX14_paidBy 37 = .ok (.iinc 5 1, 3) := by decide +kernel
theorem dX14_paidBy_40 : decode cX14_paidBy 40 = .ok (.goto (-34), 3) := by decide +kernel
theorem dX14_paidBy_43 : decode cX14_paidBy 43 = .ok (.ldc_w 518, 3) := by decide +kernel
theorem dX14_paidBy_46 : decode cX14_paidBy 46 = .ok (.aload_n 0, 1) := by decide +kernel
theorem dX14_paidBy_47 : decode cX14_paidBy 47 = .ok (.iload_n 1, 1) := by decide +kernel
theorem dX14_paidBy_48 : decode cX14_paidBy 48 = .ok (.iload_n 2, 1) := by decide +kernel
theorem dX14_paidBy_49 : decode cX14_paidBy 49 = .ok (.invokevirtual 519, 3) := by decide +kernel
theorem dX14_paidBy_52 : decode cX14_paidBy 52 = .ok (.iload 4, 2) := by decide +kernel
theorem dX14_paidBy_54 : decode cX14_paidBy 54 = .ok (.iadd, 1) := by decide +kernel
theorem dX14_paidBy_55 : decode cX14_paidBy 55 = .ok (.invokestatic 511, 3) := by decide +kernel
theorem dX14_paidBy_58 : decode cX14_paidBy 58 = .ok (.ireturn, 1) := by decide +kernel
def s_X14_paidBy_6_b  (k6 : Nat → Int32 → Int32 → Int32 → Int32 → Int32 → aH → aO) (l0 : Nat) (l1 : Int32) (l2 : Int32) (l3 : Int32) (l4 : Int32) (l5 : Int32) (h : aH) : aO :=
  (gI h (.ref l0) 14 22).bind fun x9 => if x9 ≤ l5 then (kO h l0 14 (cI (s_X14_costOf l0 l1 l2 h) fun x49 h49 => some (.inl (some (.int (jmin 1000000 (x49 + l4)))), h49))) else (kO h l0 14 (cI (s_X14_to l0 l1 l2 l5 h) fun x23 h23 => kO h23 l0 14 (cI (s_X14_ahead l0 x23 (l3 - 1) h23) fun x29 h29 => k6 l0 l1 l2 l3 (jmax l4 x29) (l5 + 1) h29)))
def s_X14_paidBy_6  (n : Nat) : Nat → Int32 → Int32 → Int32 → Int32 → Int32 → aH → aO := lpF (fun _ _ _ _ _ _ _ => none) (s_X14_paidBy_6_b ) n
def s_X14_paidBy (o : Nat) (a1 : Int32) (a2 : Int32) (a3 : Int32) (h : aH) : aO :=
  s_X14_paidBy_6 FU o a1 a2 a3 0 0 h
section
variable {p : Program} {l : Launch} {e : Env} {s : State} {m : MethodId} {args : Array Value} {below : List Frame} {meth : Method} {c : Code} {D : va_G} {B0 : Nat} {X : Nat → Nat} {ws0 : va_W} {r : aR} {h' : aH} {mc ms : Nat}
theorem t_X14_paidBy_6_b (C : Cx p l s m args meth c B0 X RX14 "paidBy" cX14_paidBy 6 (some .int) [])   {k6 : Nat → Int32 → Int32 → Int32 → Int32 → Int32 → aH → aO} (K6 : ∀ (l0 : Nat) (l1 : Int32) (l2 : Int32) (l3 : Int32) (l4 : Int32) (l5 : Int32) (h : aH), k6 l0 l1 l2 l3 l4 l5 h = some (r, h') → Ev p l e { frames := 4, cells := mc, slots := ms, locals := 97 } s m args below meth c D B0 X ws0 r h' mc ms 6 mc ms 6 [some (.ref l0), some (.int l1), some (.int l2), some (.int l3), some (.int l4), some (.int l5)] [] h) {l0 : Nat} {l1 : Int32} {l2 : Int32} {l3 : Int32} {l4 : Int32} {l5 : Int32} {h : aH} (hs : s_X14_paidBy_6_b  k6 l0 l1 l2 l3 l4 l5 h = some (r, h')) : Ev p l e { frames := 4, cells := mc, slots := ms, locals := 97 } s m args below meth c D B0 X ws0 r h' mc ms 6 mc ms 6 [some (.ref l0), some (.int l1), some (.int l2), some (.int l3), some (.int l4), some (.int l5)] [] h := by
  unfold s_X14_paidBy_6_b at hs
  refine ev_iload C rfl dX14_paidBy_6 ?_
  refine ev_aload_n C (x := .ref l0) rfl trivial dX14_paidBy_8 ?_
  obtain ⟨x9, e9, hs⟩ := aB hs
  refine ev_get C (ci := 14) (k := 22) rfl wu_14 (by decide) wf_X14_388 (gI_F e9) dX14_paidBy_9 ?_
  refine ev_icmp_ge C (tgt := 43) (by decide) dX14_paidBy_12 (fun q12 => ?_) (fun q12 => ?_)
  · replace hs := (if_pos q12).symm.trans hs
    refine ev_ldcw C wv_X14_518 dX14_paidBy_43 ?_
    refine ev_aload_n C (x := .ref l0) rfl trivial dX14_paidBy_46 ?_
    refine ev_iload_n C rfl dX14_paidBy_47 ?_
    refine ev_iload_n C rfl dX14_paidBy_48 ?_
    obtain ⟨eo49, hs⟩ := kO_at hs
    obtain ⟨x49, h49, e49, hs⟩ := cI_at hs
    refine ev_callV C (T_X14_costOf _ _ _ _ _ _ e49) (ci := 14) rfl eo49 wc_X14_costOf wm_X14_519 wi_X14_costOf ws_X14_costOf wz_X14 hy_X14_costOf ⟨(Nat.le_of_ble_eq_true rfl), (Nat.le_of_ble_eq_true rfl)⟩ ⟨(Nat.le_refl _), (Nat.le_refl _)⟩ (Nat.le_of_ble_eq_true rfl) rfl dX14_paidBy_49 ?_
    refine ev_iload C rfl dX14_paidBy_52 ?_
    refine ev_iadd C dX14_paidBy_54 ?_
    refine ev_mmin C wm_X14_511 wt_mmin wz_J9 wc_mmin (Nat.le_of_ble_eq_true rfl) (Nat.le_of_ble_eq_true rfl) (Nat.le_refl _) (Nat.le_refl _) dX14_paidBy_55 ?_
    cases hs
    exact ev_iret C rfl rfl (Nat.le_refl _) (Nat.le_refl _) rfl dX14_paidBy_58
  · replace hs := (if_neg q12).symm.trans hs
    refine ev_iload C rfl dX14_paidBy_15 ?_
    refine ev_aload_n C (x := .ref l0) rfl trivial dX14_paidBy_17 ?_
    refine ev_aload_n C (x := .ref l0) rfl trivial dX14_paidBy_18 ?_
    refine ev_iload_n C rfl dX14_paidBy_19 ?_
    refine ev_iload_n C rfl dX14_paidBy_20 ?_
    refine ev_iload C rfl dX14_paidBy_21 ?_
    obtain ⟨eo23, hs⟩ := kO_at hs
    obtain ⟨x23, h23, e23, hs⟩ := cI_at hs
    refine ev_callV C (T_X14_to _ _ _ _ _ _ _ e23) (ci := 14) rfl eo23 wc_X14_to wm_X14_483 wi_X14_to ws_X14_to wz_X14 hy_X14_to ⟨(Nat.le_of_ble_eq_true rfl), (Nat.le_of_ble_eq_true rfl)⟩ ⟨(Nat.le_refl _), (Nat.le_refl _)⟩ (Nat.le_of_ble_eq_true rfl) rfl dX14_paidBy_23 ?_
    refine ev_iload_n C rfl dX14_paidBy_26 ?_
    refine ev_iconst C (v := 1) dX14_paidBy_27 (by decide) ?_
    refine ev_isub C dX14_paidBy_28 ?_
    obtain ⟨eo29, hs⟩ := kO_at hs
    obtain ⟨x29, h29, e29, hs⟩ := cI_at hs
    refine ev_callV C (T_X14_ahead _ _ _ _ _ _ e29) (ci := 14) rfl eo29 wc_X14_ahead wm_X14_515 wi_X14_ahead ws_X14_ahead wz_X14 hy_X14_ahead ⟨(Nat.le_of_ble_eq_true rfl), (Nat.le_of_ble_eq_true rfl)⟩ ⟨(Nat.le_refl _), (Nat.le_refl _)⟩ (Nat.le_of_ble_eq_true rfl) rfl dX14_paidBy_29 ?_
    refine ev_mmax C wm_X14_513 wt_mmax wz_J9 wc_mmax (Nat.le_of_ble_eq_true rfl) (Nat.le_of_ble_eq_true rfl) (Nat.le_refl _) (Nat.le_refl _) dX14_paidBy_32 ?_
    refine ev_istore C (by decide) dX14_paidBy_35 ?_
    refine ev_iinc C (i := 5) (n := 1) (x := l5) (v := l5 + 1) rfl (congrArg (fun z => l5 + z) (show Int32.ofInt 1 = 1 by decide)) (by decide) dX14_paidBy_37 ?_
    refine ev_goto C (tgt := 6) (by decide) dX14_paidBy_40 ?_
    exact (K6 _ _ _ _ _ _ _ hs)
theorem t_X14_paidBy_6 (C : Cx p l s m args meth c B0 X RX14 "paidBy" cX14_paidBy 6 (some .int) [])   : ∀ (n : Nat) {l0 : Nat} {l1 : Int32} {l2 : Int32} {l3 : Int32} {l4 : Int32} {l5 : Int32} {h : aH} (hs : s_X14_paidBy_6  n l0 l1 l2 l3 l4 l5 h = some (r, h')), Ev p l e { frames := 4, cells := mc, slots := ms, locals := 97 } s m args below meth c D B0 X ws0 r h' mc ms 6 mc ms 6 [some (.ref l0), some (.int l1), some (.int l2), some (.int l3), some (.int l4), some (.int l5)] [] h
  | 0, _, _, _, _, _, _, _, hs => nomatch hs
  | n + 1, _, _, _, _, _, _, _, hs => t_X14_paidBy_6_b C  (k6 := s_X14_paidBy_6  n) (fun _ _ _ _ _ _ _ hs => t_X14_paidBy_6 C  n hs) hs
theorem hy_X14_paidBy : yX14_paidBy.cls ≠ "java/lang/invoke/MethodHandle" ∧ yX14_paidBy.cls ≠ "java/lang/invoke/VarHandle" ∧ (parseMethodDescriptor yX14_paidBy.desc).map (fun d => d.parameters.length) = some 3 := by decide +kernel
theorem T_X14_paidBy (o : Nat) (a1 : Int32) (a2 : Int32) (a3 : Int32) (h : aH) (r : aR) (h' : aH) (hs : s_X14_paidBy o a1 a2 a3 h = some (r, h')) : Mt yX14_paidBy (Cond.code yX14_paidBy cX14_paidBy 6 (some .int) :: aTB) 4 97 0 0 [.ref o, .int a1, .int a2, .int a3] h r h' := by
  unfold s_X14_paidBy at hs
  refine Mt_of (k := 2) (by decide) rfl (fun p l e s m args below meth c D B0 X ws0 C => ?_)
  show Ev p l e { frames := 4, cells := 0, slots := 0, locals := 97 } s m args below meth c D B0 X ws0 r h' 0 0 6 0 0 0 [some (.ref o), some (.int a1), some (.int a2), some (.int a3), none, none] [] h
  refine ev_iconst C (v := 0) dX14_paidBy_0 (by decide) ?_
  refine ev_istore C (by decide) dX14_paidBy_1 ?_
  refine ev_iconst C (v := 0) dX14_paidBy_3 (by decide) ?_
  refine ev_istore C (by decide) dX14_paidBy_4 ?_
  exact (t_X14_paidBy_6 C  FU hs)
end
