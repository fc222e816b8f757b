/-! the beginning: the first state -/
def γ0 : gSt := (fun _ => 0, 0, 0, -1, 0, 0, fun _ => 0, fun _ => 0)
theorem hC_len : hC.length = 184 := by
  have e := chkC_ok
  unfold chkC at e
  simp only [Bool.and_eq_true] at e
  exact of_decide_eq_true e.2
theorem hC_CW : CW hC (fldI hC) (rowI hC) (rowL hC) (fun i => i) (fun _ => 0) 184 := by
  have e := chkC_ok
  unfold chkC at e
  simp only [Bool.and_eq_true] at e
  obtain ⟨⟨⟨⟨e1, e2⟩, e3⟩, e4⟩, e5⟩ := e
  have l := hC_len
  refine ⟨fun a ha => ?_, fun k hk => ?_, fun k hk => ?_, fun i hi => ?_, fun i hi => Or.inl ⟨rfl, rfl⟩, fun i j _ _ h => h, fun i hi => Nat.zero_le _, by decide, by omega, ?_⟩
  · refine objB_of (List.all_eq_true.mp e1 a ?_)
    have := of_decide_eq_true ha
    simp only [List.mem_cons, List.not_mem_nil, or_false]
    exact this
  · have z := List.all_eq_true.mp e2 k (List.mem_range.mpr (inC_lt hk).1)
    rw [hk, Bool.not_true, Bool.false_or] at z
    exact shI_of z
  · have z := List.all_eq_true.mp e3 k (List.mem_range.mpr (loC_lt hk).1)
    rw [hk, Bool.not_true, Bool.false_or] at z
    exact shJ_of z
  · refine shI_of (List.all_eq_true.mp e4 i ?_)
    have := of_decide_eq_true hi
    simp only [List.mem_cons, List.not_mem_nil, or_false]
    exact this
  · rw [l]
    exact Nat.le_add_right _ _
theorem hC_KN : KN hC (fldI hC) (rowI hC) (rowL hC) (fun i => i) (fun _ => 0) 184 γ0 := by
  have e := chkP_ok
  unfold chkP at e
  simp only [Bool.and_eq_true] at e
  obtain ⟨⟨⟨⟨⟨⟨⟨⟨⟨⟨⟨⟨m3, m23⟩, f43⟩, o51⟩, o52⟩, r53⟩, r54⟩, r55⟩, v37⟩, v45⟩, v1⟩, v95⟩, s⟩ := e
  obtain ⟨s1, s2, s3, s4, s8⟩ := of_decide_eq_true s
  have ok0 : ∀ k, (allI hC k 60 fun x => decide (x = 0)) = true → okS (rowI hC k) := fun k hv j hj q => by
    rw [of_decide_eq_true (allI_of hv j hj)]
    decide
  have P : PSh hC := ⟨⟨_, _, _, _, _, _, _, objB_of o51⟩, ⟨0, _, _, _, objB_of o52, shI_of r53, shI_of r54, shJ_of r55⟩, ⟨_, _, _, isMb_of (by decide) m23, ok0 37 v37⟩, ⟨_, _, _, _, _, _, _, _, _, isFb_of (by decide) f43, ok0 45 v45⟩⟩
  refine ⟨⟨hC_CW, P, ⟨fun _ => by show 0 < 256; decide, Nat.zero_le _, Nat.zero_le _, fun _ => rfl⟩, s1, s3, s4, fun z => absurd z (by show ¬ (0 : Int32) = 4; decide), fun j hj => of_decide_eq_true (allI_of v1 j hj), s8, fun j hj => absurd hj (Nat.not_lt_zero _)⟩, ⟨s2, fun j hj => of_decide_eq_true (allI_of v95 j hj)⟩, _, _, _, isMb_of (by decide) m3⟩
theorem hC_RN : RN hC γ0 := by
  have e := chkR_ok
  unfold chkR at e
  simp only [Bool.and_eq_true] at e
  obtain ⟨⟨⟨⟨⟨⟨⟨⟨⟨o104, rI⟩, rJ⟩, t105⟩, t120⟩, t133⟩, st⟩, v119⟩, v176⟩, s⟩ := e
  obtain ⟨s9, s1, s2, s3, s56⟩ := of_decide_eq_true s
  have X : RW hC (fldI hC 104) 0 .null (.ref 105) (fldV hC 104 6) (rowI hC) (rowL hC) := by
    refine ⟨objB_of o104, fun k hk => ?_, fun k hk => ?_⟩
    · have z := List.all_eq_true.mp rI k (List.mem_range.mpr (by have := inR_lt hk; omega))
      rw [hk, Bool.not_true, Bool.false_or] at z
      exact shI_of z
    · have z := List.all_eq_true.mp rJ k (List.mem_range.mpr (by have := loR_lt hk; omega))
      rw [hk, Bool.not_true, Bool.false_or] at z
      exact shJ_of z
  have sh : shS hC := by
    unfold stpB at st
    split at st
    · rename_i c fs q
      rw [Bool.and_eq_true] at st
      have a := of_decide_eq_true st.1
      subst a
      exact ⟨fs, q, of_decide_eq_true st.2⟩
    · cases st
  exact ⟨_, _, _, _, _, ⟨X, sh, fun j hj => by rw [of_decide_eq_true (allI_of v119 j hj)]; show (0 : Int32) &&& 255 = jI 0; decide, s9, s1, s2, s3, s56, fun j hj => absurd hj (Nat.not_lt_zero _), ⟨_, _, _, isTb_of (by decide) t120⟩, _, _, _, isTb_of (by decide) t133⟩, _, _, _, isTb_of (by decide) t105, fun j hj => of_decide_eq_true (allI_of v176 j hj)⟩
/-- the law's head, then its calls -/
theorem whole_pure {L : Nat} {xs : Nat → Int32} (hL : L ≤ 3072) : ∃ h', s_L_law L xs [] = some (.inl (some (.int 1)), h', 601024, 7293034) := by
  have eA := ap_of initA
  have eB := ap_of initB
  have cA := cntA
  have cB := cntB'
  have sl := sltAB
  rw [cA] at eA
  rw [cB] at eB
  generalize (apN (s_X11_init 0 hA0)).2 = yA at *
  generalize (apN (s_X14_init 104 hB0)).2 = yB at *
  have I : LI hC (0 + 1 + 103 + 1 + 78 + 1) (0 + 18 + yA + 70 + yB + Int32.toNatClampNeg 1) 0 := ⟨0 + 1 + 103 + 1 + 78 + 1, 0 + 18 + yA + 70 + yB + Int32.toNatClampNeg 1, Or.inl ⟨γ0, _, _, _, _, _, hC_KN, hC_RN, (by show 184 ≤ 187 + 0; decide), by
    show 0 + 18 + yA + 70 + yB + 1 ≤ 599000 + 2 * 0
    omega⟩, Nat.le_refl _, Nat.le_refl _⟩
  have go := law_go (xs := xs) hL 512 0 FU hC _ _ (by omega) (by unfold FU; omega) (Nat.zero_le _) I
  have bd := I.bd (by omega)
  have n0 : nwO dfX11 11 [] = some (0, hA0) := rfl
  have n1 : nwO dfX14 14 hA = some (104, hB0) := by
    unfold nwO
    rw [if_pos (by rw [lenA]; decide), lenA]
    rfl
  have n2 : nwA .long hB 1 = some (183, hC) := by
    unfold nwA
    rw [if_pos (by rw [lenB]; decide), lenB]
    rfl
  have eA' : s_X11_init 0 hA0 = some (.inl none, hA, 103, yA) := eA
  have eB' : s_X14_init 104 hB0 = some (.inl none, hB, 78, yB) := eB
  have r : RR (s_L_law L xs []) := by
    unfold s_L_law
    rw [bP_of n0, dN_of eA', bP_of n1, dN_of eB', bP_of n2]
    have go' : RR (s_L_law_23 L xs FU 0 104 183 0 hC (0 + 1 + 103 + 1 + 78 + 1) (0 + 18 + yA + 70 + yB + Int32.toNatClampNeg 1)) := go
    exact ((((go'.ck (by omega)).ck (by omega)).ck (by omega)).ck (by omega)).ck (by omega)
  exact r
