-- needs: 01 02 03 04 05 06 07 08 09 10 11 12a 12b 12c 12d 13 14
/-! what the Statement gives of the start -/
def sTm (i : Nat) : Term := .string "SteeringHouseModel" ([223, 229, 231, 233, 235, 240, 242, 244].getD i 0)
theorem aX_start {b : Nat} {s : State} (hts : ∀ w ∈ lw_tbl, w.before #[Value.ref b] s = true) (hg : (Jvm.Cond.and given_1 narrow_1).before #[Value.ref b] s = true) : ∃ X : Nat → Nat, aX s.heap.size X s s.heap ∧ X (aE + 5) = b := by
  have hs := flat_of_before _ hg
  have hA : ∀ a : Nat, a < s.heap.size → ¬ aA s.heap.size a := fun a h z => Nat.not_lt.mpr z h
  obtain ⟨tB, hB1, hB2⟩ := va_Tof (args := #[Value.ref b]) (s := s) (tm := .static "SteeringHouse" "BASE" "[I") (ty := .int) (N := 5) (f := fun j => .int (aBASE j)) (A := aA s.heap.size) (by decide) (hs _ (by decide +kernel)) (va_eqt (hs _ (by decide +kernel)))
    (fun j hj => va_eqt (hs _ (by revert j; decide +kernel))) hA
  obtain ⟨tM, hM1, hM2⟩ := va_Tof (args := #[Value.ref b]) (s := s) (tm := .static "SteeringHouse" "MOST" "[I") (ty := .int) (N := 5) (f := fun j => .int (aMOST j)) (A := aA s.heap.size) (by decide) (hs _ (by decide +kernel)) (va_eqt (hs _ (by decide +kernel)))
    (fun j hj => va_eqt (hs _ (by revert j; decide +kernel))) hA
  obtain ⟨tR, hR1, hR2⟩ := va_Tof (args := #[Value.ref b]) (s := s) (tm := .static "SteeringHouse$Reader" "RESERVED" "[J") (ty := .long) (N := 8) (f := fun j => .long (aRES j)) (A := aA s.heap.size) (by decide) (hs _ (by decide +kernel)) (va_eqt (hs _ (by decide +kernel)))
    (fun j hj => va_eqtl (hs _ (by revert j; decide +kernel))) hA
  obtain ⟨adK, adV, hS, hSe⟩ := vk_Sof (args := #[Value.ref b]) (s := s) (N := 8) (tm := sTm) (len := aTxL) (byt := aTxB) (A := aA s.heap.size) (by decide)
    (fun i hi => hs _ (by revert i; decide +kernel)) (fun i hi => hs _ (by revert i; decide +kernel)) (fun i hi => hs _ (by revert i; decide +kernel)) (fun i hi => hs _ (by revert i; decide +kernel))
    (fun i hi j hj => hs _ (by revert j; revert i; decide +kernel))
    (fun i j hi hj hne => by
      have key : ∀ i, i < 8 → ∀ j, j < 8 → i ≠ j → (Cond.not (Cond.eq (sTm i) (sTm j))) ∈ flatC (Jvm.Cond.and given_1 narrow_1) ∨ (Cond.not (Cond.eq (sTm j) (sTm i))) ∈ flatC (Jvm.Cond.and given_1 narrow_1) := by decide +kernel
      rcases key i hi j hj hne with h | h
      · exact Or.inl (hs _ h)
      · exact Or.inr (hs _ h)) hA
  obtain ⟨a9, -, -, -, h9, -⟩ := Cond.exactly_spec (args := #[Value.ref b]) (first := s) (o := none) (s := s) (idx := []) (t := .string "SteeringHouse" 266) (cls := "java/lang/String") (hs _ (by decide +kernel))
  refine ⟨fun i => if i = aE + 1 then tB else if i = aE + 2 then tM else if i = aE + 3 then tR else if i = aE + 5 then b else if i = aE + 9 then a9 else if i < aE + 18 then adK (i - (aE + 10)) else adV (i - (aE + 20)), ?_, by simp⟩
  have e1 : ∀ i, i < 8 → (if aE + 10 + i = aE + 1 then tB else if aE + 10 + i = aE + 2 then tM else if aE + 10 + i = aE + 3 then tR else if aE + 10 + i = aE + 5 then b else if aE + 10 + i = aE + 9 then a9 else if aE + 10 + i < aE + 18 then adK (aE + 10 + i - (aE + 10)) else adV (aE + 10 + i - (aE + 20))) = adK i := fun i hi => by
    rw [if_neg (by omega), if_neg (by omega), if_neg (by omega), if_neg (by omega), if_neg (by omega), if_pos (by omega), show aE + 10 + i - (aE + 10) = i by omega]
  have e2 : ∀ i, i < 8 → (if aE + 20 + i = aE + 1 then tB else if aE + 20 + i = aE + 2 then tM else if aE + 20 + i = aE + 3 then tR else if aE + 20 + i = aE + 5 then b else if aE + 20 + i = aE + 9 then a9 else if aE + 20 + i < aE + 18 then adK (aE + 20 + i - (aE + 10)) else adV (aE + 20 + i - (aE + 20))) = adV i := fun i hi => by
    rw [if_neg (by omega), if_neg (by omega), if_neg (by omega), if_neg (by omega), if_neg (by omega), if_neg (by omega), show aE + 20 + i - (aE + 20) = i by omega]
  have tab : ∀ w ∈ lw_tbl, w.before #[Value.ref b] s = true := hts
  refine ⟨fun w hw hn => va_Nw.of (by cases w <;> first | rfl | (simp [aNs] at hn)) (hts w hw), ⟨va_Zof (hts _ (by decide +kernel)) (hts _ (by decide +kernel)) (by simpa using hB1) hA, by simpa using hB2⟩, ⟨va_Zof (hts _ (by decide +kernel)) (hts _ (by decide +kernel)) (by simpa using hM1) hA, by simpa using hM2⟩,
    ⟨va_Zof (hts _ (by decide +kernel)) (hts _ (by decide +kernel)) (by simpa using hR1) hA, by simpa using hR2⟩,
    ⟨vx_Zqof (hts _ (by decide +kernel)) (hts _ (by decide +kernel)) (hs _ (by decide +kernel)) hA, vx_Zqof (hts _ (by decide +kernel)) (hts _ (by decide +kernel)) (hs _ (by decide +kernel)) hA⟩,
    ⟨va_Zof (hts _ (by decide +kernel)) (hts _ (by decide +kernel)) (va_eqt (hs _ (by decide +kernel))) hA, ⟨fun i hi => ?_, fun i j hi hj he => ?_⟩⟩, fun k i t hk => ?_, ?_, va_Zqof (hts _ (by decide +kernel)) (hts _ (by decide +kernel)) (hs _ (by decide +kernel)) hA, Nat.le_refl _⟩
  · dsimp only
    rw [e1 i hi, e2 i hi]
    exact hS.1 i hi
  · dsimp only at he
    rw [e1 i hi, e1 j hj] at he
    exact hS.2 i j hi hj he
  · have hk8 : k < 8 := by
      have := (List.getElem?_eq_some_iff.mp hk).1
      simpa [aTxt] using this
    dsimp only
    rw [e1 k hk8]
    have key : ∀ k, k < 8 → ∀ x ∈ aTxt[k]?, Cond.stringRef "SteeringHouseModel" x.1 x.2 ∈ lw_tbl ∧ sTm k = .string "SteeringHouseModel" x.1 := by decide +kernel
    obtain ⟨q1, q2⟩ := key k hk8 (i, t) hk
    have q3 := hSe k hk8
    rw [q2] at q3
    exact vk_R.of (hts _ q1) q3
  · dsimp only
    rw [if_neg (by omega), if_neg (by omega), if_neg (by omega), if_neg (by omega), if_pos rfl]
    exact vk_R.of (hts _ (by decide +kernel)) h9
