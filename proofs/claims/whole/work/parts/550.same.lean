/-- how far a row of a Model reaches -/
def lnK (k : Nat) : Nat := if k = 1 then 5 else lenM k
def rowK (k : Nat) : Prop := 1 ≤ k ∧ k ≠ 2 ∧ k ≠ 12 ∧ k ≤ 19
/-- the rows below K are one as far as they reach -/
def upTo (A B : Nat → Nat → Int32) (K : Nat) : Prop := ∀ k j, k < K → rowK k → j < lnK k → A k j = B k j
section
variable {A A' : Nat → Nat → Int32} {N N' : Nat → Int64} {F F' : Nat → Nat} {σ : pTh}
theorem sgm_same (hA : upTo A' A 20) {f t i M : Nat} (hf : A' f i = A f i) (ht : A' t i = A t i) (h : okP2 A f t i M) (hM : M ≤ 60) : sgm A' f t i = sgm A f t i := by
  obtain ⟨a, b, e1, e2, e3⟩ := h
  unfold sgm
  rw [hf, ht, e1, e2, jI_cl (by omega), jI_cl (by omega)]
  exact seg3_keep _ _ (fun j h1 h2 => ⟨hA 13 j (by decide) ⟨by decide, by decide, by decide, by decide⟩ (show j < 60 by omega), hA 14 j (by decide) ⟨by decide, by decide, by decide, by decide⟩ (show j < 60 by omega), hA 15 j (by decide) ⟨by decide, by decide, by decide, by decide⟩ (show j < 60 by omega)⟩)
theorem segO_same (hA : upTo A' A 20) {M : Nat} (hM : M ≤ 30) (d6 : ∀ i, i < M → ∃ a b c : Nat, A 16 i = jI a ∧ A 17 i = jI (a + b) ∧ A 18 i = jI (a + b + c) ∧ a + b + c ≤ 60) : ∀ (c i : Nat), i + c ≤ M → segO (A' 13) (A' 14) (A' 15) (A' 16) (A' 17) (A' 18) (A' 19) i c = segO (A 13) (A 14) (A 15) (A 16) (A 17) (A 18) (A 19) i c := by
  intro c
  induction c with
  | zero => intro i _; rfl
  | succ c ih =>
    intro i hi
    show seg1 (A' 13) (A' 14) (A' 15) (A' 16) (A' 17) (A' 18) (A' 19) i :: segO (A' 13) (A' 14) (A' 15) (A' 16) (A' 17) (A' 18) (A' 19) (i + 1) c = seg1 (A 13) (A 14) (A 15) (A 16) (A 17) (A 18) (A 19) i :: _
    have p1 := hA 16 i (by decide) ⟨by decide, by decide, by decide, by decide⟩ (show i < 30 by omega)
    have p2 := hA 17 i (by decide) ⟨by decide, by decide, by decide, by decide⟩ (show i < 30 by omega)
    have p3 := hA 18 i (by decide) ⟨by decide, by decide, by decide, by decide⟩ (show i < 30 by omega)
    have p4 := hA 19 i (by decide) ⟨by decide, by decide, by decide, by decide⟩ (show i < 30 by omega)
    have hk : ∀ j, j < 60 → A' 13 j = A 13 j ∧ A' 14 j = A 14 j ∧ A' 15 j = A 15 j := fun j hj => ⟨hA 13 j (by decide) ⟨by decide, by decide, by decide, by decide⟩ hj, hA 14 j (by decide) ⟨by decide, by decide, by decide, by decide⟩ hj, hA 15 j (by decide) ⟨by decide, by decide, by decide, by decide⟩ hj⟩
    obtain ⟨a, b, c', e1, e2, e3, e4⟩ := d6 i (by omega)
    rw [ih (i + 1) (by omega)]
    congr 1
    unfold seg1
    rw [p1, p2, p3, p4, e1, e2, e3, jI_cl (by omega), jI_cl (by omega), jI_cl (by omega), seg3_keep (jn := A 13) (sl := A 14) (ww := A 15) _ _ (fun j h1 h2 => hk j (by omega)), seg3_keep (jn := A 13) (sl := A 14) (ww := A 15) _ _ (fun j h1 h2 => hk j (by omega))]
theorem decl_9 {m : Nat → Nat} (K : okm m) {s : Nat} (h : decl m s) : s < 9 := by
  obtain ⟨h0, h1, h2, h3, -⟩ := K
  unfold decl at h
  omega
theorem cD.same (D : cD A N F σ) (hA : upTo A' A 20) (hN : ∀ s, s < 11 → N' s = N s) (h4 : F' 4 = F 4) (h20 : F' 20 = F 20) (h24 : F' 24 = F 24) : cD A' N' F' σ := by
  have K := D.okm
  have bs := mxK_bs (m := thM σ) (fun k hk => (D.1 k hk).2)
  obtain ⟨d1, d2, d3, ⟨x1, x2, x3, x4, x5, x6⟩, d5, d6, d7, d8⟩ := D
  have r : ∀ {k j : Nat}, 5 ≤ k → k ≤ 9 → j < 8 → A' k j = A k j := fun {k j} q1 q2 q3 => hA k j (by omega) ⟨by omega, by omega, by omega, by omega⟩ (by unfold lnK lenM; rw [if_neg (by omega), if_neg (by omega), if_pos q2]; exact q3)
  refine ⟨fun k hk => ⟨(hA 1 k (by decide) ⟨by decide, by decide, by decide, by decide⟩ hk).trans (d1 k hk).1, (d1 k hk).2⟩, fun s hs => ?_, fun s hs => ?_, ⟨h4.trans x1, by omega, h20.trans x3, x4, by omega, x6⟩, fun j hj => ?_, fun i hi => ?_, fun i x hx => ?_, fun i l hl => ?_⟩
  · have q := d2 s hs
    obtain ⟨k, k5, k1, k2⟩ := hs
    have := bs k k5
    rw [hN s (by omega)]
    exact q
  · have q := d3 s hs
    have l9 := decl_9 K hs
    rw [hA 3 s (by decide) ⟨by decide, by decide, by decide, by decide⟩ l9, hA 4 s (by decide) ⟨by decide, by decide, by decide, by decide⟩ l9]
    exact q
  · rw [hA 14 j (by decide) ⟨by decide, by decide, by decide, by decide⟩ hj]
    exact d5 j hj
  · obtain ⟨a, b, c, e1, e2, e3, e4⟩ := d6 i (by omega)
    exact ⟨a, b, c, (hA 16 i (by decide) ⟨by decide, by decide, by decide, by decide⟩ (show i < 30 by omega)).trans e1, (hA 17 i (by decide) ⟨by decide, by decide, by decide, by decide⟩ (show i < 30 by omega)).trans e2, (hA 18 i (by decide) ⟨by decide, by decide, by decide, by decide⟩ (show i < 30 by omega)).trans e3, e4⟩
  · obtain ⟨y1, y2, y3, y4, y5, y6, y7⟩ := d7 i x hx
    have hi : i < 8 := by
      have := (List.getElem?_eq_some_iff.mp hx).1
      omega
    refine ⟨(r (by decide) (by decide) hi).trans y1, y2, okP2_cg (r (by decide) (by decide) hi) (r (by decide) (by decide) hi) (Nat.le_refl _) y3, ?_, okP2_cg (r (by decide) (by decide) hi) (r (by decide) (by decide) hi) (by omega) y5, ?_, y7⟩
    · rw [sgm_same hA (r (by decide) (by decide) hi) (r (by decide) (by decide) hi) y3 x4]
      exact y4
    · rw [← y6]
      obtain ⟨a, b, e1, e2, e3⟩ := y5
      unfold sgo
      rw [r (k := 8) (by decide) (by decide) hi, r (k := 9) (by decide) (by decide) hi, e1, e2, jI_cl (by omega), jI_cl (by omega)]
      exact segO_same hA (M := F 24) (by omega) (fun j hj => by
        obtain ⟨a, b, c, e1, e2, e3, e4⟩ := d6 j hj
        exact ⟨a, b, c, e1, e2, e3, by omega⟩) _ _ (by omega)
  · obtain ⟨y1, y2, y3⟩ := d8 i l hl
    have hi : i < 2 := by
      have := (List.getElem?_eq_some_iff.mp hl).1
      have := K.2.2.2.2
      omega
    have r1 := hA 10 i (by decide) ⟨by decide, by decide, by decide, by decide⟩ hi
    have r2 := hA 11 i (by decide) ⟨by decide, by decide, by decide, by decide⟩ hi
    exact ⟨okP2_cg r1 r2 (Nat.le_refl _) y1, by rw [sgm_same hA r1 r2 y1 x4]; exact y2, y3⟩
end
