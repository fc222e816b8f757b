/-! wider and narrower worlds -/
theorem intoB_all {ld : Nat → Int32} {n : Nat} {T : Nat → Bool} : intoB ld n T = true ↔ ∀ x, x < n → tst (ld x) T = true := by
  unfold intoB
  rw [List.all_eq_true]
  exact ⟨fun H x hx => H x (List.mem_range.mpr hx), fun H x hx => H x (List.mem_range.mp hx)⟩
theorem tst_mono {y : Int32} {T T' : Nat → Bool} (h : ∀ d, T d = true → T' d = true) (e : tst y T = true) : tst y T' = true := by
  unfold tst at e ⊢
  by_cases q : 0 ≤ y
  · rw [if_pos q] at e ⊢
    exact h _ e
  · rw [if_neg q] at e
    cases e
theorem intoB_mono {ld : Nat → Int32} {n : Nat} {T T' : Nat → Bool} (h : ∀ d, T d = true → T' d = true) (e : intoB ld n T = true) : intoB ld n T' = true := by
  rw [intoB_all] at e ⊢
  exact fun x hx => tst_mono h (e x hx)
section
variable {ld : Nat → Nat → Nat → Int32} {P n C : Nat} {good : Nat → Bool}
theorem safe_fix (hg : ∀ c, C ≤ c → good c = false) {c : Nat} (h : safeS ld P n C good c = true) : good c = true ∧ canB ld P n (safeS ld P n C good) c = true := by
  refine ⟨kpS_good _ _ h, ?_⟩
  have e := congrFun (stb_C (ld := ld) (P := P) (n := n) hg) c
  have h2 : kpS ld P n good (C + 1) c = true := by rw [e]; exact h
  exact (Bool.and_eq_true _ _ ▸ h2 : kpS ld P n good C c = true ∧ canB ld P n (kpS ld P n good C) c = true).2
theorem safe_gfp {T : Nat → Bool} (hT : ∀ c, T c = true → good c = true ∧ canB ld P n T c = true) : ∀ (r c : Nat), T c = true → kpS ld P n good r c = true
  | 0, c, h => (hT c h).1
  | r + 1, c, h => by
    have ih := safe_gfp hT r
    show (kpS ld P n good r c && canB ld P n (kpS ld P n good r) c) = true
    rw [Bool.and_eq_true]
    refine ⟨ih c h, ?_⟩
    obtain ⟨q, h1, h2⟩ := canB_iff.mp (hT c h).2
    exact canB_iff.mpr ⟨q, h1, intoB_mono ih h2⟩
end
theorem kp_mono {ld ld' : Nat → Nat → Nat → Int32} {P n n' : Nat} {good : Nat → Bool} (H : ∀ c q T, intoB (ld c q) n T = true → intoB (ld' c q) n' T = true) : ∀ (r c : Nat), kpS ld P n good r c = true → kpS ld' P n' good r c = true
  | 0, _, h => h
  | r + 1, c, h => by
    have ih := kp_mono H (P := P) (good := good) r
    have h : (kpS ld P n good r c && canB ld P n (kpS ld P n good r) c) = true := h
    show (kpS ld' P n' good r c && canB ld' P n' (kpS ld' P n' good r) c) = true
    rw [Bool.and_eq_true] at h ⊢
    refine ⟨ih c h.1, ?_⟩
    obtain ⟨q, h1, h2⟩ := canB_iff.mp h.2
    exact canB_iff.mpr ⟨q, h1, intoB_mono ih (H c q _ h2)⟩
theorem spr_val {A : Nat → Nat → Int32} {b : Nat} {w : Int32} : ∀ (n x : Nat) (v : Nat → Int32) (s : Nat), x < 2147483648 → b ≤ s → s < b + n → ∃ d, d < wdN A w s ∧ sprGo A w b n (jI x) v s = (A 3 s - w) + jI d
  | 0, _, _, _, _, _, _ => by omega
  | n + 1, x, v, s, hx, h1, h2 => by
    have h3 : x / wdN A w (b + n) ≤ x := Nat.div_le_self _ _
    rw [spr_stepw A w b n x v hx]
    by_cases q : s = b + n
    · refine ⟨x % wdN A w (b + n), ?_, ?_⟩
      · rw [q]; exact Nat.mod_lt _ (wdN_pos _ _ _)
      · rw [spr_out A w b n _ _ s (by omega), q, upd_eq]
    · exact spr_val n _ _ s (by omega) h1 (by omega)
theorem spr_sur {A : Nat → Nat → Int32} {b : Nat} {w : Int32} {dg : Nat → Nat} : ∀ (n : Nat), prtN A w b n < 2147483648 → (∀ s, b ≤ s → s < b + n → dg s < wdN A w s) → ∃ x, x < prtN A w b n ∧ ∀ v s, b ≤ s → s < b + n → sprGo A w b n (jI x) v s = (A 3 s - w) + jI (dg s)
  | 0, _, _ => ⟨0, Nat.one_pos, fun v s h1 h2 => by omega⟩
  | n + 1, hp, hd => by
    rw [prtN_right] at hp
    have wp := wdN_pos A w (b + n)
    have hle : prtN A w b n ≤ prtN A w b n * wdN A w (b + n) := Nat.le_mul_of_pos_right _ wp
    obtain ⟨x', h1, h2⟩ := spr_sur n (by omega) (fun s q1 q2 => hd s q1 (by omega))
    have hdn := hd (b + n) (by omega) (by omega)
    have hx : x' * wdN A w (b + n) + dg (b + n) < prtN A w b n * wdN A w (b + n) := by
      have := Nat.mul_le_mul_right (wdN A w (b + n)) (show x' + 1 ≤ prtN A w b n by omega)
      rw [Nat.add_mul] at this
      omega
    refine ⟨x' * wdN A w (b + n) + dg (b + n), by rw [prtN_right]; exact hx, fun v s q1 q2 => ?_⟩
    rw [spr_stepw A w b n _ v (by omega)]
    have e1 : (x' * wdN A w (b + n) + dg (b + n)) / wdN A w (b + n) = x' := by
      rw [Nat.mul_comm, Nat.mul_add_div wp, Nat.div_eq_of_lt hdn, Nat.add_zero]
    have e2 : (x' * wdN A w (b + n) + dg (b + n)) % wdN A w (b + n) = dg (b + n) := by
      rw [Nat.mul_comm, Nat.mul_add_mod, Nat.mod_eq_of_lt hdn]
    rw [e1, e2]
    by_cases q : s = b + n
    · rw [spr_out A w b n _ _ s (by omega), q, upd_eq]
    · exact h2 _ s q1 (by omega)
theorem spX_form {A : Nat → Nat → Int32} {m : Nat → Nat} {P x : Nat} (hP : 0 < P) (hP2 : P < 2147483648) (hx : x < 2147483648) (w c p : Int32) (v : Nat → Int32) : spX A m (jI P) w c p (jI x) v = sprGo A 0 7 (m 3) (jI (x % P)) (sprGo A w 5 (m 2) (jI (x / P)) (sprGo A 0 3 (m 1) p (sprGo A 0 0 (m 0) c v))) := by
  unfold spX spW
  rw [jmax1_N hP hP2, jI_mod hx hP hP2, jI_div hx hP hP2]
section
variable {A : Nat → Nat → Int32} {m F : Nat → Nat}
/-- two worlds, of widths that need not be one, with the same values -/
theorem ldW_same (K : okW A m F) (C : okC A m F) {w w' x x' : Nat} (hx : x < 2147483648) (hx' : x' < 2147483648) (hd : ∀ v s, 5 ≤ s → s < 5 + m 2 → sprGo A (jI w) 5 (m 2) (jI (x / F 15)) v s = sprGo A (jI w') 5 (m 2) (jI (x' / F 15)) v s) (hk : x % F 15 = x' % F 15) (c p : Nat) : ldW A m F w c p x = ldW A m F w' c p x' := by
  have pos := C.pos
  unfold ldW
  refine leadV_congr (fun s hs => ?_) K.2.1
  obtain ⟨k0, k1, k2, k3, -⟩ := K.1.1
  rw [spX_form pos.2.2.1 (by omega) hx, spX_form pos.2.2.1 (by omega) hx', hk]
  by_cases q7 : 7 ≤ s ∧ s < 7 + m 3
  · exact spr_in A 0 7 (m 3) _ _ _ s q7.1 q7.2
  · rw [spr_out A 0 7 (m 3) _ _ s (by omega), spr_out A 0 7 (m 3) _ _ s (by omega)]
    by_cases q5 : 5 ≤ s ∧ s < 5 + m 2
    · exact hd _ s q5.1 q5.2
    · rw [spr_out A _ 5 (m 2) _ _ s (by omega), spr_out A _ 5 (m 2) _ _ s (by omega)]
theorem prtW_le (K : okW A m F) {w : Nat} (hw : w ≤ 2) : prtN A (jI w) 5 (m 2) ≤ 2025 := by
  rw [← oneTwo K.1.1 w]
  have := wide_le (A := A) K.1.1 K.2.2.1 hw
  exact Nat.mul_le_mul this.1 this.2
theorem nWd_le (K : okW A m F) (C : okC A m F) {w : Nat} (hw : w ≤ 2) : nWd A m F w ≤ 54675 := Nat.mul_le_mul (prtW_le K hw) C.pos.2.2.2.2
theorem i32_shift (x a e : Int32) : (x - (a + 1)) + (e + 1) = (x - a) + e := by
  rw [Int32.sub_eq_add_neg, Int32.sub_eq_add_neg, Int32.neg_add, Int32.sub_eq_add_neg, Int32.add_assoc, Int32.add_assoc, Int32.add_assoc, Int32.add_comm e 1, ← Int32.add_assoc (-1) 1 e, Int32.add_left_neg, Int32.zero_add]
theorem dig_shift (x : Int32) (w d : Nat) : (x - jI (w + 1)) + jI (d + 1) = (x - jI w) + jI d := by
  rw [← jI_inc w, ← jI_inc d]
  exact i32_shift _ _ _
theorem wide_up (K : okW A m F) (C : okC A m F) {w : Nat} (hw : w + 1 ≤ 2) {x : Nat} (hx : x < nWd A m F w) : ∃ y, y < nWd A m F (w + 1) ∧ ∀ c p, ldW A m F (w + 1) c p y = ldW A m F w c p x := by
  have pos := C.pos
  have nle := nWd_le K C (show w ≤ 2 by omega)
  have nle1 := nWd_le K C hw
  have hxd : x / F 15 ≤ x := Nat.div_le_self _ _
  have hv : ∀ s, ∃ d, 5 ≤ s → s < 5 + m 2 → d + 1 < wdN A (jI (w + 1)) s ∧ ∀ v, sprGo A (jI w) 5 (m 2) (jI (x / F 15)) v s = (A 3 s - jI w) + jI d := fun s => by
    by_cases q : 5 ≤ s ∧ s < 5 + m 2
    · obtain ⟨d, h1, h2⟩ := spr_val (A := A) (b := 5) (w := jI w) (m 2) (x / F 15) zV s (by omega) q.1 q.2
      refine ⟨d, fun _ _ => ⟨?_, fun v => ?_⟩⟩
      · have hr := K.2.2.1 s (Or.inr (Or.inr (Or.inl q)))
        have e1 := (wdN_Rw hr (show w ≤ 2 by omega)).1
        have e2 := (wdN_Rw hr hw).1
        omega
      · rw [← h2]
        exact spr_in A (jI w) 5 (m 2) _ _ _ s q.1 q.2
    · exact ⟨0, fun z1 z2 => absurd ⟨z1, z2⟩ q⟩
  obtain ⟨y, h1, h2⟩ := spr_sur (A := A) (b := 5) (w := jI (w + 1)) (dg := fun s => Classical.choose (hv s) + 1) (m 2) (by have := prtW_le K hw; omega) (fun s q1 q2 => (Classical.choose_spec (hv s) q1 q2).1)
  have hy : y * F 15 + x % F 15 < nWd A m F (w + 1) := by
    unfold nWd
    have h3 := Nat.mul_le_mul_right (F 15) (show y + 1 ≤ prtN A (jI (w + 1)) 5 (m 2) by omega)
    have h4 := Nat.mod_lt x pos.2.2.1
    rw [Nat.add_mul] at h3
    omega
  have hm := Nat.mod_lt x pos.2.2.1
  have e1 : (y * F 15 + x % F 15) / F 15 = y := by
    rw [Nat.mul_comm, Nat.mul_add_div pos.2.2.1, Nat.div_eq_of_lt hm, Nat.add_zero]
  refine ⟨y * F 15 + x % F 15, hy, fun c p => ldW_same K C (by omega) (by omega) (fun v s q1 q2 => ?_) ?_ c p⟩
  · rw [e1, h2 v s q1 q2, (Classical.choose_spec (hv s) q1 q2).2 v]
    exact dig_shift _ _ _
  · rw [Nat.mul_comm, Nat.mul_add_mod, Nat.mod_mod]
theorem edge_no {w : Int32} {v : Nat → Int32} : ∀ (n s : Nat), edgeGo A w v s n = false → ∀ k, s ≤ k → k < s + n → v k ≠ A 3 k - w ∧ v k ≠ A 4 k + w
  | 0, _, _, _, _, _ => by omega
  | n + 1, s, h, k, h1, h2 => by
    unfold edgeGo at h
    by_cases q1 : v s = A 3 s - w
    · rw [if_pos q1] at h; cases h
    · rw [if_neg q1] at h
      by_cases q2 : v s = A 4 s + w
      · rw [if_pos q2] at h; cases h
      · rw [if_neg q2] at h
        by_cases q : k = s
        · rw [q]; exact ⟨q1, q2⟩
        · exact edge_no n (s + 1) h k (by omega) (by omega)
theorem wide_dn (K : okW A m F) (C : okC A m F) {w : Nat} (hw : w + 1 ≤ 2) {y : Nat} (hy : y < nWd A m F (w + 1)) {vv : Nat → Int32} (hvv : ∀ s, 5 ≤ s → s < 5 + m 2 → vv s = sprGo A (jI (w + 1)) 5 (m 2) (jI (y / F 15)) zV s) (he : edgeGo A (jI (w + 1)) vv 5 (m 2) = false) : ∃ x, x < nWd A m F w ∧ ∀ c p, ldW A m F (w + 1) c p y = ldW A m F w c p x := by
  have pos := C.pos
  have nle := nWd_le K C (show w ≤ 2 by omega)
  have nle1 := nWd_le K C hw
  have hyd : y / F 15 ≤ y := Nat.div_le_self _ _
  have hv : ∀ s, ∃ d, 5 ≤ s → s < 5 + m 2 → d < wdN A (jI w) s ∧ ∀ v, sprGo A (jI (w + 1)) 5 (m 2) (jI (y / F 15)) v s = (A 3 s - jI w) + jI d := fun s => by
    by_cases q : 5 ≤ s ∧ s < 5 + m 2
    · obtain ⟨d, h1, h2⟩ := spr_val (A := A) (b := 5) (w := jI (w + 1)) (m 2) (y / F 15) zV s (by omega) q.1 q.2
      have hr := K.2.2.1 s (Or.inr (Or.inr (Or.inl q)))
      have e1 := wdN_Rw hr (show w ≤ 2 by omega)
      have e2 := wdN_Rw hr hw
      obtain ⟨n1, n2⟩ := edge_no (m 2) 5 he s q.1 q.2
      rw [hvv s q.1 q.2, h2] at n1 n2
      obtain ⟨r1, r2, r3⟩ := hr
      have t1 := (toInt_small (x := A 3 s) (y := jI (w + 1)) (by omega) (by rw [jI_int (by omega)]; omega)).1
      have t2 := (toInt_small (x := A 4 s) (y := jI (w + 1)) (by omega) (by rw [jI_int (by omega)]; omega)).2
      rw [jI_int (by omega)] at t1 t2
      have t3 := (toInt_small (x := A 3 s - jI (w + 1)) (y := jI d) (by omega) (by rw [jI_int (by omega)]; omega)).2
      rw [jI_int (by omega)] at t3
      have d0 : d ≠ 0 := fun z => n1 (by
        apply Int32.toInt_inj.mp
        rw [t3, t1, z]
        omega)
      have dl : d + 1 ≠ wdN A (jI (w + 1)) s := fun z => n2 (by
        apply Int32.toInt_inj.mp
        rw [t3, t1, t2]
        omega)
      refine ⟨d - 1, fun _ _ => ⟨by omega, fun v => ?_⟩⟩
      rw [spr_in A (jI (w + 1)) 5 (m 2) _ v zV s q.1 q.2, h2]
      obtain ⟨d', rfl⟩ : ∃ d', d = d' + 1 := ⟨d - 1, by omega⟩
      exact dig_shift _ _ _
    · exact ⟨0, fun z1 z2 => absurd ⟨z1, z2⟩ q⟩
  obtain ⟨x, h1, h2⟩ := spr_sur (A := A) (b := 5) (w := jI w) (dg := fun s => Classical.choose (hv s)) (m 2) (by have := prtW_le K (show w ≤ 2 by omega); omega) (fun s q1 q2 => (Classical.choose_spec (hv s) q1 q2).1)
  have hx : x * F 15 + y % F 15 < nWd A m F w := by
    unfold nWd
    have h3 := Nat.mul_le_mul_right (F 15) (show x + 1 ≤ prtN A (jI w) 5 (m 2) by omega)
    have h4 := Nat.mod_lt y pos.2.2.1
    rw [Nat.add_mul] at h3
    omega
  have hm := Nat.mod_lt y pos.2.2.1
  have e1 : (x * F 15 + y % F 15) / F 15 = x := by
    rw [Nat.mul_comm, Nat.mul_add_div pos.2.2.1, Nat.div_eq_of_lt hm, Nat.add_zero]
  refine ⟨x * F 15 + y % F 15, hx, fun c p => ldW_same K C (by omega) (by omega) (fun v s q1 q2 => ?_) ?_ c p⟩
  · rw [e1, h2 v s q1 q2, (Classical.choose_spec (hv s) q1 q2).2 v]
  · rw [Nat.mul_comm, Nat.mul_add_mod, Nat.mod_mod]
theorem into_dn (K : okW A m F) (C : okC A m F) {w : Nat} (hw : w + 1 ≤ 2) {c q : Nat} {T : Nat → Bool} (h : intoB (ldW A m F (w + 1) c q) (nWd A m F (w + 1)) T = true) : intoB (ldW A m F w c q) (nWd A m F w) T = true := by
  rw [intoB_all] at h ⊢
  intro x hx
  obtain ⟨y, h1, h2⟩ := wide_up K C hw hx
  rw [← h2 c q]
  exact h y h1
theorem kp_dn (K : okW A m F) (C : okC A m F) {w : Nat} (hw : w + 1 ≤ 2) {P : Nat} {good : Nat → Bool} (r c : Nat) (h : kpS (ldW A m F (w + 1)) P (nWd A m F (w + 1)) good r c = true) : kpS (ldW A m F w) P (nWd A m F w) good r c = true :=
  kp_mono (fun _ _ _ h => into_dn K C hw h) r c h
end
