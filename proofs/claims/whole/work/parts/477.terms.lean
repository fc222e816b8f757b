/-! the reference's terms of a sum: what is meant, and that it is what the class means -/
theorem updL_eq {f : Nat → Int64} {k : Nat} {x : Int64} : vp_updL f k x k = x := by simp [vp_updL]
theorem updL_ne {f : Nat → Int64} {k j : Nat} {x : Int64} (h : j ≠ k) : vp_updL f k x j = f j := by simp [vp_updL, h]
def pNm (a : pFa) : Int32 := if 0 ≤ a.2.1 ∧ a.2.1 < 7 then a.2.1 else -1
def pVl (lo : Nat → Int32) (a : pFa) : Int64 := if 0 ≤ a.2.1 then (if a.2.1 < 7 then 1 else (lo a.2.1.toNatClampNeg).toInt64) else a.2.2.toInt64
def gdN (nm : Int32) (fa : Int64) : Bool := decide (0 ≤ nm) && (decide (-20 ≤ fa) && decide (fa ≤ 20))
def ctN (mi : Bool) (nm : Int32) (fa : Int64) (s : (Nat → Int64) × Bool) : (Nat → Int64) × Bool :=
  if nm = -1 then s else (if nm < 0 then s.1 else vp_updL s.1 nm.toNatClampNeg (s.1 nm.toNatClampNeg + (if mi = true then -fa else fa)), s.2 && gdN nm fa)
def muN (a b : Int32) : Int32 := if a = -1 then b else if b = -1 then a else -2
def clL (x : Int64) : Int64 := jmaxL (-1000000) (jminL 1000000 x)
def liG (lo : Nat → Int32) : List (Int32 × Int32) → Nat → (Nat → Int32) → (Nat → Int64) → (Nat → Int64) × Bool → (Nat → Int64) × Bool
  | [], _, v, p, s => ctN false (v 0) (p 0) s
  | (k, x) :: r, d, v, p, s => if k = 0 then liG lo r (d + 1) (upd v d (-1)) (vp_updL p d x.toInt64) s
    else if k = 1 then liG lo r (d + 1) (upd v d (if x < 7 then x else -1)) (vp_updL p d (if x < 7 then 1 else (lo x.toNatClampNeg).toInt64)) s
    else if k = 4 then liG lo r (d - 1) (upd v (d - 2) (muN (v (d - 2)) (v (d - 1)))) (vp_updL p (d - 2) (clL (p (d - 2) * p (d - 1)))) s
    else if k = 5 then liG lo r d (upd v (d - 1) (-1)) p (ctN true (v (d - 1)) (p (d - 1)) s)
    else liG lo r (d - 1) (upd v (d - 2) (-1)) p (ctN (decide (k = 3)) (v (d - 1)) (p (d - 1)) (ctN false (v (d - 2)) (p (d - 2)) s))
/-- term by term -/
def nlG (lo : Nat → Int32) : List pFa → Bool → Int32 → Int64 → (Nat → Int64) × Bool → (Nat → Int64) × Bool
  | [], mi, nm, fa, s => ctN mi nm fa s
  | a :: r, mi, nm, fa, s => if a.1 = 2 then nlG lo r mi (muN nm (pNm a)) (clL (fa * pVl lo a)) s else nlG lo r (decide (a.1 = 1)) (pNm a) (pVl lo a) (ctN mi nm fa s)
theorem li_itm (lo : Nat → Int32) (a : pFa) (R : List (Int32 × Int32)) (d : Nat) (v : Nat → Int32) (p : Nat → Int64) (s : (Nat → Int64) × Bool) :
    liG lo (itm a :: R) d v p s = liG lo R (d + 1) (upd v d (pNm a)) (vp_updL p d (pVl lo a)) s := by
  unfold itm pNm pVl
  have z10 : ¬ (1 : Int32) = 0 := by decide
  by_cases q : 0 ≤ a.2.1
  · rw [if_pos q, if_pos q]
    by_cases q7 : a.2.1 < 7
    · rw [if_pos ⟨q, q7⟩]
      simp only [liG, z10, if_true, if_false, q7]
    · rw [if_neg (fun z => q7 z.2)]
      simp only [liG, z10, if_true, if_false, q7]
  · rw [if_neg q, if_neg q, if_neg (fun z => q z.1)]
    simp only [liG, if_true]
def rlN (pe : Option Int32) (d : Nat) (v : Nat → Int32) (p : Nat → Int64) (s : (Nat → Int64) × Bool) (mi : Bool) (nm : Int32) (fa : Int64) (s' : (Nat → Int64) × Bool) : Prop :=
  (pe = none ∧ d = 1 ∧ mi = false ∧ v 0 = nm ∧ p 0 = fa ∧ s' = s) ∨ (pe = some 5 ∧ d = 1 ∧ mi = true ∧ v 0 = nm ∧ p 0 = fa ∧ s' = s) ∨
  (pe = some 2 ∧ d = 2 ∧ mi = false ∧ v 1 = nm ∧ p 1 = fa ∧ s' = ctN false (v 0) (p 0) s) ∨ (pe = some 3 ∧ d = 2 ∧ mi = true ∧ v 1 = nm ∧ p 1 = fa ∧ s' = ctN false (v 0) (p 0) s)
theorem ctN_none (mi : Bool) (fa : Int64) (s : (Nat → Int64) × Bool) : ctN mi (-1) fa s = s := if_pos rfl
theorem li_pen {lo : Nat → Int32} {pe : Option Int32} {d : Nat} {v : Nat → Int32} {p : Nat → Int64} {s : (Nat → Int64) × Bool} {mi : Bool} {nm : Int32} {fa : Int64} {s' : (Nat → Int64) × Bool} (H : rlN pe d v p s mi nm fa s') (R : List (Int32 × Int32)) :
    ∃ v' s'', liG lo (penL pe ++ R) d v p s = liG lo R 1 v' p s'' ∧ ctN false (v' 0) (p 0) s'' = ctN mi nm fa s' := by
  rcases H with ⟨rfl, rfl, rfl, rfl, rfl, rfl⟩ | ⟨rfl, rfl, rfl, rfl, rfl, rfl⟩ | ⟨rfl, rfl, rfl, rfl, rfl, rfl⟩ | ⟨rfl, rfl, rfl, rfl, rfl, rfl⟩
  · exact ⟨v, s', rfl, rfl⟩
  · exact ⟨upd v 0 (-1), ctN true (v 0) (p 0) s', rfl, by rw [upd_eq, ctN_none]⟩
  · exact ⟨upd v 0 (-1), ctN false (v 1) (p 1) (ctN false (v 0) (p 0) s), rfl, by rw [upd_eq, ctN_none]⟩
  · exact ⟨upd v 0 (-1), ctN true (v 1) (p 1) (ctN false (v 0) (p 0) s), rfl, by rw [upd_eq, ctN_none]⟩
theorem li_post {lo : Nat → Int32} : ∀ (l : List pFa) (pe : Option Int32) (d : Nat) (v : Nat → Int32) (p : Nat → Int64) (s : (Nat → Int64) × Bool) (mi : Bool) (nm : Int32) (fa : Int64) (s' : (Nat → Int64) × Bool), rlN pe d v p s mi nm fa s' →
    liG lo (postGo pe l) d v p s = nlG lo l mi nm fa s'
  | [], pe, d, v, p, s, mi, nm, fa, s', H => by
    obtain ⟨v', s'', e1, e2⟩ := li_pen (lo := lo) H []
    rw [List.append_nil] at e1
    show liG lo (penL pe) d v p s = ctN mi nm fa s'
    rw [e1, ← e2]
    rfl
  | a :: r, pe, d, v, p, s, mi, nm, fa, s', H => by
    unfold postGo nlG
    by_cases q : a.1 = 2
    · rw [if_pos q, if_pos q, li_itm]
      have a1 : ¬ (4 : Int32) = 0 := by decide
      have a2 : ¬ (4 : Int32) = 1 := by decide
      have e : liG lo ((4, 0) :: postGo pe r) (d + 1) (upd v d (pNm a)) (vp_updL p d (pVl lo a)) s = liG lo (postGo pe r) d (upd (upd v d (pNm a)) (d - 1) (muN (upd v d (pNm a) (d - 1)) (upd v d (pNm a) d))) (vp_updL (vp_updL p d (pVl lo a)) (d - 1) (clL (vp_updL p d (pVl lo a) (d - 1) * vp_updL p d (pVl lo a) d))) s := by
        simp only [liG, a1, a2, if_true, if_false, Nat.add_sub_cancel]
        rw [show d + 1 - 2 = d - 1 by omega]
      rw [e]
      refine li_post r pe d _ _ s mi _ _ s' ?_
      rcases H with ⟨rfl, rfl, rfl, rfl, rfl, rfl⟩ | ⟨rfl, rfl, rfl, rfl, rfl, rfl⟩ | ⟨rfl, rfl, rfl, rfl, rfl, rfl⟩ | ⟨rfl, rfl, rfl, rfl, rfl, rfl⟩
      · refine Or.inl ⟨rfl, rfl, rfl, ?_, ?_, rfl⟩
        · show upd _ 0 _ 0 = _; rw [upd_eq, upd_eq, upd_ne (by decide)]
        · show vp_updL _ 0 _ 0 = _; rw [updL_eq, updL_eq, updL_ne (by decide)]
      · refine Or.inr (Or.inl ⟨rfl, rfl, rfl, ?_, ?_, rfl⟩)
        · show upd _ 0 _ 0 = _; rw [upd_eq, upd_eq, upd_ne (by decide)]
        · show vp_updL _ 0 _ 0 = _; rw [updL_eq, updL_eq, updL_ne (by decide)]
      · refine Or.inr (Or.inr (Or.inl ⟨rfl, rfl, rfl, ?_, ?_, ?_⟩))
        · show upd _ 1 _ 1 = _; rw [upd_eq, upd_eq, upd_ne (by decide)]
        · show vp_updL _ 1 _ 1 = _; rw [updL_eq, updL_eq, updL_ne (by decide)]
        · rw [upd_ne (by decide), upd_ne (by decide), updL_ne (by decide), updL_ne (by decide)]
      · refine Or.inr (Or.inr (Or.inr ⟨rfl, rfl, rfl, ?_, ?_, ?_⟩))
        · show upd _ 1 _ 1 = _; rw [upd_eq, upd_eq, upd_ne (by decide)]
        · show vp_updL _ 1 _ 1 = _; rw [updL_eq, updL_eq, updL_ne (by decide)]
        · rw [upd_ne (by decide), upd_ne (by decide), updL_ne (by decide), updL_ne (by decide)]
    · rw [if_neg q, if_neg q]
      obtain ⟨v', s'', e1, e2⟩ := li_pen (lo := lo) H (itm a :: postGo (some (if a.1 = 1 then 3 else 2)) r)
      rw [e1, li_itm]
      refine li_post r _ 2 _ _ s'' _ _ _ _ ?_
      by_cases q1 : a.1 = 1
      · rw [if_pos q1]
        refine Or.inr (Or.inr (Or.inr ⟨rfl, rfl, decide_eq_true q1, upd_eq, updL_eq, ?_⟩))
        rw [upd_ne (by decide), updL_ne (by decide)]
        exact e2.symm
      · rw [if_neg q1]
        refine Or.inr (Or.inr (Or.inl ⟨rfl, rfl, decide_eq_false q1, upd_eq, updL_eq, ?_⟩))
        rw [upd_ne (by decide), updL_ne (by decide)]
        exact e2.symm
theorem ctN_bad {mi : Bool} {nm : Int32} {fa : Int64} {s : (Nat → Int64) × Bool} (h : s.2 = false) : (ctN mi nm fa s).2 = false := by
  unfold ctN
  by_cases q : nm = -1
  · rw [if_pos q]; exact h
  · rw [if_neg q]
    show (s.2 && gdN nm fa) = false
    rw [h]; rfl
theorem nl_bad {lo : Nat → Int32} : ∀ (l : List pFa) (mi : Bool) (nm : Int32) (fa : Int64) (s : (Nat → Int64) × Bool), (s.2 = false ∨ nm = -2) → (nlG lo l mi nm fa s).2 = false
  | [], mi, nm, fa, s, H => by
    show (ctN mi nm fa s).2 = false
    rcases H with h | rfl
    · exact ctN_bad h
    · show (s.2 && gdN (-2) fa) = false
      have : gdN (-2) fa = false := rfl
      rw [this, Bool.and_false]
  | a :: r, mi, nm, fa, s, H => by
    unfold nlG
    by_cases q : a.1 = 2
    · rw [if_pos q]
      refine nl_bad r mi _ _ s (H.elim Or.inl (fun z => Or.inr ?_))
      rw [z]
      unfold muN
      rw [if_neg (by decide)]
      split <;> rfl
    · rw [if_neg q]
      refine nl_bad r _ _ _ _ (Or.inl ?_)
      rcases H with h | rfl
      · exact ctN_bad h
      · show (s.2 && gdN (-2) fa) = false
        have : gdN (-2) fa = false := rfl
        rw [this, Bool.and_false]
theorem clL_int (x : Int64) : (clL x).toInt = cz x.toInt := by
  have e1 : (1000000 : Int64).toInt = 1000000 := rfl
  have e2 : (-1000000 : Int64).toInt = -1000000 := rfl
  show (jmaxL (-1000000) (jminL 1000000 x)).toInt = max (-1000000) (min 1000000 x.toInt)
  unfold jmaxL jminL
  split
  · split at * <;> rename_i h1 h2
    all_goals (rw [Int64.lt_iff_toInt_lt] at *; omega)
  · split at * <;> rename_i h1 h2
    all_goals (rw [Int64.lt_iff_toInt_lt] at *; omega)
/-- the class's amount and the reference's factor -/
def rlF (mi : Bool) (am : Int32) (fa : Int64) : Prop := fa.toInt = (if mi = true then -am.toInt else am.toInt) ∧ sm 1000000 am
/-- what the class has and what the reference has -/
def rlP (P : Nat → Int32) (p : Nat → Int64) (c : Int) : Prop := ∀ k, k < 7 → (p k).toInt = (P k).toInt ∧ sm c (P k)
theorem ct_add {mi : Bool} {nm am : Int32} {fa : Int64} {P : Nat → Int32} {p : Nat → Int64} {c : Int} (hn : okNm nm) (hf : rlF mi am fa) (hp : rlP P p c) (hc : c ≤ 100000) :
    (ctN mi nm fa (p, true)).2 = (addT nm am P).isSome ∧ ∀ P', addT nm am P = some P' → rlP P' (ctN mi nm fa (p, true)).1 (c + 20) := by
  rcases hn with rfl | ⟨s, rfl, hs⟩
  · refine ⟨rfl, fun P' e => ?_⟩
    have e' : some P = some P' := e
    cases e'
    intro k hk
    obtain ⟨h1, h2⟩ := hp k hk
    refine ⟨h1, ?_⟩
    unfold sm at h2 ⊢
    omega
  · have n1 : ¬ jI s < 0 := jI_neg (by omega)
    have n2 : ¬ jI s = -1 := fun z => n1 (by rw [z]; decide)
    have n0 : (0 : Int32) ≤ jI s := i32_nlt.mp n1
    have ec : ctN mi (jI s) fa (p, true) = (vp_updL p s (p s + (if mi = true then -fa else fa)), gdN (jI s) fa) := by
      unfold ctN
      rw [if_neg n2, if_neg n1, jI_cl (by omega), Bool.true_and]
    have e20 : (20 : Int64).toInt = 20 := rfl
    have em20 : (-20 : Int64).toInt = -20 := rfl
    have f20 : (20 : Int32).toInt = 20 := rfl
    have fm20 : (-20 : Int32).toInt = -20 := rfl
    have hg : gdN (jI s) fa = decide (-20 ≤ am.toInt ∧ am.toInt ≤ 20) := by
      unfold gdN
      rw [decide_eq_true n0, Bool.true_and, ← Bool.decide_and]
      refine decide_eq_decide.mpr ?_
      rw [Int64.le_iff_toInt_le, Int64.le_iff_toInt_le, e20, em20, hf.1]
      cases mi
      · exact Iff.rfl
      · rw [if_pos rfl]; omega
    rw [ec, hg]
    by_cases q : -20 ≤ am.toInt ∧ am.toInt ≤ 20
    · have ea : addT (jI s) am P = some (upd P s (P s + am)) := by
        unfold addT
        rw [if_neg n1, if_neg (by rw [Int32.lt_iff_toInt_lt, fm20]; omega), if_pos (by rw [Int32.le_iff_toInt_le, f20]; omega), jI_cl (by omega)]
      rw [ea]
      refine ⟨decide_eq_true q, fun P' e => ?_⟩
      cases e
      intro k hk
      obtain ⟨h1, h2⟩ := hp k hk
      show (vp_updL p s (p s + (if mi = true then -fa else fa)) k).toInt = _ ∧ _
      by_cases u : k = s
      · subst u
        rw [upd_eq, updL_eq]
        unfold sm at h2 ⊢
        rw [Int32.toInt_add, Int64.toInt_add, h1]
        have e0 : (if mi = true then -fa else fa).toInt = am.toInt := by
          cases mi
          · exact hf.1
          · rw [if_pos rfl, Int64.toInt_neg, hf.1, if_pos rfl, Int.neg_neg]
            exact Int.bmod_eq_of_le (by omega) (by omega)
        rw [e0, Int.bmod_eq_of_le (by omega) (by omega), Int.bmod_eq_of_le (by omega) (by omega)]
        omega
      · rw [upd_ne u, updL_ne u]
        refine ⟨h1, ?_⟩
        unfold sm at h2 ⊢
        omega
    · have ea : addT (jI s) am P = none := by
        unfold addT
        rw [if_neg n1]
        by_cases w : am < -20
        · rw [if_pos w]
        · rw [if_neg w, if_neg]
          intro z
          rw [Int32.le_iff_toInt_le, f20] at z
          rw [Int32.lt_iff_toInt_lt, fm20] at w
          exact q ⟨by omega, z⟩
      rw [ea]
      exact ⟨decide_eq_false q, fun P' e => by cases e⟩
theorem cz_neg (x : Int) : cz (-x) = -cz x := by
  unfold cz
  omega
def lvl (lo : Nat → Int32) (a : pFa) : Int32 := if a.2.1 < 0 then a.2.2 else lo a.2.1.toNatClampNeg
theorem pVl_un {lo : Nat → Int32} {a : pFa} (h : ¬ (0 ≤ a.2.1 ∧ a.2.1 < 7)) : pVl lo a = (lvl lo a).toInt64 ∧ pNm a = -1 := by
  unfold pVl lvl pNm
  rw [if_neg h]
  refine ⟨?_, rfl⟩
  by_cases q : a.2.1 < 0
  · rw [if_neg (i32_nle.mpr q), if_pos q]
  · rw [if_pos (i32_nlt.mp q), if_neg q, if_neg (fun z => h ⟨i32_nlt.mp q, z⟩)]
theorem rlF.mul {mi : Bool} {am : Int32} {fa : Int64} (h : rlF mi am fa) {x : Int32} (hx : sm 1000 x) : rlF mi (cl6 (am * x)) (clL (fa * x.toInt64)) := by
  refine ⟨?_, cl6_sm _⟩
  obtain ⟨h1, h2⟩ := h
  have r := mul_rng (a := am.toInt) (b := x.toInt) h2 hx
  rw [clL_int, cl6_int, Int64.toInt_mul, Int32.toInt_mul, i64_of, h1, show (am.toInt * x.toInt).bmod (2 ^ 32) = am.toInt * x.toInt from Int.bmod_eq_of_le (by omega) (by omega)]
  cases mi
  · rw [if_neg (by decide), if_neg (by decide), Int.bmod_eq_of_le (by omega) (by omega)]
  · rw [if_pos rfl, if_pos rfl, Int.neg_mul, Int.bmod_eq_of_le (by omega) (by omega), cz_neg]
theorem rlF.one {mi : Bool} {am : Int32} {fa : Int64} (h : rlF mi am fa) : clL (fa * 1) = fa := by
  apply Int64.toInt_inj.mp
  obtain ⟨h1, h2⟩ := h
  unfold sm at h2
  rw [clL_int, Int64.mul_one]
  unfold cz
  cases mi
  · rw [if_neg (by decide)] at h1; omega
  · rw [if_pos rfl] at h1; omega
theorem rlF.unit (q : Bool) : rlF q (if q = true then -1 else 1) 1 := by cases q <;> exact ⟨rfl, by unfold sm; decide⟩
theorem rlF.first (q : Bool) {x : Int32} (hx : sm 1000 x) : rlF q (cl6 ((if q = true then -1 else 1) * x)) x.toInt64 := by
  have h := (rlF.unit q).mul hx
  have e : clL (1 * x.toInt64) = x.toInt64 := by
    apply Int64.toInt_inj.mp
    unfold sm at hx
    rw [clL_int, Int64.one_mul, i64_of]
    unfold cz
    omega
  rw [e] at h
  exact h
theorem rlP.mono {P : Nat → Int32} {p : Nat → Int64} {c c' : Int} (h : rlP P p c) (hc : c ≤ c') : rlP P p c' := fun k hk => by
  obtain ⟨h1, h2⟩ := h k hk
  refine ⟨h1, ?_⟩
  unfold sm at h2 ⊢
  omega
theorem muN_un {nm : Int32} : muN nm (-1) = nm := by
  unfold muN
  by_cases q : nm = -1
  · rw [if_pos q, q]
  · rw [if_neg q, if_pos rfl]
theorem nl_ln {lo : Nat → Int32} : ∀ (l : List pFa) (mi : Bool) (nm am : Int32) (fa : Int64) (P : Nat → Int32) (p : Nat → Int64) (c : Int), (∀ a ∈ l, ¬ (0 ≤ a.2.1 ∧ a.2.1 < 7) → sm 1000 (lvl lo a)) → okNm nm → rlF mi am fa → rlP P p c → c + 20 * ((l.length : Int) + 1) ≤ 100000 →
    (nlG lo l mi nm fa (p, true)).2 = (lnG lo l nm am P).isSome ∧ ∀ P', lnG lo l nm am P = some P' → rlP P' (nlG lo l mi nm fa (p, true)).1 (c + 20 * ((l.length : Int) + 1))
  | [], mi, nm, am, fa, P, p, c, _, hn, hf, hp, hc => by
    have e : (([] : List pFa).length : Int) = 0 := rfl
    rw [e] at hc ⊢
    exact ct_add hn hf hp (by omega)
  | a :: r, mi, nm, am, fa, P, p, c, hv, hn, hf, hp, hc => by
    have el : ((a :: r).length : Int) = (r.length : Int) + 1 := by simp
    rw [el] at hc ⊢
    have hr := fun x hx => hv x (List.mem_cons_of_mem a hx)
    have ih := fun mi nm am fa P p c => nl_ln r mi nm am fa P p c hr
    have named : 0 ≤ a.2.1 ∧ a.2.1 < 7 → pNm a = a.2.1 ∧ pVl lo a = 1 ∧ okNm a.2.1 ∧ a.2.1 ≠ -1 := fun q => by
      refine ⟨if_pos q, ?_, Or.inr ⟨a.2.1.toNatClampNeg, jI_of (i32_nlt.mpr q.1), ?_⟩, fun z => ?_⟩
      · unfold pVl; rw [if_pos q.1, if_pos q.2]
      · have e := jI_of (i32_nlt.mpr q.1)
        have q2 := q.2
        obtain ⟨n, hn⟩ : ∃ n, n = a.2.1.toNatClampNeg := ⟨_, rfl⟩
        rw [← hn] at e ⊢
        have hn2 : n < 2147483648 := by
          rw [hn]
          have h1 : a.2.1.toInt < 7 := by rw [Int32.lt_iff_toInt_lt] at q2; exact q2
          unfold Int32.toNatClampNeg
          omega
        rw [e] at q2
        exact (jI_lt (k := 7) hn2 (by omega)).mp q2
      · have := q.1; rw [z] at this; exact absurd this (by decide)
    unfold nlG
    by_cases j2 : a.1 = 2
    · have eL : lnG lo (a :: r) nm am P = if 0 ≤ a.2.1 ∧ a.2.1 < 7 then (if 0 ≤ nm then none else lnG lo r a.2.1 am P) else lnG lo r nm (cl6 (am * lvl lo a)) P := by
        show ((if a.1 = 2 then some (nm, am, P) else (addT nm am P).bind fun P' => some (-1, if a.1 = 1 then -1 else 1, P')).bind _) = _
        rw [if_pos j2, Option.bind_some]
        rfl
      rw [eL, if_pos j2]
      by_cases q : 0 ≤ a.2.1 ∧ a.2.1 < 7
      · obtain ⟨n1, n2, n3, n4⟩ := named q
        rw [if_pos q, n1, n2]
        by_cases w : 0 ≤ nm
        · rw [if_pos w]
          have hne : nm ≠ -1 := fun z => by rw [z] at w; exact absurd w (by decide)
          have em : muN nm a.2.1 = -2 := by unfold muN; rw [if_neg hne, if_neg n4]
          rw [em]
          exact ⟨nl_bad r mi (-2) _ _ (Or.inr rfl), fun P' e => by cases e⟩
        · rw [if_neg w]
          have en : nm = -1 := (hn.neg.1).mp (i32_nle.mp w)
          have em : muN nm a.2.1 = a.2.1 := by unfold muN; rw [if_pos en]
          rw [em, hf.one]
          obtain ⟨i1, i2⟩ := ih mi a.2.1 am fa P p c n3 hf hp (by omega)
          exact ⟨i1, fun P' e => (i2 P' e).mono (by omega)⟩
      · obtain ⟨u1, u2⟩ := pVl_un (lo := lo) q
        rw [if_neg q, u1, u2, muN_un]
        obtain ⟨i1, i2⟩ := ih mi nm (cl6 (am * lvl lo a)) _ P p c hn (hf.mul (hv a List.mem_cons_self q)) hp (by omega)
        exact ⟨i1, fun P' e => (i2 P' e).mono (by omega)⟩
    · obtain ⟨c1, c2⟩ := ct_add hn hf hp (show c ≤ 100000 by omega)
      rw [if_neg j2]
      cases ea : addT nm am P with
      | none =>
        have eL : lnG lo (a :: r) nm am P = none := by
          show ((if a.1 = 2 then some (nm, am, P) else (addT nm am P).bind fun P' => some (-1, if a.1 = 1 then -1 else 1, P')).bind _) = _
          rw [if_neg j2, ea]
          rfl
        rw [ea] at c1
        rw [eL]
        exact ⟨nl_bad r _ _ _ _ (Or.inl c1), fun P' e => by cases e⟩
      | some P1 =>
        rw [ea] at c1
        have hp1 := c2 P1 ea
        obtain ⟨s1, hs1⟩ : ∃ s1, s1 = ctN mi nm fa (p, true) := ⟨_, rfl⟩
        rw [← hs1] at c1 hp1 ⊢
        have es : s1 = (s1.1, true) := Prod.ext rfl c1
        rw [es]
        have eL : lnG lo (a :: r) nm am P = if 0 ≤ a.2.1 ∧ a.2.1 < 7 then lnG lo r a.2.1 (if decide (a.1 = 1) = true then -1 else 1) P1 else lnG lo r (-1) (cl6 ((if decide (a.1 = 1) = true then -1 else 1) * lvl lo a)) P1 := by
          show ((if a.1 = 2 then some (nm, am, P) else (addT nm am P).bind fun P' => some (-1, if a.1 = 1 then -1 else 1, P')).bind _) = _
          rw [if_neg j2, ea, Option.bind_some, Option.bind_some]
          by_cases w : a.1 = 1
          · rw [if_pos w, if_pos (decide_eq_true w)]
            rfl
          · rw [if_neg w, if_neg (show ¬ decide (a.1 = 1) = true by rw [decide_eq_false w]; decide)]
            rfl
        rw [eL]
        by_cases q : 0 ≤ a.2.1 ∧ a.2.1 < 7
        · obtain ⟨n1, n2, n3, n4⟩ := named q
          rw [if_pos q, n1, n2]
          obtain ⟨i1, i2⟩ := ih (decide (a.1 = 1)) a.2.1 _ 1 P1 s1.1 (c + 20) n3 (rlF.unit _) hp1 (by omega)
          exact ⟨i1, fun P' e => (i2 P' e).mono (by omega)⟩
        · obtain ⟨u1, u2⟩ := pVl_un (lo := lo) q
          rw [if_neg q, u1, u2]
          obtain ⟨i1, i2⟩ := ih (decide (a.1 = 1)) (-1) _ _ P1 s1.1 (c + 20) (Or.inl rfl) (rlF.first _ (hv a List.mem_cons_self q)) hp1 (by omega)
          exact ⟨i1, fun P' e => (i2 P' e).mono (by omega)⟩
/-- the whole sum -/
theorem li_ln {lo : Nat → Int32} {l : List pFa} (h1 : ∃ a r, l = a :: r ∧ (a.1 = 0 ∨ a.1 = 1)) (h2 : ∀ a ∈ l, ¬ (0 ≤ a.2.1 ∧ a.2.1 < 7) → sm 1000 (lvl lo a)) (h3 : l.length ≤ 60) (v : Nat → Int32) (p z : Nat → Int64) (hz : ∀ k, k < 7 → z k = 0) :
    (liG lo (postV l) 0 v p (z, true)).2 = (lnG lo l (-1) 0 (fun _ => 0)).isSome ∧ (∀ P', lnG lo l (-1) 0 (fun _ => 0) = some P' → rlP P' (liG lo (postV l) 0 v p (z, true)).1 2000) ∧ (liG lo (postV l) 0 v p (z, false)).2 = false := by
  obtain ⟨a, r, rfl, ha⟩ := h1
  have el : (a :: r).length = r.length + 1 := rfl
  have e : ∀ q : Bool, liG lo (postV (a :: r)) 0 v p (z, q) = nlG lo r (decide (a.1 = 1)) (pNm a) (pVl lo a) (z, q) := fun q => by
    unfold postV
    rw [li_itm]
    refine li_post r _ 1 _ _ _ _ _ _ _ ?_
    by_cases w : a.1 = 1
    · rw [if_pos w]
      exact Or.inr (Or.inl ⟨rfl, rfl, decide_eq_true w, upd_eq, updL_eq, rfl⟩)
    · rw [if_neg w]
      exact Or.inl ⟨rfl, rfl, decide_eq_false w, upd_eq, updL_eq, rfl⟩
  have j2 : ¬ a.1 = 2 := fun u => by rcases ha with q | q <;> (rw [q] at u; exact absurd u (by decide))
  have key := nl_ln (lo := lo) (a :: r) false (-1) 0 0 (fun _ => 0) z 0 h2 (Or.inl rfl) ⟨rfl, by unfold sm; decide⟩ (fun k hk => ⟨by rw [hz k hk]; rfl, (show sm 0 (0 : Int32) by unfold sm; decide)⟩) (by omega)
  have en : ∀ q : Bool, nlG lo (a :: r) false (-1) 0 (z, q) = nlG lo r (decide (a.1 = 1)) (pNm a) (pVl lo a) (z, q) := fun q => by
    show (if a.1 = 2 then _ else _) = _
    rw [if_neg j2, ctN_none]
  rw [en] at key
  rw [e, e]
  exact ⟨key.1, fun P' u => (key.2 P' u).mono (by omega), nl_bad r _ _ _ _ (Or.inl rfl)⟩
