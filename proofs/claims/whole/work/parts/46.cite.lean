section A6
variable {A : yM} {M I : Mt} {hI : Nat} {T : Nat → Nat → Nat} {c : Nat → Nat → Int32} {g : Nat} {n : Nat}
theorem isB21 : isB 21 := Or.inr (Or.inl rfl)
/-- memory in which the COLLEGE still lies -/
theorem Sc_C {A A' : yM} (hc : Col A 2 M) (h : Sc A A') : Col A' 2 M := Col_Sc hc h
theorem ci_class (hg : Good M) {s o : Nat} (hs : s < M 0 0) (ho : o < 6) (hin : M 3 s = 1) (hE : M 0 1 < 12) : ∀ (j k : Nat) (A : yM), k + j = M 0 1 → Col A 2 M → ∃ A', yb_X11_cite (ycall 19) (49, [some (.ref 1), some (.int (nI s)), some (.int (nI o)), some (.int (ocd (bst (fun e => marksN (aeN M s 0 0 e) o) k))), some (.int (obd (fun e => marksN (aeN M s 0 0 e) o) (bst (fun e => marksN (aeN M s 0 0 e) o) k))), some (.int (nI k)), none], [], A) = some (some (.int (ocd (bst (fun e => marksN (aeN M s 0 0 e) o) (M 0 1)))), A') ∧ Sc A A' := by
  intro j
  induction j with
  | zero =>
    intro k A hk hc
    refine ⟨A, ?_, Sc_r A⟩
    refine (bk_X11_cite_49 ..).trans ?_
    have : k = M 0 1 := by omega
    subst this
    simp (disch := omega) only [xR, cgI hc.1, cE hc, l_lit, nI_add, nI_mul, yi_b, yv_b, yl_b, if_true, if_false, or_true, true_or, or_false, false_or, and_true, true_and, and_false, false_and, not_true_eq_false, not_false_eq_true, Nat.reduceEqDiff, ↓reduceIte, nI_eq, nI_leI, nI_ltI, Nat.le_refl]
  | succ j ih =>
    intro k A hk hc
    obtain ⟨A1, a1, a2, a3⟩ := X0_become_ok (n := 19) (by omega) hc isB21 (by omega) hg
    obtain ⟨A2, b1, b2, b3⟩ := X0_addError_ok (n := 19) (by omega) a2 hg (s := s) (t := 0) (z := 0) (c := k) hs (by omega) (by omega) (Or.inr (by omega)) hE hin
    have hs2 : Sc A A2 := Sc_Fr (Fr_t a3 b3)
    obtain ⟨A3, c1, c2⟩ := ih (k + 1) A2 (by omega) (Col_Sc hc hs2)
    have hg2 := aeN_good hg hs (show 0 < 6 by omega) (show 0 < 100 by omega) (Or.inr (show k < M 0 1 by omega)) hE
    refine ⟨A3, ?_, Sc_t hs2 c2⟩
    rw [← c1]
    refine (bk_X11_cite_49 ..).trans ?_
    have m1 := marksN_le hg2 o
    rw [bst_s]
    cases hb : bst (fun e => marksN (aeN M s 0 0 e) o) k with
    | none =>
      simp (disch := omega) only [xR, cgI hc.1, cE hc, cV hc.1, cV a2.1, l_lit, nI_add, nI_mul, yi_b, yv_b, yl_b, if_true, if_false, or_true, true_or, or_false, false_or, and_true, true_and, and_false, false_and, not_true_eq_false, not_false_eq_true, Nat.reduceEqDiff, ↓reduceIte, nI_eq, nI_leI, nI_ltI, Nat.not_le.mpr (show k < M 0 1 by omega), a1, b1, X0_marksOf_ok _ b2 hg2, obd, ocd, neg1le]
    | some i =>
      have hi := bst_lt hb
      have hg3 := aeN_good hg hs (show 0 < 6 by omega) (show 0 < 100 by omega) (Or.inr (show i < M 0 1 by omega)) hE
      have m2 := marksN_le hg3 o
      simp (disch := omega) only [xR, cgI hc.1, cE hc, cV hc.1, cV a2.1, l_lit, nI_add, nI_mul, yi_b, yv_b, yl_b, if_true, if_false, or_true, true_or, or_false, false_or, and_true, true_and, and_false, false_and, not_true_eq_false, not_false_eq_true, Nat.reduceEqDiff, ↓reduceIte, nI_eq, nI_leI, nI_ltI, Nat.not_le.mpr (show k < M 0 1 by omega), a1, b1, X0_marksOf_ok _ b2 hg2, obd, ocd]
      by_cases h : marksN (aeN M s 0 0 i) o < marksN (aeN M s 0 0 k) o
      · simp [h, Nat.not_le.mpr h, obd, ocd]
      · simp [h, Nat.not_lt.mp h, obd, ocd]
theorem ci_ref (hg : Good M) {s o : Nat} (hs : s < M 0 0) (ho : o < 6) (hE : M 0 1 < 12) : ∀ (j k : Nat) (A : yM), k + j = M 0 1 → Row A 80 M → ∃ A', yb_X12_cite (ycall 19) (46, [some (.ref 79), some (.int (nI s)), some (.int (nI o)), some (.int (ocd (bst (fun e => marksN (aeN M s 0 0 e) o) k))), some (.int (obd (fun e => marksN (aeN M s 0 0 e) o) (bst (fun e => marksN (aeN M s 0 0 e) o) k))), some (.int (nI k)), none], [], A) = some (some (.int (ocd (bst (fun e => marksN (aeN M s 0 0 e) o) (M 0 1)))), A') ∧ Sc A A' := by
  intro j
  induction j with
  | zero =>
    intro k A hk hr
    refine ⟨A, ?_, Sc_r A⟩
    refine (bk_X12_cite_46 ..).trans ?_
    have : k = M 0 1 := by omega
    subst this
    simp (disch := omega) only [mR, qD hr.1, rE hr, l_lit, nI_add, nI_mul, yi_b, yv_b, yl_b, if_true, if_false, or_true, true_or, or_false, false_or, and_true, true_and, and_false, false_and, not_true_eq_false, not_false_eq_true, Nat.reduceEqDiff, ↓reduceIte, nI_eq, nI_leI, nI_ltI, Nat.le_refl]
  | succ j ih =>
    intro k A hk hr
    obtain ⟨A1, a1, a2, a3⟩ := X12_copies_ok (n := 19) (by omega) hr hg (q2 := 81) (by omega) (by omega)
    obtain ⟨A2, b1, b2, b3⟩ := X12_errsIn_ok (n := 19) (by omega) a2 hg (s := s) (t := 0) (z := 0) (c := k) hE
    have hs2 : Sc A A2 := Sc_Fq (Or.inl rfl) (Fq_t a3 b3)
    obtain ⟨A3, c1, c2⟩ := ih (k + 1) A2 (by omega) (Row_Sc hr hs2)
    have hg2 := aeN_good hg hs (show 0 < 6 by omega) (show 0 < 100 by omega) (Or.inr (show k < M 0 1 by omega)) hE
    refine ⟨A3, ?_, Sc_t hs2 c2⟩
    rw [← c1]
    refine (bk_X12_cite_46 ..).trans ?_
    have m1 := marksN_le hg2 o
    rw [bst_s]
    cases hb : bst (fun e => marksN (aeN M s 0 0 e) o) k with
    | none =>
      simp (disch := omega) only [mR, qD hr.1, rE hr, l_lit, nI_add, nI_mul, yi_b, yv_b, yl_b, if_true, if_false, or_true, true_or, or_false, false_or, and_true, true_and, and_false, false_and, not_true_eq_false, not_false_eq_true, Nat.reduceEqDiff, ↓reduceIte, nI_eq, nI_leI, nI_ltI, Nat.not_le.mpr (show k < M 0 1 by omega), Nat.not_le.mpr hE, a1, b1, X12_marksOf_ok _ b2 hg2, obd, ocd, neg1]
    | some i =>
      have hi := bst_lt hb
      have hg3 := aeN_good hg hs (show 0 < 6 by omega) (show 0 < 100 by omega) (Or.inr (show i < M 0 1 by omega)) hE
      have m2 := marksN_le hg3 o
      simp (disch := omega) only [mR, qD hr.1, rE hr, l_lit, nI_add, nI_mul, yi_b, yv_b, yl_b, if_true, if_false, or_true, true_or, or_false, false_or, and_true, true_and, and_false, false_and, not_true_eq_false, not_false_eq_true, Nat.reduceEqDiff, ↓reduceIte, nI_eq, nI_leI, nI_ltI, Nat.not_le.mpr (show k < M 0 1 by omega), Nat.not_le.mpr hE, a1, b1, X12_marksOf_ok _ b2 hg2, obd, ocd]
      by_cases h : marksN (aeN M s 0 0 i) o < marksN (aeN M s 0 0 k) o
      · simp [h, obd, ocd]
      · simp [h, obd, ocd]
theorem two_no {s o : Int32} {S : Nat} (h : (okI s S && okI o S && decide (s ≠ o)) = false) : okI s S = false ∨ (okI s S = true ∧ okI o S = false) ∨ (okI s S = true ∧ okI o S = true ∧ s = o) := by
  by_cases h1 : okI s S = true
  · by_cases h2 : okI o S = true
    · right; right
      refine ⟨h1, h2, ?_⟩
      simpa [h1, h2] using h
    · exact Or.inr (Or.inl ⟨h1, okI_f h2⟩)
  · exact Or.inl (okI_f h1)
theorem api_cite (hi : InvX A M I hI T c g) (s o : Int32) : Api 89 187 [.int s, .int o] A g := by
  have hc := iC hi
  have hg := iG hi
  have hS := gS hg
  have hE := gE hg
  by_cases htw : (okI s (M 0 0) && okI o (M 0 0) && decide (s ≠ o)) = true
  · have h0 := htw
    simp only [Bool.and_eq_true, decide_eq_true_eq] at h0
    obtain ⟨⟨ys, yo⟩, hne⟩ := h0
    obtain ⟨s, hs, rfl⟩ := okI_of (by omega) ys
    obtain ⟨o, ho, rfl⟩ := okI_of (by omega) yo
    have hne2 : (nI s = nI o) = False := eq_false hne
    have h2 := gP hg hs
    have h3 : M 3 s = 0 ∨ M 3 s = 1 := by omega
    rcases h3 with h3 | h3
    · refine api_read hi (.int (-3)) ⟨_, ?_, Sc_r A⟩ (fun A1 hi => ⟨_, ?_, Sc_r A1⟩)
      · simp (disch := omega) only [en_X11_cite, xV, X11_areTwo_ok _ hc, htw, bI_t, yi_b, l_lit, xR, cV hc.1, X0_isIn_ok _ hc hg hs, h3, nI_eq, Nat.one_ne_zero, if_true, if_false]
      · have hr := iR hi
        simp (disch := omega) only [en_X12_cite, mV, mR, X12_isStudent_ok _ hr hg, ys, yo, bI_t, yi_b, l_lit, hne2, X12_isThere_ok _ hr hg hs, h3, nI_eq (a := 1), nI_eq (a := 0), Nat.one_ne_zero, if_true, if_false]
    · by_cases h12 : M 0 1 = 12
      · refine api_read hi (.int (-4)) ⟨_, ?_, Sc_r A⟩ (fun A1 hi => ⟨_, ?_, Sc_r A1⟩)
        · simp (disch := omega) only [en_X11_cite, xV, X11_areTwo_ok _ hc, htw, bI_t, yi_b, l_lit, xR, cV hc.1, X0_isIn_ok _ hc hg hs, h3, cgI hc.1, cE hc, h12, nI_eq, nI_ltI, Nat.lt_irrefl, Nat.one_ne_zero, if_true, if_false]
        · have hr := iR hi
          have e : ycall 20 187 [.ref 79, .int (nI s), .int (nI o)] A1 = yb_X12_cite (ycall 19) (46, [some (.ref 79), some (.int (nI s)), some (.int (nI o)), some (.int (-nI 4)), some (.int (-nI 1)), some (.int (nI 0)), none], [], A1) := by
            simp (disch := omega) only [en_X12_cite, mV, mR, X12_isStudent_ok _ hr hg, ys, yo, bI_t, yi_b, l_lit, hne2, X12_isThere_ok _ hr hg hs, h3, nI_eq (a := 1), Nat.one_ne_zero, if_true, if_false]
          rw [e]
          refine (bk_X12_cite_46 ..).trans ?_
          simp (disch := omega) only [mR, qD hr.1, rE hr, h12, l_lit, nI_add, nI_mul, yi_b, yv_b, yl_b, if_true, if_false, or_true, true_or, or_false, false_or, and_true, true_and, and_false, false_and, not_true_eq_false, not_false_eq_true, Nat.reduceEqDiff, ↓reduceIte, nI_eq, nI_leI, nI_ltI, show ¬ 12 ≤ 0 by omega, Nat.le_refl]
      · have hE2 : M 0 1 < 12 := by omega
        refine api_read hi (.int (ocd (bst (fun e => marksN (aeN M s 0 0 e) o) (M 0 1)))) ?_ (fun A1 hi => ?_)
        · obtain ⟨A', a1, a2⟩ := ci_class hg hs (show o < 6 by omega) h3 hE2 (M 0 1) 0 A (by omega) hc
          refine ⟨A', ?_, a2⟩
          rw [← a1]
          simp (disch := omega) only [en_X11_cite, xV, X11_areTwo_ok _ hc, htw, bI_t, yi_b, l_lit, xR, cV hc.1, X0_isIn_ok _ hc hg hs, h3, cgI hc.1, cE hc, nI_eq, nI_ltI, hE2, Nat.one_ne_zero, if_true, if_false]
          rfl
        · have hr := iR hi
          obtain ⟨A', a1, a2⟩ := ci_ref hg hs (show o < 6 by omega) hE2 (M 0 1) 0 A1 (by omega) hr
          refine ⟨A', ?_, a2⟩
          rw [← a1]
          simp (disch := omega) only [en_X12_cite, mV, mR, X12_isStudent_ok _ hr hg, ys, yo, bI_t, yi_b, l_lit, hne2, X12_isThere_ok _ hr hg hs, h3, nI_eq (a := 1), Nat.one_ne_zero, if_true, if_false]
          rfl
  · have htw : (okI s (M 0 0) && okI o (M 0 0) && decide (s ≠ o)) = false := by simpa using htw
    refine api_read hi (.int (-1)) ⟨_, ?_, Sc_r A⟩ (fun A1 hi => ⟨_, ?_, Sc_r A1⟩)
    · rw [en_X11_cite, xV, X11_areTwo_ok (by omega) hc, htw, bI_f, yi_b]
      exact if_pos rfl
    · have hr := iR hi
      rcases two_no htw with h | ⟨h, h2⟩ | ⟨h, h2, rfl⟩
      · rw [en_X12_cite, mV, X12_isStudent_ok (by omega) hr hg, h, bI_f, yi_b]
        exact if_pos rfl
      · simp (disch := omega) only [en_X12_cite, mV, X12_isStudent_ok _ hr hg, h, h2, bI_t, bI_f, yi_b, l_lit, nI_eq (a := 1), Nat.one_ne_zero, if_true, if_false]
      · simp (disch := omega) only [en_X12_cite, mV, X12_isStudent_ok _ hr hg, h, bI_t, yi_b, l_lit, nI_eq (a := 1), Nat.one_ne_zero, if_true, if_false]
/-- the best to CORRECT so far, and the RANK then -/
def crN (M : Mt) (s o k : Nat) : Option Nat × Nat := fo (fun e st => if M 3 s = 1 ∧ M 4 e ≠ s ∧ M 8 e = 0 then (if rankN (ceM M s e) o < st.2 then (some e, rankN (ceM M s e) o) else st) else st) (none, rankN M o) k
theorem rankN_le (hg : Good M) (o : Nat) : rankN M o ≤ 6 := by
  have := sm_le (f := fun p => if marksN M o < marksN M p ∨ (marksN M p = marksN M o ∧ p < o) then 1 else 0) (c := 1) (n := M 0 0) (fun k _ => by split <;> omega)
  have := gS hg
  unfold rankN
  omega
theorem crN_le (hg : Good M) (s o k : Nat) : (crN M s o k).2 ≤ 6 := by
  refine fo_inv (fun st : Option Nat × Nat => st.2 ≤ 6) (rankN_le hg o) (fun e st _ h => ?_)
  split
  · split
    · exact rankN_le (ceM_good hg) o
    · exact h
  · exact h
theorem X0_correctError_no (hn : 2 ≤ n) {b : Nat} (hc : Col A b M) (hg : Good M) {s e : Nat} (hs : s < M 0 0) (he : e < M 0 1) (h : ¬ (M 3 s = 1 ∧ M 4 e ≠ s ∧ M 8 e = 0)) : ycall n 7 [.ref b, .int (nI s), .int (nI e)] A = some (some (.int (-nI 3)), A) := by
  obtain ⟨n, rfl⟩ := Nat.exists_eq_add_of_le' hn
  have hS := gS hg
  have hE := gE hg
  have h2 := gP hg hs
  have h1 := gEr hg he
  simp (disch := omega) only [cV hc.1, en_X0_correctError, X0_hasStudent_ok _ hc, X0_hasError_ok _ hc, okI_at hs, okI_at he, bI_t, l_lit, nI_add, nI_mul, yi_b, yv_b, yl_b, if_true, if_false, or_true, true_or, or_false, false_or, and_true, true_and, and_false, false_and, not_true_eq_false, not_false_eq_true, Nat.reduceEqDiff, ↓reduceIte, nI_eq, nI_leI, nI_ltI, Nat.one_ne_zero, X0_isIn_ok _ hc hg hs, X0_isCorrected_ok _ hc hg he, cR hc.1, cD12 hc.1, cBy hc]
  have h3 : M 3 s = 0 ∨ M 3 s = 1 := by omega
  rcases h3 with h3 | h3
  · simp (disch := omega) only [h3, l_lit, nI_add, nI_mul, yi_b, yv_b, yl_b, if_true, if_false, or_true, true_or, or_false, false_or, and_true, true_and, and_false, false_and, not_true_eq_false, not_false_eq_true, Nat.reduceEqDiff, ↓reduceIte]
  · by_cases h4 : M 4 e = s
    · simp (disch := omega) only [h3, h4, l_lit, nI_add, nI_mul, yi_b, yv_b, yl_b, if_true, if_false, or_true, true_or, or_false, false_or, and_true, true_and, and_false, false_and, not_true_eq_false, not_false_eq_true, Nat.reduceEqDiff, ↓reduceIte, Nat.one_ne_zero]
    · have h8 : M 8 e = 0 ∨ M 8 e = 1 := by omega
      have h81 : M 8 e = 1 := by
        rcases h8 with h8 | h8
        · exact absurd ⟨h3, h4, h8⟩ h
        · exact h8
      simp (disch := omega) only [h3, h4, h81, l_lit, nI_add, nI_mul, yi_b, yv_b, yl_b, if_true, if_false, or_true, true_or, or_false, false_or, and_true, true_and, and_false, false_and, not_true_eq_false, not_false_eq_true, Nat.reduceEqDiff, ↓reduceIte, Nat.one_ne_zero]
theorem ng3 : (nI 0 ≤ -nI 3) = False := eq_false (by decide +kernel)
theorem co_class (hg : Good M) {s o : Nat} (hs : s < M 0 0) (ho : o < M 0 0) : ∀ (j k : Nat) (A : yM), k + j = M 0 1 → Col A 2 M → ∃ A', yb_X11_correct (ycall 19) (27, [some (.ref 1), some (.int (nI s)), some (.int (nI o)), some (.int (ocd (crN M s o k).1)), some (.int (nI (crN M s o k).2)), some (.int (nI k)), none], [], A) = some (some (.int (ocd (crN M s o (M 0 1)).1)), A') ∧ Sc A A' := by
  intro j
  induction j with
  | zero =>
    intro k A hk hc
    have hE := gE hg
    refine ⟨A, ?_, Sc_r A⟩
    refine (bk_X11_correct_27 ..).trans ?_
    have : k = M 0 1 := by omega
    subst this
    simp (disch := omega) only [xR, cgI hc.1, cE hc, l_lit, nI_add, nI_mul, yi_b, yv_b, yl_b, if_true, if_false, or_true, true_or, or_false, false_or, and_true, true_and, and_false, false_and, not_true_eq_false, not_false_eq_true, Nat.reduceEqDiff, ↓reduceIte, nI_eq, nI_leI, nI_ltI, Nat.le_refl]
  | succ j ih =>
    intro k A hk hc
    have hkE : k < M 0 1 := by omega
    have hE := gE hg
    have hl := crN_le hg s o k
    obtain ⟨A1, a1, a2, a3⟩ := X0_become_ok (n := 19) (by omega) hc isB21 (by omega) hg
    have hst : crN M s o (k + 1) = if M 3 s = 1 ∧ M 4 k ≠ s ∧ M 8 k = 0 then (if rankN (ceM M s k) o < (crN M s o k).2 then (some k, rankN (ceM M s k) o) else crN M s o k) else crN M s o k := rfl
    by_cases hok : M 3 s = 1 ∧ M 4 k ≠ s ∧ M 8 k = 0
    · obtain ⟨A2, b1, b2, b3⟩ := X0_correctError_ok (n := 19) (by omega) a2 hg hs hkE hok.1 hok.2.1 hok.2.2
      have hg2 : Good (ceM M s k) := ceM_good hg
      have hs2 : Sc A (tMk A2 21 (ceM M s k)) := Sc_t (Sc_Fr (Fr_t a3 b3)) (Sc_tMk (Or.inr rfl))
      obtain ⟨A3, c1, c2⟩ := ih (k + 1) _ (by omega) (Col_Sc hc hs2)
      refine ⟨A3, ?_, Sc_t hs2 c2⟩
      rw [← c1, hst, if_pos hok]
      refine (bk_X11_correct_27 ..).trans ?_
      have hr1 := rankN_le hg2 o
      have hsz := (gEr hg hkE).2.2.1
      have ho2 : o < ceM M s k 0 0 := by unfold ceM; simp (disch := omega) only [mu_ne]; exact ho
      simp (disch := omega) only [xR, cgI hc.1, cE hc, cV hc.1, cV a2.1, l_lit, nI_add, nI_mul, yi_b, yv_b, yl_b, if_true, if_false, or_true, true_or, or_false, false_or, and_true, true_and, and_false, false_and, not_true_eq_false, not_false_eq_true, Nat.reduceEqDiff, ↓reduceIte, nI_eq, nI_leI, nI_ltI, Nat.not_le.mpr hkE, a1, b1, X0_rankOf_ok _ b2 hg2 ho2, Nat.zero_le]
      by_cases h : rankN (ceM M s k) o < (crN M s o k).2
      · simp [h, Nat.not_le.mpr h, ocd]
      · simp [h, Nat.not_lt.mp h]
    · have hs2 : Sc A A1 := Sc_Fr a3
      obtain ⟨A3, c1, c2⟩ := ih (k + 1) _ (by omega) (Col_Sc hc hs2)
      refine ⟨A3, ?_, Sc_t hs2 c2⟩
      rw [← c1, hst, if_neg hok]
      refine (bk_X11_correct_27 ..).trans ?_
      simp (disch := omega) only [xR, cgI hc.1, cE hc, cV hc.1, cV a2.1, l_lit, nI_add, nI_mul, yi_b, yv_b, yl_b, if_true, if_false, or_true, true_or, or_false, false_or, and_true, true_and, and_false, false_and, not_true_eq_false, not_false_eq_true, Nat.reduceEqDiff, ↓reduceIte, nI_eq, nI_leI, nI_ltI, Nat.not_le.mpr hkE, a1, X0_correctError_no _ a2 hg hs hkE hok, ng3]
theorem co_ref (hg : Good M) {s o : Nat} (hs : s < M 0 0) (ho : o < M 0 0) : ∀ (j k : Nat) (A : yM), k + j = M 0 1 → Row A 80 M → ∃ A', yb_X12_correct (ycall 19) (39, [some (.ref 79), some (.int (nI s)), some (.int (nI o)), some (.int (ocd (crN M s o k).1)), some (.int (nI (crN M s o k).2)), some (.int (nI k)), none], [], A) = some (some (.int (ocd (crN M s o (M 0 1)).1)), A') ∧ Sc A A' := by
  intro j
  induction j with
  | zero =>
    intro k A hk hr
    have hE := gE hg
    refine ⟨A, ?_, Sc_r A⟩
    refine (bk_X12_correct_39 ..).trans ?_
    have : k = M 0 1 := by omega
    subst this
    simp (disch := omega) only [mR, qD hr.1, rE hr, l_lit, nI_add, nI_mul, yi_b, yv_b, yl_b, if_true, if_false, or_true, true_or, or_false, false_or, and_true, true_and, and_false, false_and, not_true_eq_false, not_false_eq_true, Nat.reduceEqDiff, ↓reduceIte, nI_eq, nI_leI, nI_ltI, Nat.le_refl]
  | succ j ih =>
    intro k A hk hr
    have hkE : k < M 0 1 := by omega
    have hE := gE hg
    have hl := crN_le hg s o k
    have hst : crN M s o (k + 1) = if M 3 s = 1 ∧ M 4 k ≠ s ∧ M 8 k = 0 then (if rankN (ceM M s k) o < (crN M s o k).2 then (some k, rankN (ceM M s k) o) else crN M s o k) else crN M s o k := rfl
    by_cases hok : M 3 s = 1 ∧ M 4 k ≠ s ∧ M 8 k = 0
    · obtain ⟨A1, a1, a2, a3⟩ := X12_copies_ok (n := 19) (by omega) hr hg (q2 := 81) (by omega) (by omega)
      obtain ⟨A2, b1, b2, b3⟩ := X12_correctsIn_ok (n := 19) (by omega) a2 hg hs hkE
      have hg2 : Good (ceM M s k) := ceM_good hg
      have hs2 : Sc A A2 := Sc_Fq (Or.inl rfl) (Fq_t a3 b3)
      obtain ⟨A3, c1, c2⟩ := ih (k + 1) _ (by omega) (Row_Sc hr hs2)
      refine ⟨A3, ?_, Sc_t hs2 c2⟩
      rw [← c1, hst, if_pos hok]
      refine (bk_X12_correct_39 ..).trans ?_
      have hr1 := rankN_le hg2 o
      have ho2 : o < ceM M s k 0 0 := by unfold ceM; simp (disch := omega) only [mu_ne]; exact ho
      simp (disch := omega) only [mR, mV, qD hr.1, rE hr, l_lit, nI_add, nI_mul, yi_b, yv_b, yl_b, if_true, if_false, or_true, true_or, or_false, false_or, and_true, true_and, and_false, false_and, not_true_eq_false, not_false_eq_true, Nat.reduceEqDiff, ↓reduceIte, nI_eq, nI_leI, nI_ltI, Nat.not_le.mpr hkE, X12_canCorrect_ok _ hr hg hs hkE, decide_eq_true hok, bI_t, Nat.one_ne_zero, a1, b1, X12_rankOf_ok _ b2 hg2 ho2]
      by_cases h : rankN (ceM M s k) o < (crN M s o k).2
      · simp [h, ocd]
      · simp [h]
    · obtain ⟨A3, c1, c2⟩ := ih (k + 1) A (by omega) hr
      refine ⟨A3, ?_, c2⟩
      rw [← c1, hst, if_neg hok]
      refine (bk_X12_correct_39 ..).trans ?_
      simp (disch := omega) only [mR, mV, qD hr.1, rE hr, l_lit, nI_add, nI_mul, yi_b, yv_b, yl_b, if_true, if_false, or_true, true_or, or_false, false_or, and_true, true_and, and_false, false_and, not_true_eq_false, not_false_eq_true, Nat.reduceEqDiff, ↓reduceIte, nI_eq, nI_leI, nI_ltI, Nat.not_le.mpr hkE, X12_canCorrect_ok _ hr hg hs hkE, decide_eq_false hok, bI_f]
theorem api_correct (hi : InvX A M I hI T c g) (s o : Int32) : Api 90 188 [.int s, .int o] A g := by
  have hc := iC hi
  have hg := iG hi
  have hS := gS hg
  have hE := gE hg
  by_cases htw : (okI s (M 0 0) && okI o (M 0 0) && decide (s ≠ o)) = true
  · have h0 := htw
    simp only [Bool.and_eq_true, decide_eq_true_eq] at h0
    obtain ⟨⟨ys, yo⟩, hne⟩ := h0
    obtain ⟨s, hs, rfl⟩ := okI_of (by omega) ys
    obtain ⟨o, ho, rfl⟩ := okI_of (by omega) yo
    have hne2 : (nI s = nI o) = False := eq_false hne
    refine api_read hi (.int (ocd (crN M s o (M 0 1)).1)) ?_ (fun A1 hi => ?_)
    · have hs2 : Sc A (tMk A 2 M) := Sc_tMk (Or.inl rfl)
      obtain ⟨A', a1, a2⟩ := co_class hg hs ho (M 0 1) 0 (tMk A 2 M) (by omega) (Col_Sc hc hs2)
      refine ⟨A', ?_, Sc_t hs2 a2⟩
      rw [← a1]
      simp (disch := omega) only [en_X11_correct, xV, X11_areTwo_ok _ hc, htw, bI_t, yi_b, l_lit, xR, cV hc.1, X0_rankOf_ok _ hc hg ho, nI_eq, Nat.one_ne_zero, if_false]
      rfl
    · have hr := iR hi
      obtain ⟨A', a1, a2⟩ := co_ref hg hs ho (M 0 1) 0 A1 (by omega) hr
      refine ⟨A', ?_, a2⟩
      rw [← a1]
      simp (disch := omega) only [en_X12_correct, mV, mR, X12_isStudent_ok _ hr hg, ys, yo, bI_t, yi_b, l_lit, hne2, X12_rankOf_ok _ hr hg ho, nI_eq (a := 1), Nat.one_ne_zero, if_false]
      rfl
  · have htw : (okI s (M 0 0) && okI o (M 0 0) && decide (s ≠ o)) = false := by simpa using htw
    refine api_read hi (.int (-1)) ⟨_, ?_, Sc_r A⟩ (fun A1 hi => ⟨_, ?_, Sc_r A1⟩)
    · rw [en_X11_correct, xV, X11_areTwo_ok (by omega) hc, htw, bI_f, yi_b]
      exact if_pos rfl
    · have hr := iR hi
      rcases two_no htw with h | ⟨h, h2⟩ | ⟨h, h2, rfl⟩
      · rw [en_X12_correct, mV, X12_isStudent_ok (by omega) hr hg, h, bI_f, yi_b]
        exact if_pos rfl
      · simp (disch := omega) only [en_X12_correct, mV, X12_isStudent_ok _ hr hg, h, h2, bI_t, bI_f, yi_b, l_lit, nI_eq (a := 1), Nat.one_ne_zero, if_true, if_false]
      · simp (disch := omega) only [en_X12_correct, mV, X12_isStudent_ok _ hr hg, h, bI_t, yi_b, l_lit, nI_eq (a := 1), Nat.one_ne_zero, if_true, if_false]
end A6
