section A3
variable {A : yM} {M I : Mt} {hI : Nat} {T : Nat → Nat → Nat} {c : Nat → Nat → Int32} {g : Nat} {n : Nat}
theorem api_corrects (hi : InvX A M I hI T c g) (s e : Int32) : Api 77 174 [.int s, .int e] A g := by
  have hc := iC hi
  have hg := iG hi
  have hr := iR hi
  have hE := gE hg
  have hS := gS hg
  by_cases hs : okI s (M 0 0) = true
  · by_cases he : okI e (M 0 1) = true
    · obtain ⟨s, xs, rfl⟩ := okI_of (by omega) hs
      obtain ⟨e, xe, rfl⟩ := okI_of (by omega) he
      have h2 := gP hg xs
      have h1 := gEr hg xe
      have h3 : M 3 s = 0 ∨ M 3 s = 1 := by omega
      have h8 : M 8 e = 0 ∨ M 8 e = 1 := by omega
      by_cases hok : M 3 s = 1 ∧ M 4 e ≠ s ∧ M 8 e = 0
      · obtain ⟨k1, k2, k3⟩ := hok
        obtain ⟨A1, a1, a2, a3⟩ := X0_correctError_ok (n := 19) (by omega) hc hg xs xe k1 k2 k3
        have hr1 : Row A1 80 M := Row_eq hr (a3 80 (by omega))
        obtain ⟨A2, b1, b2, b3⟩ := X12_correctsIn_ok (n := 19) (by omega) hr1 hg xs xe
        have e1 : A2 80 (21 + 5 * e + 2) = nI (M 6 e / 2) := by
          have := rSz b2 (e := e) (by unfold ceM; simp (disch := omega) only [mu_ne]; exact xe)
          unfold ceM at this
          simpa (disch := omega) only [mu_ne, mu_eq] using this
        refine api_mut (v := .int (nI (M 6 e / 2))) (A1 := A1) (A2 := A2) (M' := ceM M s e) hi (ceM_good hg) ?_ ?_ a2 (fun p h _ => a3 p (by omega)) (by rw [a3 79 (by omega)]) ?_ b2 (fun p h _ => b3 p h) (by rw [b3 79 (by omega)])
        · unfold ceM
          simp (disch := omega) only [mu_ne]
          exact iW hi
        · simp (disch := omega) only [en_X11_corrects, xR, cV hc.1, a1, yi_b]
        · simp (disch := omega) only [en_X12_corrects, mV, mR, X12_isStudent_ok _ hr1 hg, X12_isError_ok _ hr1 hg, hs, he, bI_t, X12_canCorrect_ok _ hr1 hg xs xe, decide_eq_true (show M 3 s = 1 ∧ M 4 e ≠ s ∧ M 8 e = 0 from ⟨k1, k2, k3⟩), l_lit, nI_add, nI_mul, yi_b, yv_b, yl_b, if_true, if_false, or_true, true_or, or_false, false_or, and_true, true_and, and_false, false_and, not_true_eq_false, not_false_eq_true, Nat.reduceEqDiff, ↓reduceIte, nI_eq, nI_leI, nI_ltI, Nat.one_ne_zero, b1, en_X12_ofE, qD hr1.1, e1]
      · refine api_read hi (.int (-3)) ⟨_, ?_, Sc_r A⟩ (fun A1 hi => ⟨_, ?_, Sc_r A1⟩)
        · simp (disch := omega) only [en_X11_corrects, xR, cV hc.1, en_X0_correctError, X0_hasStudent_ok _ hc, X0_hasError_ok _ hc, hs, he, bI_t, l_lit, nI_add, nI_mul, yi_b, yv_b, yl_b, if_true, if_false, or_true, true_or, or_false, false_or, and_true, true_and, and_false, false_and, not_true_eq_false, not_false_eq_true, Nat.reduceEqDiff, ↓reduceIte, nI_eq, nI_leI, nI_ltI, Nat.one_ne_zero, X0_isIn_ok _ hc hg xs, X0_isCorrected_ok _ hc hg xe, cR hc.1, cD12 hc.1, cBy hc]
          rcases h3 with h3 | h3
          · simp (disch := omega) only [h3, l_lit, nI_add, nI_mul, yi_b, yv_b, yl_b, if_true, if_false, or_true, true_or, or_false, false_or, and_true, true_and, and_false, false_and, not_true_eq_false, not_false_eq_true, Nat.reduceEqDiff, ↓reduceIte]
          · by_cases h4 : M 4 e = s
            · simp (disch := omega) only [h3, h4, l_lit, nI_add, nI_mul, yi_b, yv_b, yl_b, if_true, if_false, or_true, true_or, or_false, false_or, and_true, true_and, and_false, false_and, not_true_eq_false, not_false_eq_true, Nat.reduceEqDiff, ↓reduceIte, Nat.one_ne_zero]
            · have h81 : M 8 e = 1 := by omega
              simp (disch := omega) only [h3, h4, h81, l_lit, nI_add, nI_mul, yi_b, yv_b, yl_b, if_true, if_false, or_true, true_or, or_false, false_or, and_true, true_and, and_false, false_and, not_true_eq_false, not_false_eq_true, Nat.reduceEqDiff, ↓reduceIte, Nat.one_ne_zero]
        · have hr := iR hi
          simp (disch := omega) only [en_X12_corrects, mV, mR, X12_isStudent_ok _ hr hg, X12_isError_ok _ hr hg, hs, he, bI_t, bI_f, X12_canCorrect_ok _ hr hg xs xe, decide_eq_false hok, l_lit, nI_add, nI_mul, yi_b, yv_b, yl_b, if_true, if_false, or_true, true_or, or_false, false_or, and_true, true_and, and_false, false_and, not_true_eq_false, not_false_eq_true, Nat.reduceEqDiff, ↓reduceIte, nI_eq, nI_leI, nI_ltI, Nat.one_ne_zero]
    · have he := okI_f he
      refine api_read hi (.int (-1)) ⟨_, ?_, Sc_r A⟩ (fun A1 hi => ⟨_, ?_, Sc_r A1⟩)
      · simp (disch := omega) only [en_X11_corrects, xR, cV hc.1, en_X0_correctError, X0_hasStudent_ok _ hc, X0_hasError_ok _ hc, hs, he, bI_t, bI_f, l_lit, nI_add, nI_mul, yi_b, yv_b, yl_b, if_true, if_false, or_true, true_or, or_false, false_or, and_true, true_and, and_false, false_and, not_true_eq_false, not_false_eq_true, Nat.reduceEqDiff, ↓reduceIte, nI_eq, nI_leI, nI_ltI, Nat.one_ne_zero]
      · have hr := iR hi
        simp (disch := omega) only [en_X12_corrects, mV, X12_isStudent_ok _ hr hg, X12_isError_ok _ hr hg, hs, he, bI_t, bI_f, l_lit, nI_add, nI_mul, yi_b, yv_b, yl_b, if_true, if_false, or_true, true_or, or_false, false_or, and_true, true_and, and_false, false_and, not_true_eq_false, not_false_eq_true, Nat.reduceEqDiff, ↓reduceIte, nI_eq, nI_leI, nI_ltI, Nat.one_ne_zero]
  · have hs := okI_f hs
    refine api_read hi (.int (-1)) ⟨_, ?_, Sc_r A⟩ (fun A1 hi => ⟨_, ?_, Sc_r A1⟩)
    · simp (disch := omega) only [en_X11_corrects, xR, cV hc.1, en_X0_correctError, X0_hasStudent_ok _ hc, hs, bI_f, l_lit, nI_add, nI_mul, yi_b, yv_b, yl_b, if_true, if_false, or_true, true_or, or_false, false_or, and_true, true_and, and_false, false_and, not_true_eq_false, not_false_eq_true, Nat.reduceEqDiff, ↓reduceIte, nI_eq, nI_leI, nI_ltI]
    · have hr := iR hi
      simp (disch := omega) only [en_X12_corrects, mV, X12_isStudent_ok _ hr hg, hs, bI_f, l_lit, nI_add, nI_mul, yi_b, yv_b, yl_b, if_true, if_false, or_true, true_or, or_false, false_or, and_true, true_and, and_false, false_and, not_true_eq_false, not_false_eq_true, Nat.reduceEqDiff, ↓reduceIte, nI_eq, nI_leI, nI_ltI]
theorem Row_in {A : yM} {q s v : Nat} {M : Mt} (hr : Row A q M) (hg : Good M) (hs : s < M 0 0) : Row (yup A q (3 + 3 * s + 2) (nI v)) q (mu M 3 s v) := by
  have hS := gS hg
  have hE := gE hg
  refine ⟨hr.1, ?_, ?_, ?_, fun p hp => ?_, fun e he => ?_⟩
  · simp (disch := omega) only [yup_ne2, mu_ne, rS hr]
  · simp (disch := omega) only [yup_ne2, mu_ne, rE hr]
  · simp (disch := omega) only [yup_ne2, mu_ne, rW hr]
  · simp (disch := omega) only [mu_ne] at hp
    have := hr.2.2.2.2.1 p hp
    by_cases h2 : p = s
    · subst h2
      simp (disch := omega) only [yup_ne2, yup_eq, mu_ne, mu_eq]
      exact ⟨this.1, this.2.1, trivial⟩
    · simp (disch := omega) only [yup_ne2, mu_ne, mu_ne2]
      exact this
  · simp (disch := omega) only [mu_ne] at he
    have := hr.2.2.2.2.2 e he
    simp (disch := omega) only [yup_ne2, mu_ne]
    exact this
theorem api_sends (hi : InvX A M I hI T c g) (s : Int32) : Api 78 175 [.int s] A g := by
  have hc := iC hi
  have hg := iG hi
  have hr := iR hi
  have hS := gS hg
  by_cases hs : okI s (M 0 0) = true
  · obtain ⟨s, xs, rfl⟩ := okI_of (by omega) hs
    have h2 := gP hg xs
    have h3 : M 3 s = 0 ∨ M 3 s = 1 := by omega
    have hx : nI (M 3 s) ^^^ nI 1 = nI (1 - M 3 s) := by rcases h3 with h3 | h3 <;> rw [h3] <;> decide +kernel
    obtain ⟨A1, a1, a2, a3⟩ := X0_turnStudent_ok (n := 19) (by omega) hc hg xs
    have hr1 : Row A1 80 M := Row_eq hr (a3 80 (by omega))
    refine api_mut (v := .int (nI (1 - M 3 s))) (A1 := A1) (A2 := yup A1 80 (3 + 3 * s + 2) (nI (1 - M 3 s))) (M' := tuN M s) hi (tuN_good hg) ?_ ?_ a2 (fun p h _ => a3 p (by omega)) (by rw [a3 79 (by omega)]) ?_ (Row_in hr1 hg xs) (fun p h _ => yup_ne1 h) (by rw [yup_ne (by omega)])
    · unfold tuN
      simp (disch := omega) only [mu_ne]
      exact iW hi
    · simp (disch := omega) only [en_X11_sends, xR, cV hc.1, a1, yi_b]
    · simp (disch := omega) only [en_X12_sends, mV, mR, X12_isStudent_ok _ hr1 hg, hs, bI_t, l_lit, nI_add, nI_mul, yi_b, yv_b, yl_b, if_true, if_false, or_true, true_or, or_false, false_or, and_true, true_and, and_false, false_and, not_true_eq_false, not_false_eq_true, Nat.reduceEqDiff, ↓reduceIte, nI_eq, nI_leI, nI_ltI, Nat.one_ne_zero, en_X12_ofS, qD hr1.1, qW hr1.1, rIn hr1, hx, yup_eq]
  · have hs := okI_f hs
    refine api_read hi (.int (-1)) ⟨_, ?_, Sc_r A⟩ (fun A1 hi => ⟨_, ?_, Sc_r A1⟩)
    · simp (disch := omega) only [en_X11_sends, xR, cV hc.1, en_X0_turnStudent, X0_hasStudent_ok _ hc, hs, bI_f, l_lit, nI_add, nI_mul, yi_b, yv_b, yl_b, if_true, if_false, or_true, true_or, or_false, false_or, and_true, true_and, and_false, false_and, not_true_eq_false, not_false_eq_true, Nat.reduceEqDiff, ↓reduceIte, nI_eq, nI_leI, nI_ltI]
    · have hr := iR hi
      simp (disch := omega) only [en_X12_sends, mV, X12_isStudent_ok _ hr hg, hs, bI_f, l_lit, nI_add, nI_mul, yi_b, yv_b, yl_b, if_true, if_false, or_true, true_or, or_false, false_or, and_true, true_and, and_false, false_and, not_true_eq_false, not_false_eq_true, Nat.reduceEqDiff, ↓reduceIte, nI_eq, nI_leI, nI_ltI]
/-- a number of WEEKS, from 1 -/
theorem wk_cases (x : Int32) : (x < nI 1) = True ∨ ((x < nI 1) = False ∧ (nI 60 < x) = True) ∨ ∃ j, 1 ≤ j ∧ j ≤ 60 ∧ x = nI j := by
  by_cases h1 : x < nI 1
  · exact Or.inl (eq_true h1)
  · by_cases h2 : nI 60 < x
    · exact Or.inr (Or.inl ⟨eq_false h1, eq_true h2⟩)
    · refine Or.inr (Or.inr ?_)
      have h0 : ¬ x < 0 := fun q => h1 (Int32.lt_trans q (by decide +kernel))
      obtain ⟨j, hj, rfl⟩ := nI_of h0
      refine ⟨j, ?_, ?_, rfl⟩
      · have := mt (nI_ltI hj (show (1:Nat) < 2 ^ 31 by omega)).mpr h1
        omega
      · have := mt (nI_ltI (show (60:Nat) < 2 ^ 31 by omega) hj).mpr h2
        omega
theorem api_weeks (hi : InvX A M I hI T c g) (x : Int32) : Api 79 176 [.int x] A g := by
  have hc := iC hi
  have hg := iG hi
  have hr := iR hi
  have hw := iW hi
  rcases wk_cases x with h | ⟨h, h2⟩ | ⟨j, j1, j2, rfl⟩
  · refine api_read hi (.int (-1)) ⟨_, ?_, Sc_r A⟩ (fun A1 hi => ⟨_, ?_, Sc_r A1⟩)
    · simp (disch := omega) only [en_X11_weeks, xR, cV hc.1, en_X0_letWeeksGo, l_lit, nI_add, nI_mul, yi_b, yv_b, yl_b, if_true, if_false, or_true, true_or, or_false, false_or, and_true, true_and, and_false, false_and, not_true_eq_false, not_false_eq_true, Nat.reduceEqDiff, ↓reduceIte, h, ng]
    · simp (disch := omega) only [en_X12_weeks, X12_isIn_ok, l_lit, nI_add, nI_mul, yi_b, yv_b, yl_b, if_true, if_false, or_true, true_or, or_false, false_or, and_true, true_and, and_false, false_and, not_true_eq_false, not_false_eq_true, Nat.reduceEqDiff, ↓reduceIte, h, decide_false, bI_f]
  · have h3 : (x ≤ nI 60) = False := eq_false (fun q => Int32.not_lt.mpr q (of_eq_true h2))
    refine api_read hi (.int (-1)) ⟨_, ?_, Sc_r A⟩ (fun A1 hi => ⟨_, ?_, Sc_r A1⟩)
    · simp (disch := omega) only [en_X11_weeks, xR, cV hc.1, en_X0_letWeeksGo, l_lit, nI_add, nI_mul, yi_b, yv_b, yl_b, if_true, if_false, or_true, true_or, or_false, false_or, and_true, true_and, and_false, false_and, not_true_eq_false, not_false_eq_true, Nat.reduceEqDiff, ↓reduceIte, h, h3, ng]
    · simp (disch := omega) only [en_X12_weeks, X12_isIn_ok, l_lit, nI_add, nI_mul, yi_b, yv_b, yl_b, if_true, if_false, or_true, true_or, or_false, false_or, and_true, true_and, and_false, false_and, not_true_eq_false, not_false_eq_true, Nat.reduceEqDiff, ↓reduceIte, h, h2, decide_false, bI_f]
  · have hd : decide (¬ nI j < nI 1 ∧ ¬ nI 60 < nI j) = true := by
      rw [decide_eq_true_eq, nI_ltI (by omega) (by omega), nI_ltI (by omega) (by omega)]
      omega
    by_cases h9 : M 0 2 + j ≤ 999
    · obtain ⟨A1, a1, a2, a3⟩ := X0_passWeeks_ok (n := 18) (by omega) hc hg (x := j) (by omega) (by omega)
      have hr1 : Row A1 80 M := Row_eq hr (a3 80 (by omega))
      obtain ⟨A2, b1, b2, b3⟩ := X12_weeksOn_ok (n := 19) (by omega) hr1 hg (x := j) (by omega) (by omega)
      have hg2 := wsN_good hg j (by omega)
      refine api_mut (v := .int (nI (allN (wsN M j)))) (A1 := A1) (A2 := A2) (M' := wsN M j) hi hg2 ?_ ?_ a2 (fun p h _ => a3 p (by omega)) (by rw [a3 79 (by omega)]) ?_ b2 (fun p h _ => b3 p h) (by rw [b3 79 (by omega)])
      · rw [wsN_W]; exact h9
      · simp (disch := omega) only [en_X11_weeks, xR, cV hc.1, en_X0_letWeeksGo, l_lit, nI_add, nI_mul, yi_b, yv_b, yl_b, if_true, if_false, or_true, true_or, or_false, false_or, and_true, true_and, and_false, false_and, not_true_eq_false, not_false_eq_true, Nat.reduceEqDiff, ↓reduceIte, nI_eq, nI_leI, nI_ltI, show ¬ j < 1 by omega, j2, cgI hc.1, cWk hc, h9, a1, X0_allMarks_ok _ a2 hg2]
      · simp (disch := omega) only [en_X12_weeks, X12_isIn_ok, l_lit, yi_b, hd, bI_t]
        simp (disch := omega) only [l_lit, nI_add, nI_mul, yi_b, yv_b, yl_b, if_true, if_false, or_true, true_or, or_false, false_or, and_true, true_and, and_false, false_and, not_true_eq_false, not_false_eq_true, Nat.reduceEqDiff, ↓reduceIte, nI_eq, nI_leI, nI_ltI, Nat.one_ne_zero, mR, qD hr1.1, rW hr1, h9, b1, X12_allMarks_ok _ b2 hg2]
    · refine api_read hi (.int (-3)) ⟨_, ?_, Sc_r A⟩ (fun A1 hi => ⟨_, ?_, Sc_r A1⟩)
      · simp (disch := omega) only [en_X11_weeks, xR, cV hc.1, en_X0_letWeeksGo, l_lit, nI_add, nI_mul, yi_b, yv_b, yl_b, if_true, if_false, or_true, true_or, or_false, false_or, and_true, true_and, and_false, false_and, not_true_eq_false, not_false_eq_true, Nat.reduceEqDiff, ↓reduceIte, nI_eq, nI_leI, nI_ltI, show ¬ j < 1 by omega, j2, cgI hc.1, cWk hc, h9, ng]
      · have hr := iR hi
        simp (disch := omega) only [en_X12_weeks, X12_isIn_ok, l_lit, yi_b, hd, bI_t]
        simp (disch := omega) only [l_lit, nI_add, nI_mul, yi_b, yv_b, yl_b, if_true, if_false, or_true, true_or, or_false, false_or, and_true, true_and, and_false, false_and, not_true_eq_false, not_false_eq_true, Nat.reduceEqDiff, ↓reduceIte, nI_eq, nI_leI, nI_ltI, Nat.one_ne_zero, mR, qD hr.1, rW hr, h9]
end A3
