section A2
variable {A : yM} {M I : Mt} {hI : Nat} {T : Nat → Nat → Nat} {c : Nat → Nat → Int32} {g : Nat} {n : Nat}
theorem api_error (hi : InvX A M I hI T c g) (s w : Int32) : Api 74 171 [.int s, .int w] A g := by
  have hc := iC hi
  have hg := iG hi
  have hr := iR hi
  have hE := gE hg
  by_cases hs : okI s (M 0 1) = true
  · obtain ⟨e, he, rfl⟩ := okI_of (by omega) hs
    have h2 := gEr hg he
    by_cases hw : okI w 8 = true
    · obtain ⟨j, hj, rfl⟩ := okI_of (by omega) hw
      have : j = 0 ∨ j = 1 ∨ j = 2 ∨ j = 3 ∨ j = 4 ∨ j = 5 ∨ j = 6 ∨ j = 7 := by omega
      rcases this with rfl | rfl | rfl | rfl | rfl | rfl | rfl | rfl
      · refine api_read hi (.int (nI (M 4 e))) ⟨_, ?_, Sc_r A⟩ (fun A1 hi => ⟨_, ?_, Sc_r A1⟩)
        · simp (disch := omega) only [en_X11_error, xR, xV, cgI hc.1, cS hc, cE hc, cWk hc, cR hc.1, cD12 hc.1, cD6 hc.1, cBy hc, cTp hc, cSz hc, cCt hc, cTc hc, cKd hc, cFg hc, cV hc.1, X0_hasStudent_ok _ hc, X0_hasError_ok _ hc, hs, hw, bI_t, bI_f, l_lit, nI_add, nI_mul, yi_b, yv_b, yl_b, if_true, if_false, or_true, true_or, or_false, false_or, and_true, true_and, and_false, false_and, not_true_eq_false, not_false_eq_true, Nat.reduceEqDiff, ↓reduceIte, nI_eq, nI_leI, nI_ltI, Nat.one_ne_zero]
        · have hr := iR hi
          simp (disch := omega) only [en_X12_error, mR, mV, qD hr.1, rS hr, rE hr, rW hr, rKd hr, rFg hr, rIn hr, rBy hr, rTp hr, rSz hr, rCt hr, rCo hr, en_X12_ofS, en_X12_ofE, X12_isStudent_ok _ hr hg, X12_isError_ok _ hr hg, X12_in0, Nat.reduceAdd, hs, hw, bI_t, bI_f, l_lit, nI_add, nI_mul, yi_b, yv_b, yl_b, if_true, if_false, or_true, true_or, or_false, false_or, and_true, true_and, and_false, false_and, not_true_eq_false, not_false_eq_true, Nat.reduceEqDiff, ↓reduceIte, nI_eq, nI_leI, nI_ltI, Nat.one_ne_zero]
      · refine api_read hi (.int (nI (M 5 e))) ⟨_, ?_, Sc_r A⟩ (fun A1 hi => ⟨_, ?_, Sc_r A1⟩)
        · simp (disch := omega) only [en_X11_error, xR, xV, cgI hc.1, cS hc, cE hc, cWk hc, cR hc.1, cD12 hc.1, cD6 hc.1, cBy hc, cTp hc, cSz hc, cCt hc, cTc hc, cKd hc, cFg hc, cV hc.1, X0_hasStudent_ok _ hc, X0_hasError_ok _ hc, hs, hw, bI_t, bI_f, l_lit, nI_add, nI_mul, yi_b, yv_b, yl_b, if_true, if_false, or_true, true_or, or_false, false_or, and_true, true_and, and_false, false_and, not_true_eq_false, not_false_eq_true, Nat.reduceEqDiff, ↓reduceIte, nI_eq, nI_leI, nI_ltI, Nat.one_ne_zero]
        · have hr := iR hi
          simp (disch := omega) only [en_X12_error, mR, mV, qD hr.1, rS hr, rE hr, rW hr, rKd hr, rFg hr, rIn hr, rBy hr, rTp hr, rSz hr, rCt hr, rCo hr, en_X12_ofS, en_X12_ofE, X12_isStudent_ok _ hr hg, X12_isError_ok _ hr hg, X12_in0, Nat.reduceAdd, hs, hw, bI_t, bI_f, l_lit, nI_add, nI_mul, yi_b, yv_b, yl_b, if_true, if_false, or_true, true_or, or_false, false_or, and_true, true_and, and_false, false_and, not_true_eq_false, not_false_eq_true, Nat.reduceEqDiff, ↓reduceIte, nI_eq, nI_leI, nI_ltI, Nat.one_ne_zero]
      · refine api_read hi (.int (nI (M 6 e))) ⟨_, ?_, Sc_r A⟩ (fun A1 hi => ⟨_, ?_, Sc_r A1⟩)
        · simp (disch := omega) only [en_X11_error, xR, xV, cgI hc.1, cS hc, cE hc, cWk hc, cR hc.1, cD12 hc.1, cD6 hc.1, cBy hc, cTp hc, cSz hc, cCt hc, cTc hc, cKd hc, cFg hc, cV hc.1, X0_hasStudent_ok _ hc, X0_hasError_ok _ hc, hs, hw, bI_t, bI_f, l_lit, nI_add, nI_mul, yi_b, yv_b, yl_b, if_true, if_false, or_true, true_or, or_false, false_or, and_true, true_and, and_false, false_and, not_true_eq_false, not_false_eq_true, Nat.reduceEqDiff, ↓reduceIte, nI_eq, nI_leI, nI_ltI, Nat.one_ne_zero]
        · have hr := iR hi
          simp (disch := omega) only [en_X12_error, mR, mV, qD hr.1, rS hr, rE hr, rW hr, rKd hr, rFg hr, rIn hr, rBy hr, rTp hr, rSz hr, rCt hr, rCo hr, en_X12_ofS, en_X12_ofE, X12_isStudent_ok _ hr hg, X12_isError_ok _ hr hg, X12_in0, Nat.reduceAdd, hs, hw, bI_t, bI_f, l_lit, nI_add, nI_mul, yi_b, yv_b, yl_b, if_true, if_false, or_true, true_or, or_false, false_or, and_true, true_and, and_false, false_and, not_true_eq_false, not_false_eq_true, Nat.reduceEqDiff, ↓reduceIte, nI_eq, nI_leI, nI_ltI, Nat.one_ne_zero]
      · refine api_read hi (.int (nI (M 7 e))) ⟨_, ?_, Sc_r A⟩ (fun A1 hi => ⟨_, ?_, Sc_r A1⟩)
        · simp (disch := omega) only [en_X11_error, xR, xV, cgI hc.1, cS hc, cE hc, cWk hc, cR hc.1, cD12 hc.1, cD6 hc.1, cBy hc, cTp hc, cSz hc, cCt hc, cTc hc, cKd hc, cFg hc, cV hc.1, X0_hasStudent_ok _ hc, X0_hasError_ok _ hc, hs, hw, bI_t, bI_f, l_lit, nI_add, nI_mul, yi_b, yv_b, yl_b, if_true, if_false, or_true, true_or, or_false, false_or, and_true, true_and, and_false, false_and, not_true_eq_false, not_false_eq_true, Nat.reduceEqDiff, ↓reduceIte, nI_eq, nI_leI, nI_ltI, Nat.one_ne_zero]
        · have hr := iR hi
          simp (disch := omega) only [en_X12_error, mR, mV, qD hr.1, rS hr, rE hr, rW hr, rKd hr, rFg hr, rIn hr, rBy hr, rTp hr, rSz hr, rCt hr, rCo hr, en_X12_ofS, en_X12_ofE, X12_isStudent_ok _ hr hg, X12_isError_ok _ hr hg, X12_in0, Nat.reduceAdd, hs, hw, bI_t, bI_f, l_lit, nI_add, nI_mul, yi_b, yv_b, yl_b, if_true, if_false, or_true, true_or, or_false, false_or, and_true, true_and, and_false, false_and, not_true_eq_false, not_false_eq_true, Nat.reduceEqDiff, ↓reduceIte, nI_eq, nI_leI, nI_ltI, Nat.one_ne_zero]
      · refine api_read hi (.int (nI (M 8 e))) ⟨_, ?_, Sc_r A⟩ (fun A1 hi => ⟨_, ?_, Sc_r A1⟩)
        · simp (disch := omega) only [en_X11_error, xR, xV, cgI hc.1, cS hc, cE hc, cWk hc, cR hc.1, cD12 hc.1, cD6 hc.1, cBy hc, cTp hc, cSz hc, cCt hc, cTc hc, cKd hc, cFg hc, cV hc.1, X0_hasStudent_ok _ hc, X0_hasError_ok _ hc, hs, hw, bI_t, bI_f, l_lit, nI_add, nI_mul, yi_b, yv_b, yl_b, if_true, if_false, or_true, true_or, or_false, false_or, and_true, true_and, and_false, false_and, not_true_eq_false, not_false_eq_true, Nat.reduceEqDiff, ↓reduceIte, nI_eq, nI_leI, nI_ltI, Nat.one_ne_zero, X0_isCorrected_ok _ hc hg he]
          have h3 : M 8 e = 0 ∨ M 8 e = 1 := by omega
          rcases h3 with h3 | h3 <;> simp [h3]
        · have hr := iR hi
          simp (disch := omega) only [en_X12_error, mR, mV, qD hr.1, rS hr, rE hr, rW hr, rKd hr, rFg hr, rIn hr, rBy hr, rTp hr, rSz hr, rCt hr, rCo hr, en_X12_ofS, en_X12_ofE, X12_isStudent_ok _ hr hg, X12_isError_ok _ hr hg, X12_in0, Nat.reduceAdd, hs, hw, bI_t, bI_f, l_lit, nI_add, nI_mul, yi_b, yv_b, yl_b, if_true, if_false, or_true, true_or, or_false, false_or, and_true, true_and, and_false, false_and, not_true_eq_false, not_false_eq_true, Nat.reduceEqDiff, ↓reduceIte, nI_eq, nI_leI, nI_ltI, Nat.one_ne_zero]
      · refine api_read hi (.int (nI (citN M e))) ⟨_, ?_, Sc_r A⟩ (fun A1 hi => ⟨_, ?_, Sc_r A1⟩)
        · simp (disch := omega) only [en_X11_error, xR, xV, cgI hc.1, cS hc, cE hc, cWk hc, cR hc.1, cD12 hc.1, cD6 hc.1, cBy hc, cTp hc, cSz hc, cCt hc, cTc hc, cKd hc, cFg hc, cV hc.1, X0_hasStudent_ok _ hc, X0_hasError_ok _ hc, hs, hw, bI_t, bI_f, l_lit, nI_add, nI_mul, yi_b, yv_b, yl_b, if_true, if_false, or_true, true_or, or_false, false_or, and_true, true_and, and_false, false_and, not_true_eq_false, not_false_eq_true, Nat.reduceEqDiff, ↓reduceIte, nI_eq, nI_leI, nI_ltI, Nat.one_ne_zero]
        · have hr := iR hi
          simp (disch := omega) only [en_X12_error, mR, mV, qD hr.1, rS hr, rE hr, rW hr, rKd hr, rFg hr, rIn hr, rBy hr, rTp hr, rSz hr, rCt hr, rCo hr, en_X12_ofS, en_X12_ofE, X12_isStudent_ok _ hr hg, X12_isError_ok _ hr hg, X12_in0, Nat.reduceAdd, hs, hw, bI_t, bI_f, l_lit, nI_add, nI_mul, yi_b, yv_b, yl_b, if_true, if_false, or_true, true_or, or_false, false_or, and_true, true_and, and_false, false_and, not_true_eq_false, not_false_eq_true, Nat.reduceEqDiff, ↓reduceIte, nI_eq, nI_leI, nI_ltI, Nat.one_ne_zero, X12_citedIn_ok _ hr hg]
      · refine api_read hi (.int (nI (novN M e))) ⟨_, ?_, Sc_r A⟩ (fun A1 hi => ⟨_, ?_, Sc_r A1⟩)
        · simp (disch := omega) only [en_X11_error, xR, xV, cgI hc.1, cS hc, cE hc, cWk hc, cR hc.1, cD12 hc.1, cD6 hc.1, cBy hc, cTp hc, cSz hc, cCt hc, cTc hc, cKd hc, cFg hc, cV hc.1, X0_hasStudent_ok _ hc, X0_hasError_ok _ hc, hs, hw, bI_t, bI_f, l_lit, nI_add, nI_mul, yi_b, yv_b, yl_b, if_true, if_false, or_true, true_or, or_false, false_or, and_true, true_and, and_false, false_and, not_true_eq_false, not_false_eq_true, Nat.reduceEqDiff, ↓reduceIte, nI_eq, nI_leI, nI_ltI, Nat.one_ne_zero, X0_noveltyOf_ok _ hc hg he]
        · have hr := iR hi
          simp (disch := omega) only [en_X12_error, mR, mV, qD hr.1, rS hr, rE hr, rW hr, rKd hr, rFg hr, rIn hr, rBy hr, rTp hr, rSz hr, rCt hr, rCo hr, en_X12_ofS, en_X12_ofE, X12_isStudent_ok _ hr hg, X12_isError_ok _ hr hg, X12_in0, Nat.reduceAdd, hs, hw, bI_t, bI_f, l_lit, nI_add, nI_mul, yi_b, yv_b, yl_b, if_true, if_false, or_true, true_or, or_false, false_or, and_true, true_and, and_false, false_and, not_true_eq_false, not_false_eq_true, Nat.reduceEqDiff, ↓reduceIte, nI_eq, nI_leI, nI_ltI, Nat.one_ne_zero, X12_noveltyIn_ok _ hr hg he]
      · refine api_read hi (.int (nI (markN M e))) ⟨_, ?_, Sc_r A⟩ (fun A1 hi => ⟨_, ?_, Sc_r A1⟩)
        · simp (disch := omega) only [en_X11_error, xR, xV, cgI hc.1, cS hc, cE hc, cWk hc, cR hc.1, cD12 hc.1, cD6 hc.1, cBy hc, cTp hc, cSz hc, cCt hc, cTc hc, cKd hc, cFg hc, cV hc.1, X0_hasStudent_ok _ hc, X0_hasError_ok _ hc, hs, hw, bI_t, bI_f, l_lit, nI_add, nI_mul, yi_b, yv_b, yl_b, if_true, if_false, or_true, true_or, or_false, false_or, and_true, true_and, and_false, false_and, not_true_eq_false, not_false_eq_true, Nat.reduceEqDiff, ↓reduceIte, nI_eq, nI_leI, nI_ltI, Nat.one_ne_zero, X0_noveltyOf_ok _ hc hg he, X0_mark_ok _ hc hg he]
        · have hr := iR hi
          simp (disch := omega) only [en_X12_error, mR, mV, qD hr.1, rS hr, rE hr, rW hr, rKd hr, rFg hr, rIn hr, rBy hr, rTp hr, rSz hr, rCt hr, rCo hr, en_X12_ofS, en_X12_ofE, X12_isStudent_ok _ hr hg, X12_isError_ok _ hr hg, X12_in0, Nat.reduceAdd, hs, hw, bI_t, bI_f, l_lit, nI_add, nI_mul, yi_b, yv_b, yl_b, if_true, if_false, or_true, true_or, or_false, false_or, and_true, true_and, and_false, false_and, not_true_eq_false, not_false_eq_true, Nat.reduceEqDiff, ↓reduceIte, nI_eq, nI_leI, nI_ltI, Nat.one_ne_zero, X12_markOf_ok _ hr hg he]
    · have hw := okI_f hw
      have hk := ok_cases (by omega) hw
      refine api_read hi (.int (-1)) ⟨_, ?_, Sc_r A⟩ (fun A1 hi => ⟨_, ?_, Sc_r A1⟩)
      · rw [en_X11_error, (xR _ _).1, cV hc.1, X0_hasError_ok (by omega) hc, yi_b, hs, bI_t]
        simp (disch := omega) only [l_lit, nI_eq, Nat.one_ne_zero, ↓reduceIte, if_false, hk]
      · have hr := iR hi
        simp (disch := omega) only [en_X12_error, mR, mV, qD hr.1, rS hr, rE hr, rW hr, rKd hr, rFg hr, rIn hr, rBy hr, rTp hr, rSz hr, rCt hr, rCo hr, en_X12_ofS, en_X12_ofE, X12_isStudent_ok _ hr hg, X12_isError_ok _ hr hg, X12_in0, Nat.reduceAdd, hs, hw, bI_t, bI_f, l_lit, nI_add, nI_mul, yi_b, yv_b, yl_b, if_true, if_false, or_true, true_or, or_false, false_or, and_true, true_and, and_false, false_and, not_true_eq_false, not_false_eq_true, Nat.reduceEqDiff, ↓reduceIte, nI_eq, nI_leI, nI_ltI, Nat.one_ne_zero]
  · have hs := okI_f hs
    refine api_read hi (.int (-1)) ⟨_, ?_, Sc_r A⟩ (fun A1 hi => ⟨_, ?_, Sc_r A1⟩)
    · rw [en_X11_error, (xR _ _).1, cV hc.1, X0_hasError_ok (by omega) hc, yi_b, hs, bI_f]
      exact if_pos rfl
    · have hr := iR hi
      simp (disch := omega) only [en_X12_error, mR, mV, qD hr.1, rS hr, rE hr, rW hr, rKd hr, rFg hr, rIn hr, rBy hr, rTp hr, rSz hr, rCt hr, rCo hr, en_X12_ofS, en_X12_ofE, X12_isError_ok _ hr hg, hs, bI_f, l_lit, nI_add, nI_mul, yi_b, yv_b, yl_b, if_true, if_false, or_true, true_or, or_false, false_or, and_true, true_and, and_false, false_and, not_true_eq_false, not_false_eq_true, Nat.reduceEqDiff, ↓reduceIte]
theorem okI_at {p n : Nat} (hp : p < n) (hn : n < 2 ^ 31) : okI (nI p) n = true := by rw [okI_nI (by omega) hn]; simp [hp]
theorem okI_at_f {p n : Nat} (hp : n ≤ p) (hp2 : p < 2 ^ 31) : okI (nI p) n = false := by rw [okI_nI hp2 (by omega)]; simp; omega
/-- an error as asked: what a college does of it that can't be -/
theorem X0_addError_no {A : yM} {b n : Nat} {M : Mt} (hn : 2 ≤ n) (hc : Col A b M) (s t z ct : Int32) (h : okI s (M 0 0) = false ∨ okI t 6 = false ∨ okI z 100 = false ∨ ((ct = nI 99) = False ∧ okI ct (M 0 1) = false)) : ycall n 6 [.ref b, .int s, .int t, .int z, .int ct] A = some (some (.int (-1)), A) := by
  obtain ⟨n, rfl⟩ := Nat.exists_eq_add_of_le' hn
  simp (disch := omega) only [en_X0_addError, cV hc.1, X0_hasStudent_ok _ hc, X0_hasError_ok _ hc, l_lit, yi_b, ok_le, ok_gt, Nat.reduceAdd]
  rcases h with h | h | h | ⟨h1, h2⟩
  · simp only [h, bI_f, if_true]
  · by_cases hs : okI s (M 0 0) = true
    · simp (disch := omega) only [hs, h, bI_t, nI_eq, Nat.one_ne_zero, if_false, Bool.false_eq_true]
    · simp only [okI_f hs, bI_f, if_true]
  · by_cases hs : okI s (M 0 0) = true
    · by_cases ht : okI t 6 = true
      · simp (disch := omega) only [hs, ht, h, bI_t, nI_eq, Nat.one_ne_zero, if_false, if_true, Bool.false_eq_true]
      · simp (disch := omega) only [hs, okI_f ht, bI_t, nI_eq, Nat.one_ne_zero, if_false, Bool.false_eq_true]
    · simp only [okI_f hs, bI_f, if_true]
  · by_cases hs : okI s (M 0 0) = true
    · by_cases ht : okI t 6 = true
      · by_cases hz : okI z 100 = true
        · simp (disch := omega) only [hs, ht, hz, h1, h2, bI_t, bI_f, nI_eq, Nat.one_ne_zero, if_false, if_true]
        · simp (disch := omega) only [hs, ht, okI_f hz, bI_t, nI_eq, Nat.one_ne_zero, if_false, if_true, Bool.false_eq_true]
      · simp (disch := omega) only [hs, okI_f ht, bI_t, nI_eq, Nat.one_ne_zero, if_false, Bool.false_eq_true]
    · simp only [okI_f hs, bI_f, if_true]
theorem X0_addError_in {A : yM} {b n : Nat} {M : Mt} (hn : 2 ≤ n) (hc : Col A b M) (hg : Good M) {s t z ct : Nat} (hs : s < M 0 0) (ht : t < 6) (hz : z < 100) (hct : ct = 99 ∨ ct < M 0 1) (h : M 3 s = 0 ∨ M 0 1 = 12) : ycall n 6 [.ref b, .int (nI s), .int (nI t), .int (nI z), .int (nI ct)] A = some (some (.int (if M 3 s = 0 then -nI 3 else -nI 2)), A) := by
  obtain ⟨n, rfl⟩ := Nat.exists_eq_add_of_le' hn
  have hS := gS hg
  have hE := gE hg
  have h2 := gP hg hs
  have h46 : yb_X0_addError (ycall (n + 1)) (46, [some (.ref b), some (.int (nI s)), some (.int (nI t)), some (.int (nI z)), some (.int (nI ct))], [], A) = some (some (.int (if M 3 s = 0 then -nI 3 else -nI 2)), A) := by
    refine (bk_X0_addError_46 ..).trans ?_
    have h3 : M 3 s = 0 ∨ M 3 s = 1 := by omega
    rcases h3 with h3 | h3
    · simp (disch := omega) only [l_lit, nI_add, nI_mul, yi_b, yv_b, yl_b, if_true, if_false, or_true, true_or, or_false, false_or, and_true, true_and, and_false, false_and, not_true_eq_false, not_false_eq_true, Nat.reduceEqDiff, ↓reduceIte, cV hc.1, X0_isIn_ok _ hc hg hs, h3]
    · have h4 : M 0 1 = 12 := by omega
      simp (disch := omega) only [l_lit, nI_add, nI_mul, yi_b, yv_b, yl_b, if_true, if_false, or_true, true_or, or_false, false_or, and_true, true_and, and_false, false_and, not_true_eq_false, not_false_eq_true, Nat.reduceEqDiff, ↓reduceIte, nI_eq, nI_leI, nI_ltI, cV hc.1, X0_isIn_ok _ hc hg hs, h3, cgI hc.1, cE hc, h4, Nat.one_ne_zero, Nat.lt_irrefl]
  simp (disch := omega) only [en_X0_addError, cV hc.1, X0_hasStudent_ok _ hc, X0_hasError_ok _ hc, l_lit, yi_b, ok_le, ok_gt, Nat.reduceAdd, okI_at hs, okI_at ht, okI_at hz, bI_t, nI_eq, Nat.one_ne_zero, if_false, if_true]
  rcases hct with rfl | hct
  · rw [if_pos rfl]; exact h46
  · rw [if_neg (by omega)]
    simp (disch := omega) only [okI_at hct, bI_t, nI_eq, Nat.one_ne_zero, if_false]
    exact h46
theorem api_errs (hi : InvX A M I hI T c g) (s t z ct : Int32) : Api 76 173 [.int s, .int t, .int z, .int ct] A g := by
  have hc := iC hi
  have hg := iG hi
  have hr := iR hi
  have hE := gE hg
  have hS := gS hg
  by_cases hno : okI s (M 0 0) = false ∨ okI t 6 = false ∨ okI z 100 = false ∨ ((ct = nI 99) = False ∧ okI ct (M 0 1) = false)
  · refine api_read hi (.int (-1)) ⟨_, ?_, Sc_r A⟩ (fun A1 hi => ⟨_, ?_, Sc_r A1⟩)
    · simp (disch := omega) only [en_X11_errs, xR, xV, cgI hc.1, cS hc, cE hc, cWk hc, cR hc.1, cD12 hc.1, cD6 hc.1, cBy hc, cTp hc, cSz hc, cCt hc, cTc hc, cKd hc, cFg hc, cV hc.1, X0_addError_no _ hc s t z ct hno, yi_b]
    · have hr := iR hi
      simp (disch := omega) only [en_X12_errs, mV, X12_isStudent_ok _ hr hg, X12_isError_ok _ hr hg, l_lit, yi_b, X12_in0, Nat.reduceAdd]
      rcases hno with h | h | h | ⟨h1, h2⟩
      · simp only [h, bI_f, if_true]
      · by_cases hs : okI s (M 0 0) = true
        · simp (disch := omega) only [hs, h, bI_t, bI_f, nI_eq, Nat.one_ne_zero, if_false, if_true]
        · simp only [okI_f hs, bI_f, if_true]
      · by_cases hs : okI s (M 0 0) = true
        · by_cases ht : okI t 6 = true
          · simp (disch := omega) only [hs, ht, h, bI_t, bI_f, nI_eq, Nat.one_ne_zero, if_false, if_true]
          · simp (disch := omega) only [hs, okI_f ht, bI_t, bI_f, nI_eq, Nat.one_ne_zero, if_false, if_true]
        · simp only [okI_f hs, bI_f, if_true]
      · by_cases hs : okI s (M 0 0) = true
        · by_cases ht : okI t 6 = true
          · by_cases hz : okI z 100 = true
            · simp (disch := omega) only [hs, ht, hz, h1, h2, bI_t, bI_f, nI_eq, Nat.one_ne_zero, if_false, if_true]
            · simp (disch := omega) only [hs, ht, okI_f hz, bI_t, bI_f, nI_eq, Nat.one_ne_zero, if_false, if_true]
          · simp (disch := omega) only [hs, okI_f ht, bI_t, bI_f, nI_eq, Nat.one_ne_zero, if_false, if_true]
        · simp only [okI_f hs, bI_f, if_true]
  · simp only [not_or, Bool.not_eq_false, not_and] at hno
    obtain ⟨ys, yt, yz, yct⟩ := hno
    obtain ⟨s, hs, rfl⟩ := okI_of (by omega) ys
    obtain ⟨t, ht, rfl⟩ := okI_of (by omega) yt
    obtain ⟨z, hz, rfl⟩ := okI_of (by omega) yz
    have hct2 : ∃ q, (q = 99 ∨ q < M 0 1) ∧ ct = nI q := by
      by_cases h : ct = nI 99
      · exact ⟨99, Or.inl rfl, h⟩
      · obtain ⟨q, hq, e⟩ := okI_of (by omega) (yct (eq_false h))
        exact ⟨q, Or.inr hq, e⟩
    obtain ⟨ct, hct, rfl⟩ := hct2
    clear yct
    have h2 := gP hg hs
    have h3 : M 3 s = 0 ∨ M 3 s = 1 := by omega
    -- the reference up to where the ways meet
    have ref : ∀ A1, InvX A1 M I hI T c g → ycall 20 173 [.ref 79, .int (nI s), .int (nI t), .int (nI z), .int (nI ct)] A1 = yb_X12_errs (ycall 19) (45, [some (.ref 79), some (.int (nI s)), some (.int (nI t)), some (.int (nI z)), some (.int (nI ct))], [], A1) := by
      intro A1 hi
      have hr := iR hi
      simp (disch := omega) only [en_X12_errs, mV, X12_isStudent_ok _ hr hg, X12_isError_ok _ hr hg, l_lit, yi_b, X12_in0, Nat.reduceAdd, okI_at hs, okI_at ht, okI_at hz, bI_t, nI_eq, Nat.one_ne_zero, if_false]
      rcases hct with rfl | hct
      · rw [if_pos rfl]
      · rw [if_neg (by omega)]
        simp (disch := omega) only [okI_at hct, bI_t, nI_eq, Nat.one_ne_zero, if_false]
    by_cases hno : M 3 s = 0 ∨ M 0 1 = 12
    · refine api_read hi (.int (if M 3 s = 0 then -nI 3 else -nI 2)) ⟨_, ?_, Sc_r A⟩ (fun A1 hi => ⟨_, ?_, Sc_r A1⟩)
      · simp (disch := omega) only [en_X11_errs, xR, xV, cgI hc.1, cS hc, cE hc, cWk hc, cR hc.1, cD12 hc.1, cD6 hc.1, cBy hc, cTp hc, cSz hc, cCt hc, cTc hc, cKd hc, cFg hc, cV hc.1, X0_addError_in _ hc hg hs ht hz hct hno, yi_b]
      · have hr := iR hi
        rw [ref A1 hi]
        refine (bk_X12_errs_45 ..).trans ?_
        rcases h3 with h3 | h3
        · simp (disch := omega) only [mR, l_lit, nI_add, nI_mul, yi_b, yv_b, yl_b, if_true, if_false, or_true, true_or, or_false, false_or, and_true, true_and, and_false, false_and, not_true_eq_false, not_false_eq_true, Nat.reduceEqDiff, ↓reduceIte, X12_isThere_ok _ hr hg hs, h3]
        · have h4 : M 0 1 = 12 := by omega
          simp (disch := omega) only [mR, l_lit, nI_add, nI_mul, yi_b, yv_b, yl_b, if_true, if_false, or_true, true_or, or_false, false_or, and_true, true_and, and_false, false_and, not_true_eq_false, not_false_eq_true, Nat.reduceEqDiff, ↓reduceIte, nI_eq, nI_leI, nI_ltI, X12_isThere_ok _ hr hg hs, h3, qD hr.1, rE hr, h4, Nat.one_ne_zero]
    · have h31 : M 3 s = 1 := by omega
      have hE2 : M 0 1 < 12 := by omega
      obtain ⟨A1, a1, a2, a3⟩ := X0_addError_ok (n := 19) (by omega) hc hg hs ht hz hct hE2 h31
      have hr1 : Row A1 80 M := Row_eq hr (a3 80 (by omega))
      obtain ⟨A2, b1, b2, b3⟩ := X12_errsIn_ok (n := 19) (by omega) hr1 hg (s := s) (t := t) (z := z) (c := ct) hE2
      refine api_mut (v := .int (nI (M 0 1))) (A1 := A1) (A2 := A2) (M' := aeN M s t z ct) hi (aeN_good hg hs ht hz hct hE2) ?_ ?_ a2 (fun p h _ => a3 p (by omega)) (by rw [a3 79 (by omega)]) ?_ b2 (fun p h _ => b3 p h) (by rw [b3 79 (by omega)])
      · unfold aeN
        simp (disch := omega) only [mu_ne, mu_ne2]
        exact iW hi
      · simp (disch := omega) only [en_X11_errs, xR, cV hc.1, a1, yi_b]
      · have i1 : ycall 20 173 [.ref 79, .int (nI s), .int (nI t), .int (nI z), .int (nI ct)] A1 = yb_X12_errs (ycall 19) (45, [some (.ref 79), some (.int (nI s)), some (.int (nI t)), some (.int (nI z)), some (.int (nI ct))], [], A1) := by
          have hr := hr1
          simp (disch := omega) only [en_X12_errs, mV, X12_isStudent_ok _ hr hg, X12_isError_ok _ hr hg, l_lit, yi_b, X12_in0, Nat.reduceAdd, okI_at hs, okI_at ht, okI_at hz, bI_t, nI_eq, Nat.one_ne_zero, if_false]
          rcases hct with rfl | hct
          · rw [if_pos rfl]
          · rw [if_neg (by omega)]
            simp (disch := omega) only [okI_at hct, bI_t, nI_eq, Nat.one_ne_zero, if_false]
        rw [i1]
        refine (bk_X12_errs_45 ..).trans ?_
        have e1 : A2 80 1 = nI (M 0 1 + 1) := by
          have := rE b2
          unfold aeN at this
          simpa (disch := omega) only [mu_ne, mu_eq] using this
        simp (disch := omega) only [mR, l_lit, nI_add, nI_mul, yi_b, yv_b, yl_b, if_true, if_false, or_true, true_or, or_false, false_or, and_true, true_and, and_false, false_and, not_true_eq_false, not_false_eq_true, Nat.reduceEqDiff, ↓reduceIte, nI_eq, nI_leI, nI_ltI, X12_isThere_ok _ hr1 hg hs, h31, qD hr1.1, rE hr1, Nat.one_ne_zero, b1, e1, nI_sub, Nat.add_sub_cancel, show ¬ M 0 1 = 12 by omega]
end A2
