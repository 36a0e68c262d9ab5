section A1
variable {A : yM} {M I : Mt} {hI : Nat} {T : Nat → Nat → Nat} {c : Nat → Nat → Int32} {g : Nat} {n : Nat}
theorem X12_errorsOf_ok {A : yM} {M : Mt} {n p : Nat} (hn : 2 ≤ n) (hr : Row A 80 M) (hg : Good M) (hp : p < 6) : ycall n 169 [.ref 79, .int (nI p)] A = some (some (.int (nI (bts (fun e => if M 4 e = p then 1 else 0) (M 0 1)))), A) := by
  obtain ⟨n, rfl⟩ := Nat.exists_eq_add_of_le' hn
  have hE := gE hg
  have hS := gS hg
  rw [en_X12_errorsOf]
  refine (for_up (fun k => yb_X12_errorsOf (ycall (n + 1)) (4, [some (.ref 79), some (.int (nI p)), some (.int (nI (bts (fun e => if M 4 e = p then 1 else 0) k))), some (.int (nI k))], [], A)) (M 0 1) (fun k hk => ?_)).trans ?_
  · have h3 := gEr hg hk
    have h4 : bts (fun e => if M 4 e = p then 1 else 0) k < 2 ^ k := bts_lt (fun j _ => by split <;> omega)
    have h6 : bts (fun e => if M 4 e = p then 1 else 0) (k + 1) = bts (fun e => if M 4 e = p then 1 else 0) k + (if M 4 k = p then 1 else 0) * 2 ^ k := rfl
    refine (bk_X12_errorsOf_4 ..).trans ?_
    simp (disch := omega) only [mR, mV, qD hr.1, rS hr, rE hr, rW hr, rKd hr, rFg hr, rIn hr, rBy hr, rTp hr, rSz hr, rCt hr, rCo hr, en_X12_ofS, en_X12_ofE, l_lit, nI_add, nI_mul, yi_b, yv_b, yl_b, if_true, if_false, or_true, true_or, or_false, false_or, and_true, true_and, and_false, false_and, not_true_eq_false, not_false_eq_true, Nat.reduceEqDiff, ↓reduceIte, nI_eq, nI_leI, nI_ltI, Nat.not_le.mpr hk, h6]
    by_cases q : M 4 k = p
    · simp only [if_pos q, Nat.one_mul]
      rw [nI_orbit (by omega) h4]
    · simp only [if_neg q, Nat.zero_mul, Nat.add_zero, nI_or, Nat.or_zero]
  · refine (bk_X12_errorsOf_4 ..).trans ?_
    simp (disch := omega) only [mR, mV, qD hr.1, rS hr, rE hr, rW hr, rKd hr, rFg hr, rIn hr, rBy hr, rTp hr, rSz hr, rCt hr, rCo hr, en_X12_ofS, en_X12_ofE, l_lit, nI_add, nI_mul, yi_b, yv_b, yl_b, if_true, if_false, or_true, true_or, or_false, false_or, and_true, true_and, and_false, false_and, not_true_eq_false, not_false_eq_true, Nat.reduceEqDiff, ↓reduceIte, nI_eq, nI_leI, nI_ltI, Nat.le_refl]
theorem eq_m1 {n : Nat} (hn : n < 2 ^ 31) (x : Int32) (h : x < nI 0) : (x = nI n) = False := eq_false (fun e => by subst e; exact nI_pos hn h)
/-- which of the numbers below k, or none -/
theorem ok_cases {x : Int32} {k : Nat} (hk : k < 2 ^ 31) (h : okI x k = false) : ∀ j, j < k → (x = nI j) = False := by
  intro j hj
  refine eq_false (fun e => ?_)
  subst e
  rw [okI_nI (by omega) hk] at h
  simp [hj] at h
theorem api_student (hi : InvX A M I hI T c g) (s w : Int32) : Api 73 170 [.int s, .int w] A g := by
  have hc := iC hi
  have hg := iG hi
  have hr := iR hi
  have hS := gS hg
  by_cases hs : okI s (M 0 0) = true
  · obtain ⟨p, hp, rfl⟩ := okI_of (by omega) hs
    have h2 := gP hg hp
    by_cases hw : okI w 6 = true
    · obtain ⟨j, hj, rfl⟩ := okI_of (by omega) hw
      have : j = 0 ∨ j = 1 ∨ j = 2 ∨ j = 3 ∨ j = 4 ∨ j = 5 := by omega
      rcases this with rfl | rfl | rfl | rfl | rfl | rfl
      · refine api_read hi (.int (nI (M 1 p))) ⟨_, ?_, Sc_r A⟩ (fun A1 hi => ⟨_, ?_, Sc_r A1⟩)
        · simp (disch := omega) only [en_X11_student, xR, xV, cgI hc.1, cS hc, cE hc, cWk hc, cR hc.1, cD12 hc.1, cD6 hc.1, cBy hc, cTp hc, cSz hc, cCt hc, cTc hc, cKd hc, cFg hc, cV hc.1, X0_hasStudent_ok _ hc, hs, bI_t, l_lit, nI_add, nI_mul, yi_b, yv_b, yl_b, if_true, if_false, or_true, true_or, or_false, false_or, and_true, true_and, and_false, false_and, not_true_eq_false, not_false_eq_true, Nat.reduceEqDiff, ↓reduceIte, nI_eq, nI_leI, nI_ltI, Nat.one_ne_zero]
        · have hr := iR hi
          simp (disch := omega) only [en_X12_student, mR, mV, qD hr.1, rS hr, rE hr, rW hr, rKd hr, rFg hr, rIn hr, rBy hr, rTp hr, rSz hr, rCt hr, rCo hr, en_X12_ofS, en_X12_ofE, X12_isStudent_ok _ hr hg, X12_in0, Nat.reduceAdd, hs, hw, bI_t, l_lit, nI_add, nI_mul, yi_b, yv_b, yl_b, if_true, if_false, or_true, true_or, or_false, false_or, and_true, true_and, and_false, false_and, not_true_eq_false, not_false_eq_true, Nat.reduceEqDiff, ↓reduceIte, nI_eq, nI_leI, nI_ltI, Nat.one_ne_zero]
      · refine api_read hi (.int (nI (M 2 p))) ⟨_, ?_, Sc_r A⟩ (fun A1 hi => ⟨_, ?_, Sc_r A1⟩)
        · simp (disch := omega) only [en_X11_student, xR, xV, cgI hc.1, cS hc, cE hc, cWk hc, cR hc.1, cD12 hc.1, cD6 hc.1, cBy hc, cTp hc, cSz hc, cCt hc, cTc hc, cKd hc, cFg hc, cV hc.1, X0_hasStudent_ok _ hc, hs, bI_t, l_lit, nI_add, nI_mul, yi_b, yv_b, yl_b, if_true, if_false, or_true, true_or, or_false, false_or, and_true, true_and, and_false, false_and, not_true_eq_false, not_false_eq_true, Nat.reduceEqDiff, ↓reduceIte, nI_eq, nI_leI, nI_ltI, Nat.one_ne_zero]
        · have hr := iR hi
          simp (disch := omega) only [en_X12_student, mR, mV, qD hr.1, rS hr, rE hr, rW hr, rKd hr, rFg hr, rIn hr, rBy hr, rTp hr, rSz hr, rCt hr, rCo hr, en_X12_ofS, en_X12_ofE, X12_isStudent_ok _ hr hg, X12_in0, Nat.reduceAdd, hs, hw, bI_t, l_lit, nI_add, nI_mul, yi_b, yv_b, yl_b, if_true, if_false, or_true, true_or, or_false, false_or, and_true, true_and, and_false, false_and, not_true_eq_false, not_false_eq_true, Nat.reduceEqDiff, ↓reduceIte, nI_eq, nI_leI, nI_ltI, Nat.one_ne_zero]
      · refine api_read hi (.int (nI (M 3 p))) ⟨_, ?_, Sc_r A⟩ (fun A1 hi => ⟨_, ?_, Sc_r A1⟩)
        · simp (disch := omega) only [en_X11_student, xR, xV, cgI hc.1, cS hc, cE hc, cWk hc, cR hc.1, cD12 hc.1, cD6 hc.1, cBy hc, cTp hc, cSz hc, cCt hc, cTc hc, cKd hc, cFg hc, cV hc.1, X0_hasStudent_ok _ hc, X0_isIn_ok _ hc hg hp, hs, bI_t, l_lit, nI_add, nI_mul, yi_b, yv_b, yl_b, if_true, if_false, or_true, true_or, or_false, false_or, and_true, true_and, and_false, false_and, not_true_eq_false, not_false_eq_true, Nat.reduceEqDiff, ↓reduceIte, nI_eq, nI_leI, nI_ltI, Nat.one_ne_zero]
          have h3 : M 3 p = 0 ∨ M 3 p = 1 := by omega
          rcases h3 with h3 | h3 <;> simp [h3]
        · have hr := iR hi
          simp (disch := omega) only [en_X12_student, mR, mV, qD hr.1, rS hr, rE hr, rW hr, rKd hr, rFg hr, rIn hr, rBy hr, rTp hr, rSz hr, rCt hr, rCo hr, en_X12_ofS, en_X12_ofE, X12_isStudent_ok _ hr hg, X12_in0, Nat.reduceAdd, hs, hw, bI_t, l_lit, nI_add, nI_mul, yi_b, yv_b, yl_b, if_true, if_false, or_true, true_or, or_false, false_or, and_true, true_and, and_false, false_and, not_true_eq_false, not_false_eq_true, Nat.reduceEqDiff, ↓reduceIte, nI_eq, nI_leI, nI_ltI, Nat.one_ne_zero]
      · refine api_read hi (.int (nI (marksN M p))) ⟨_, ?_, Sc_r A⟩ (fun A1 hi => ⟨_, ?_, Sc_r A1⟩)
        · simp (disch := omega) only [en_X11_student, xR, xV, cgI hc.1, cS hc, cE hc, cWk hc, cR hc.1, cD12 hc.1, cD6 hc.1, cBy hc, cTp hc, cSz hc, cCt hc, cTc hc, cKd hc, cFg hc, cV hc.1, X0_hasStudent_ok _ hc, X0_marksOf_ok _ hc hg, hs, bI_t, l_lit, nI_add, nI_mul, yi_b, yv_b, yl_b, if_true, if_false, or_true, true_or, or_false, false_or, and_true, true_and, and_false, false_and, not_true_eq_false, not_false_eq_true, Nat.reduceEqDiff, ↓reduceIte, nI_eq, nI_leI, nI_ltI, Nat.one_ne_zero]
        · have hr := iR hi
          simp (disch := omega) only [en_X12_student, mR, mV, qD hr.1, rS hr, rE hr, rW hr, rKd hr, rFg hr, rIn hr, rBy hr, rTp hr, rSz hr, rCt hr, rCo hr, en_X12_ofS, en_X12_ofE, X12_isStudent_ok _ hr hg, X12_in0, Nat.reduceAdd, hs, hw, bI_t, l_lit, nI_add, nI_mul, yi_b, yv_b, yl_b, if_true, if_false, or_true, true_or, or_false, false_or, and_true, true_and, and_false, false_and, not_true_eq_false, not_false_eq_true, Nat.reduceEqDiff, ↓reduceIte, nI_eq, nI_leI, nI_ltI, Nat.one_ne_zero, X12_marksOf_ok _ hr hg]
      · refine api_read hi (.int (nI (rankN M p))) ⟨_, ?_, Sc_tMk (M := M) (Or.inl rfl)⟩ (fun A1 hi => ⟨_, ?_, Sc_r A1⟩)
        · simp (disch := omega) only [en_X11_student, xR, xV, cgI hc.1, cS hc, cE hc, cWk hc, cR hc.1, cD12 hc.1, cD6 hc.1, cBy hc, cTp hc, cSz hc, cCt hc, cTc hc, cKd hc, cFg hc, cV hc.1, X0_hasStudent_ok _ hc, X0_rankOf_ok _ hc hg hp, hs, bI_t, l_lit, nI_add, nI_mul, yi_b, yv_b, yl_b, if_true, if_false, or_true, true_or, or_false, false_or, and_true, true_and, and_false, false_and, not_true_eq_false, not_false_eq_true, Nat.reduceEqDiff, ↓reduceIte, nI_eq, nI_leI, nI_ltI, Nat.one_ne_zero]
        · have hr := iR hi
          simp (disch := omega) only [en_X12_student, mR, mV, qD hr.1, rS hr, rE hr, rW hr, rKd hr, rFg hr, rIn hr, rBy hr, rTp hr, rSz hr, rCt hr, rCo hr, en_X12_ofS, en_X12_ofE, X12_isStudent_ok _ hr hg, X12_in0, Nat.reduceAdd, hs, hw, bI_t, l_lit, nI_add, nI_mul, yi_b, yv_b, yl_b, if_true, if_false, or_true, true_or, or_false, false_or, and_true, true_and, and_false, false_and, not_true_eq_false, not_false_eq_true, Nat.reduceEqDiff, ↓reduceIte, nI_eq, nI_leI, nI_ltI, Nat.one_ne_zero, X12_rankOf_ok _ hr hg]
      · refine api_read hi (.int (nI (bts (fun e => if M 4 e = p then 1 else 0) (M 0 1)))) ⟨_, ?_, Sc_r A⟩ (fun A1 hi => ⟨_, ?_, Sc_r A1⟩)
        · simp (disch := omega) only [en_X11_student, xR, xV, cgI hc.1, cS hc, cE hc, cWk hc, cR hc.1, cD12 hc.1, cD6 hc.1, cBy hc, cTp hc, cSz hc, cCt hc, cTc hc, cKd hc, cFg hc, cV hc.1, X0_hasStudent_ok _ hc, X0_errorsOf_ok _ hc hg, hs, bI_t, l_lit, nI_add, nI_mul, yi_b, yv_b, yl_b, if_true, if_false, or_true, true_or, or_false, false_or, and_true, true_and, and_false, false_and, not_true_eq_false, not_false_eq_true, Nat.reduceEqDiff, ↓reduceIte, nI_eq, nI_leI, nI_ltI, Nat.one_ne_zero]
        · have hr := iR hi
          simp (disch := omega) only [en_X12_student, mR, mV, qD hr.1, rS hr, rE hr, rW hr, rKd hr, rFg hr, rIn hr, rBy hr, rTp hr, rSz hr, rCt hr, rCo hr, en_X12_ofS, en_X12_ofE, X12_isStudent_ok _ hr hg, X12_in0, Nat.reduceAdd, hs, hw, bI_t, l_lit, nI_add, nI_mul, yi_b, yv_b, yl_b, if_true, if_false, or_true, true_or, or_false, false_or, and_true, true_and, and_false, false_and, not_true_eq_false, not_false_eq_true, Nat.reduceEqDiff, ↓reduceIte, nI_eq, nI_leI, nI_ltI, Nat.one_ne_zero, X12_errorsOf_ok _ hr hg]
    · have hw := okI_f hw
      have hk := ok_cases (by omega) hw
      refine api_read hi (.int (-1)) ⟨_, ?_, Sc_r A⟩ (fun A1 hi => ⟨_, ?_, Sc_r A1⟩)
      · simp (disch := omega) only [en_X11_student, xR, xV, cgI hc.1, cS hc, cE hc, cWk hc, cR hc.1, cD12 hc.1, cD6 hc.1, cBy hc, cTp hc, cSz hc, cCt hc, cTc hc, cKd hc, cFg hc, cV hc.1, X0_hasStudent_ok _ hc, hs, bI_t, l_lit, nI_add, nI_mul, yi_b, yv_b, yl_b, if_true, if_false, or_true, true_or, or_false, false_or, and_true, true_and, and_false, false_and, not_true_eq_false, not_false_eq_true, Nat.reduceEqDiff, ↓reduceIte, nI_eq, nI_leI, nI_ltI, Nat.one_ne_zero, hk]
      · have hr := iR hi
        simp (disch := omega) only [en_X12_student, mR, mV, qD hr.1, rS hr, rE hr, rW hr, rKd hr, rFg hr, rIn hr, rBy hr, rTp hr, rSz hr, rCt hr, rCo hr, en_X12_ofS, en_X12_ofE, X12_isStudent_ok _ hr hg, X12_in0, Nat.reduceAdd, hs, hw, bI_t, bI_f, l_lit, nI_add, nI_mul, yi_b, yv_b, yl_b, if_true, if_false, or_true, true_or, or_false, false_or, and_true, true_and, and_false, false_and, not_true_eq_false, not_false_eq_true, Nat.reduceEqDiff, ↓reduceIte, nI_eq, nI_leI, nI_ltI, Nat.one_ne_zero]
  · have hs := okI_f hs
    refine api_read hi (.int (-1)) ⟨_, ?_, Sc_r A⟩ (fun A1 hi => ⟨_, ?_, Sc_r A1⟩)
    · simp (disch := omega) only [en_X11_student, xR, xV, cgI hc.1, cS hc, cE hc, cWk hc, cR hc.1, cD12 hc.1, cD6 hc.1, cBy hc, cTp hc, cSz hc, cCt hc, cTc hc, cKd hc, cFg hc, cV hc.1, X0_hasStudent_ok _ hc, hs, bI_f, l_lit, nI_add, nI_mul, yi_b, yv_b, yl_b, if_true, if_false, or_true, true_or, or_false, false_or, and_true, true_and, and_false, false_and, not_true_eq_false, not_false_eq_true, Nat.reduceEqDiff, ↓reduceIte]
    · have hr := iR hi
      simp (disch := omega) only [en_X12_student, mR, mV, qD hr.1, rS hr, rE hr, rW hr, rKd hr, rFg hr, rIn hr, rBy hr, rTp hr, rSz hr, rCt hr, rCo hr, en_X12_ofS, en_X12_ofE, X12_isStudent_ok _ hr hg, hs, bI_f, l_lit, nI_add, nI_mul, yi_b, yv_b, yl_b, if_true, if_false, or_true, true_or, or_false, false_or, and_true, true_and, and_false, false_and, not_true_eq_false, not_false_eq_true, Nat.reduceEqDiff, ↓reduceIte]
end A1
