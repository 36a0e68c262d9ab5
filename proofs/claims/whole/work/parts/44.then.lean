section A4
variable {A : yM} {M I : Mt} {hI : Nat} {T : Nat → Nat → Nat} {c : Nat → Nat → Int32} {g : Nat} {n : Nat}
theorem X11_mayBe_ok (hn : 1 ≤ n) (x : Int32) : ycall n 85 [.int x] A = some (some (.int (bI (okI x 61))), A) := by
  obtain ⟨n, rfl⟩ := Nat.exists_eq_add_of_le' hn
  simp (disch := omega) only [en_X11_mayBeThoughtOf, l_lit, nI_add, nI_mul, yi_b, yv_b, yl_b, if_true, if_false, or_true, true_or, or_false, false_or, and_true, true_and, and_false, false_and, not_true_eq_false, not_false_eq_true, Nat.reduceEqDiff, ↓reduceIte, nI_eq, nI_leI, nI_ltI, ok_gt, Nat.reduceAdd, bI]
  cases okI x 61 <;> simp
theorem X12_isLate_ok (hn : 2 ≤ n) (x : Int32) : ycall n 177 [.int x] A = some (some (.int (bI (okI x 61))), A) := by
  obtain ⟨n, rfl⟩ := Nat.exists_eq_add_of_le' hn
  simp (disch := omega) only [en_X12_isLate, X12_in0, l_lit, yi_b, Nat.reduceAdd, bI_01, if_true]
theorem X11_thinkOn_ok (hn : 5 ≤ n) (hc : Col A 2 M) (hg : Good M) (hw : M 0 2 ≤ 999) {x : Nat} (hx : x < 1000) : ∃ A', ycall n 86 [.ref 1, .int (nI x)] A = some (none, A') ∧ Col A' 21 (wsN M x) ∧ Fr 21 A A' := by
  obtain ⟨n, rfl⟩ := Nat.exists_eq_add_of_le' hn
  obtain ⟨A1, a1, a2, a3⟩ := X0_become_ok (n := n + 4) (by omega) hc (Or.inr (Or.inl rfl) : isB 21) (by omega) hg
  obtain ⟨A2, b1, b2, b3⟩ := X0_passWeeks_ok (n := n + 4) (by omega) a2 hg hx (by omega)
  refine ⟨A2, ?_, b2, Fr_t a3 b3⟩
  simp (disch := omega) only [en_X11_thinkOn, xR, cV a2.1, a1, yv_b, b1]
theorem X12_takes_ok (hn : 5 ≤ n) (hr : Row A 80 M) (hg : Good M) (hw : M 0 2 ≤ 999) {x : Nat} (hx : x < 1000) : ∃ A', ycall n 178 [.ref 79, .int (nI x)] A = some (none, A') ∧ Row A' 81 (wsN M x) ∧ Fq 81 A A' := by
  obtain ⟨n, rfl⟩ := Nat.exists_eq_add_of_le' hn
  obtain ⟨A1, a1, a2, a3⟩ := X12_copies_ok (n := n + 4) (by omega) hr hg (q2 := 81) (by omega) (by omega)
  obtain ⟨A2, b1, b2, b3⟩ := X12_weeksOn_ok (n := n + 4) (by omega) a2 hg hx (by omega)
  refine ⟨A2, ?_, b2, Fq_t a3 b3⟩
  simp (disch := omega) only [en_X12_takes, mR, a1, yv_b, b1]
theorem api_marksThen (hi : InvX A M I hI T c g) (s x : Int32) : Api 80 179 [.int s, .int x] A g := by
  have hc := iC hi
  have hg := iG hi
  have hw := iW hi
  have hS := gS hg
  by_cases hs : okI s (M 0 0) = true
  · by_cases hx : okI x 61 = true
    · obtain ⟨p, hp, rfl⟩ := okI_of (by omega) hs
      obtain ⟨x, xx, rfl⟩ := okI_of (by omega) hx
      have hg2 := wsN_good hg x (by omega)
      refine api_read hi (.int (nI (marksN (wsN M x) p))) ?_ (fun A1 hi => ?_)
      · obtain ⟨A1, a1, a2, a3⟩ := X11_thinkOn_ok (n := 19) (by omega) hc hg hw (x := x) (by omega)
        refine ⟨A1, ?_, Sc_Fr a3⟩
        simp (disch := omega) only [en_X11_marksThen, xR, xV, cV hc.1, cV a2.1, X0_hasStudent_ok _ hc, X11_mayBe_ok, hs, hx, bI_t, l_lit, nI_add, nI_mul, yi_b, yv_b, yl_b, if_true, if_false, or_true, true_or, or_false, false_or, and_true, true_and, and_false, false_and, not_true_eq_false, not_false_eq_true, Nat.reduceEqDiff, ↓reduceIte, nI_eq, nI_leI, nI_ltI, Nat.one_ne_zero, a1, X0_marksOf_ok _ a2 hg2]
      · have hr := iR hi
        obtain ⟨A2, a1, a2, a3⟩ := X12_takes_ok (n := 19) (by omega) hr hg hw (x := x) (by omega)
        refine ⟨A2, ?_, Sc_Fq (Or.inl rfl) a3⟩
        simp (disch := omega) only [en_X12_marksThen, mR, mV, X12_isStudent_ok _ hr hg, X12_isLate_ok, hs, hx, bI_t, l_lit, nI_add, nI_mul, yi_b, yv_b, yl_b, if_true, if_false, or_true, true_or, or_false, false_or, and_true, true_and, and_false, false_and, not_true_eq_false, not_false_eq_true, Nat.reduceEqDiff, ↓reduceIte, nI_eq, nI_leI, nI_ltI, Nat.one_ne_zero, a1, X12_marksOf_ok _ a2 hg2]
    · have hx := okI_f hx
      refine api_read hi (.int (-1)) ⟨_, ?_, Sc_r A⟩ (fun A1 hi => ⟨_, ?_, Sc_r A1⟩)
      · simp (disch := omega) only [en_X11_marksThen, xR, cV hc.1, X0_hasStudent_ok _ hc, X11_mayBe_ok, hs, hx, bI_t, bI_f, l_lit, nI_add, nI_mul, yi_b, yv_b, yl_b, if_true, if_false, or_true, true_or, or_false, false_or, and_true, true_and, and_false, false_and, not_true_eq_false, not_false_eq_true, Nat.reduceEqDiff, ↓reduceIte, nI_eq, nI_leI, nI_ltI, Nat.one_ne_zero]
      · have hr := iR hi
        simp (disch := omega) only [en_X12_marksThen, mV, X12_isStudent_ok _ hr hg, X12_isLate_ok, hs, hx, bI_t, bI_f, l_lit, nI_add, nI_mul, yi_b, yv_b, yl_b, if_true, if_false, or_true, true_or, or_false, false_or, and_true, true_and, and_false, false_and, not_true_eq_false, not_false_eq_true, Nat.reduceEqDiff, ↓reduceIte, nI_eq, nI_leI, nI_ltI, Nat.one_ne_zero]
  · have hs := okI_f hs
    refine api_read hi (.int (-1)) ⟨_, ?_, Sc_r A⟩ (fun A1 hi => ⟨_, ?_, Sc_r A1⟩)
    · simp (disch := omega) only [en_X11_marksThen, xR, cV hc.1, X0_hasStudent_ok _ hc, hs, bI_f, l_lit, nI_add, nI_mul, yi_b, yv_b, yl_b, if_true, if_false, or_true, true_or, or_false, false_or, and_true, true_and, and_false, false_and, not_true_eq_false, not_false_eq_true, Nat.reduceEqDiff, ↓reduceIte, nI_eq, nI_leI, nI_ltI]
    · have hr := iR hi
      simp (disch := omega) only [en_X12_marksThen, mV, X12_isStudent_ok _ hr hg, hs, bI_f, l_lit, nI_add, nI_mul, yi_b, yv_b, yl_b, if_true, if_false, or_true, true_or, or_false, false_or, and_true, true_and, and_false, false_and, not_true_eq_false, not_false_eq_true, Nat.reduceEqDiff, ↓reduceIte, nI_eq, nI_leI, nI_ltI]
theorem api_sizeThen (hi : InvX A M I hI T c g) (s x : Int32) : Api 81 180 [.int s, .int x] A g := by
  have hc := iC hi
  have hg := iG hi
  have hw := iW hi
  have hE := gE hg
  by_cases hs : okI s (M 0 1) = true
  · by_cases hx : okI x 61 = true
    · obtain ⟨e, he, rfl⟩ := okI_of (by omega) hs
      obtain ⟨x, xx, rfl⟩ := okI_of (by omega) hx
      have he2 : e < wsN M x 0 1 := by rw [wsN_E]; exact he
      refine api_read hi (.int (nI (wsN M x 6 e))) ?_ (fun A1 hi => ?_)
      · obtain ⟨A1, a1, a2, a3⟩ := X11_thinkOn_ok (n := 19) (by omega) hc hg hw (x := x) (by omega)
        refine ⟨A1, ?_, Sc_Fr a3⟩
        simp (disch := omega) only [en_X11_sizeThen, xR, xV, cV hc.1, X0_hasError_ok _ hc, X11_mayBe_ok, hs, hx, bI_t, l_lit, nI_add, nI_mul, yi_b, yv_b, yl_b, if_true, if_false, or_true, true_or, or_false, false_or, and_true, true_and, and_false, false_and, not_true_eq_false, not_false_eq_true, Nat.reduceEqDiff, ↓reduceIte, nI_eq, nI_leI, nI_ltI, Nat.one_ne_zero, a1, cR a2.1, cD12 a2.1, cSz a2]
      · have hr := iR hi
        obtain ⟨A2, a1, a2, a3⟩ := X12_takes_ok (n := 19) (by omega) hr hg hw (x := x) (by omega)
        refine ⟨A2, ?_, Sc_Fq (Or.inl rfl) a3⟩
        simp (disch := omega) only [en_X12_sizeThen, mR, mV, X12_isError_ok _ hr hg, X12_isLate_ok, hs, hx, bI_t, l_lit, nI_add, nI_mul, yi_b, yv_b, yl_b, if_true, if_false, or_true, true_or, or_false, false_or, and_true, true_and, and_false, false_and, not_true_eq_false, not_false_eq_true, Nat.reduceEqDiff, ↓reduceIte, nI_eq, nI_leI, nI_ltI, Nat.one_ne_zero, a1, en_X12_ofE, qD a2.1, rSz a2]
    · have hx := okI_f hx
      refine api_read hi (.int (-1)) ⟨_, ?_, Sc_r A⟩ (fun A1 hi => ⟨_, ?_, Sc_r A1⟩)
      · simp (disch := omega) only [en_X11_sizeThen, xR, cV hc.1, X0_hasError_ok _ hc, X11_mayBe_ok, hs, hx, bI_t, bI_f, l_lit, nI_add, nI_mul, yi_b, yv_b, yl_b, if_true, if_false, or_true, true_or, or_false, false_or, and_true, true_and, and_false, false_and, not_true_eq_false, not_false_eq_true, Nat.reduceEqDiff, ↓reduceIte, nI_eq, nI_leI, nI_ltI, Nat.one_ne_zero]
      · have hr := iR hi
        simp (disch := omega) only [en_X12_sizeThen, mV, X12_isError_ok _ hr hg, X12_isLate_ok, hs, hx, bI_t, bI_f, l_lit, nI_add, nI_mul, yi_b, yv_b, yl_b, if_true, if_false, or_true, true_or, or_false, false_or, and_true, true_and, and_false, false_and, not_true_eq_false, not_false_eq_true, Nat.reduceEqDiff, ↓reduceIte, nI_eq, nI_leI, nI_ltI, Nat.one_ne_zero]
  · have hs := okI_f hs
    refine api_read hi (.int (-1)) ⟨_, ?_, Sc_r A⟩ (fun A1 hi => ⟨_, ?_, Sc_r A1⟩)
    · simp (disch := omega) only [en_X11_sizeThen, xR, cV hc.1, X0_hasError_ok _ hc, hs, bI_f, l_lit, nI_add, nI_mul, yi_b, yv_b, yl_b, if_true, if_false, or_true, true_or, or_false, false_or, and_true, true_and, and_false, false_and, not_true_eq_false, not_false_eq_true, Nat.reduceEqDiff, ↓reduceIte, nI_eq, nI_leI, nI_ltI]
    · have hr := iR hi
      simp (disch := omega) only [en_X12_sizeThen, mV, X12_isError_ok _ hr hg, hs, bI_f, l_lit, nI_add, nI_mul, yi_b, yv_b, yl_b, if_true, if_false, or_true, true_or, or_false, false_or, and_true, true_and, and_false, false_and, not_true_eq_false, not_false_eq_true, Nat.reduceEqDiff, ↓reduceIte, nI_eq, nI_leI, nI_ltI]
theorem api_firstThen (hi : InvX A M I hI T c g) (x : Int32) : Api 82 181 [.int x] A g := by
  have hc := iC hi
  have hg := iG hi
  have hw := iW hi
  by_cases hx : okI x 61 = true
  · obtain ⟨x, xx, rfl⟩ := okI_of (by omega) hx
    have hg2 := wsN_good hg x (by omega)
    refine api_read hi (.int (ocd (firN (wsN M x)))) ?_ (fun A1 hi => ?_)
    · obtain ⟨A1, a1, a2, a3⟩ := X11_thinkOn_ok (n := 19) (by omega) hc hg hw (x := x) (by omega)
      refine ⟨_, ?_, Sc_t (Sc_Fr a3) (Sc_tMk (M := wsN M x) (Or.inr rfl))⟩
      simp (disch := omega) only [en_X11_firstThen, xR, xV, cV a2.1, X11_mayBe_ok, hx, bI_t, l_lit, nI_add, nI_mul, yi_b, yv_b, yl_b, if_true, if_false, or_true, true_or, or_false, false_or, and_true, true_and, and_false, false_and, not_true_eq_false, not_false_eq_true, Nat.reduceEqDiff, ↓reduceIte, nI_eq, nI_leI, nI_ltI, Nat.one_ne_zero, a1, X0_firstOfAll_ok _ a2 hg2]
    · have hr := iR hi
      obtain ⟨A2, a1, a2, a3⟩ := X12_takes_ok (n := 19) (by omega) hr hg hw (x := x) (by omega)
      refine ⟨A2, ?_, Sc_Fq (Or.inl rfl) a3⟩
      simp (disch := omega) only [en_X12_firstThen, mR, mV, X12_isLate_ok, hx, bI_t, l_lit, nI_add, nI_mul, yi_b, yv_b, yl_b, if_true, if_false, or_true, true_or, or_false, false_or, and_true, true_and, and_false, false_and, not_true_eq_false, not_false_eq_true, Nat.reduceEqDiff, ↓reduceIte, nI_eq, nI_leI, nI_ltI, Nat.one_ne_zero, a1, X12_firstOf_ok _ a2 hg2]
  · have hx := okI_f hx
    refine api_read hi (.int (-1)) ⟨_, ?_, Sc_r A⟩ (fun A1 hi => ⟨_, ?_, Sc_r A1⟩)
    · simp (disch := omega) only [en_X11_firstThen, X11_mayBe_ok, hx, bI_f, l_lit, nI_add, nI_mul, yi_b, yv_b, yl_b, if_true, if_false, or_true, true_or, or_false, false_or, and_true, true_and, and_false, false_and, not_true_eq_false, not_false_eq_true, Nat.reduceEqDiff, ↓reduceIte, nI_eq, nI_leI, nI_ltI]
    · simp (disch := omega) only [en_X12_firstThen, X12_isLate_ok, hx, bI_f, l_lit, nI_add, nI_mul, yi_b, yv_b, yl_b, if_true, if_false, or_true, true_or, or_false, false_or, and_true, true_and, and_false, false_and, not_true_eq_false, not_false_eq_true, Nat.reduceEqDiff, ↓reduceIte, nI_eq, nI_leI, nI_ltI]
theorem ocd_eq {o : Option Nat} {s k : Nat} (hs : s < 100) (hk : ∀ q, o = some q → q < 100) : (ocd o = nI s) = (o = some s) := by
  apply propext
  cases o with
  | none =>
    refine ⟨fun h => ?_, fun h => by cases h⟩
    have h2 : (-4 : Int32) < 0 := by decide +kernel
    have h3 : (-4 : Int32) = nI s := h
    rw [h3] at h2
    exact absurd h2 (nI_pos (by omega))
  | some q =>
    have := hk q rfl
    refine ⟨fun h => ?_, fun h => by cases h; rfl⟩
    have h3 : nI q = nI s := h
    rw [nI_eq (by omega) (by omega)] at h3
    rw [h3]
theorem firN_lt {M : Mt} (hg : Good M) : ∀ q, firN M = some q → q < 100 := fun q h => by
  have := bst_lt h
  have := gS hg
  omega
theorem fw_class (hg : Good M) (hw : M 0 2 ≤ 999) {s : Nat} (hs : s < 6) : ∀ (j k : Nat) (A : yM), k + j = 61 → Col A 21 (wsN M k) → ∃ A', yb_X11_firstWhen (ycall 19) (26, [some (.ref 1), some (.int (nI s)), some (.int (nI k))], [], A) = some (some (.int (ocd (ff (fun k => decide (firN (wsN M k) = some s)) k j))), A') ∧ Sc A A' := by
  intro j
  induction j with
  | zero =>
    intro k A hk hc
    refine ⟨A, ?_, Sc_r A⟩
    refine (bk_X11_firstWhen_26 ..).trans ?_
    simp (disch := omega) only [l_lit, nI_add, nI_mul, yi_b, yv_b, yl_b, if_true, if_false, or_true, true_or, or_false, false_or, and_true, true_and, and_false, false_and, not_true_eq_false, not_false_eq_true, Nat.reduceEqDiff, ↓reduceIte, nI_eq, nI_leI, nI_ltI, show 60 < k by omega]
    rfl
  | succ j ih =>
    intro k A hk hc
    have hg2 := wsN_good hg k (by omega)
    have hc2 : Col (tMk A 21 (wsN M k)) 21 (wsN M k) := Col_ro hc (by omega)
    obtain ⟨A1, a1, a2, a3⟩ := X0_passWeeks_ok (n := 19) (by omega) hc2 hg2 (x := 1) (by omega) (by rw [wsN_W]; omega)
    obtain ⟨A2, b1, b2⟩ := ih (k + 1) A1 (by omega) a2
    by_cases hf : firN (wsN M k) = some s
    · refine ⟨_, ?_, Sc_tMk (M := wsN M k) (Or.inr rfl)⟩
      refine (bk_X11_firstWhen_26 ..).trans ?_
      simp (disch := omega) only [xR, cV hc.1, l_lit, nI_add, nI_mul, yi_b, yv_b, yl_b, if_true, if_false, or_true, true_or, or_false, false_or, and_true, true_and, and_false, false_and, not_true_eq_false, not_false_eq_true, Nat.reduceEqDiff, ↓reduceIte, nI_eq, nI_leI, nI_ltI, show ¬ 60 < k by omega, X0_firstOfAll_ok _ hc hg2, ocd_eq (k := 0) (show s < 100 by omega) (firN_lt hg2), hf, ff, decide_true]
      exact if_pos rfl
    · refine ⟨A2, ?_, Sc_t (Sc_t (Sc_tMk (M := wsN M k) (Or.inr rfl)) (Sc_Fr a3)) b2⟩
      refine (bk_X11_firstWhen_26 ..).trans ?_
      simp (disch := omega) only [xR, cV hc.1, l_lit, nI_add, nI_mul, yi_b, yv_b, yl_b, if_true, if_false, or_true, true_or, or_false, false_or, and_true, true_and, and_false, false_and, not_true_eq_false, not_false_eq_true, Nat.reduceEqDiff, ↓reduceIte, nI_eq, nI_leI, nI_ltI, show ¬ 60 < k by omega, X0_firstOfAll_ok _ hc hg2, ocd_eq (k := 0) (show s < 100 by omega) (firN_lt hg2), hf, ff, decide_false, a1, b1, Bool.false_eq_true]
theorem fw_ref (hg : Good M) (hw : M 0 2 ≤ 999) {s : Nat} (hs : s < 6) : ∀ (j k : Nat) (A : yM), k + j = 61 → Row A 81 (wsN M k) → ∃ A', yb_X12_firstWhen (ycall 19) (23, [some (.ref 79), some (.int (nI s)), some (.int (nI k))], [], A) = some (some (.int (ocd (ff (fun k => decide (firN (wsN M k) = some s)) k j))), A') ∧ Sc A A' := by
  intro j
  induction j with
  | zero =>
    intro k A hk hr
    refine ⟨A, ?_, Sc_r A⟩
    refine (bk_X12_firstWhen_23 ..).trans ?_
    simp (disch := omega) only [l_lit, nI_add, nI_mul, yi_b, yv_b, yl_b, if_true, if_false, or_true, true_or, or_false, false_or, and_true, true_and, and_false, false_and, not_true_eq_false, not_false_eq_true, Nat.reduceEqDiff, ↓reduceIte, nI_eq, nI_leI, nI_ltI, show 60 < k by omega]
    rfl
  | succ j ih =>
    intro k A hk hr
    have hg2 := wsN_good hg k (by omega)
    obtain ⟨A1, a1, a2, a3⟩ := X12_week_ok (n := 19) (by omega) hr hg2 (by rw [wsN_W]; omega)
    obtain ⟨A2, b1, b2⟩ := ih (k + 1) A1 (by omega) a2
    by_cases hf : firN (wsN M k) = some s
    · refine ⟨_, ?_, Sc_r A⟩
      refine (bk_X12_firstWhen_23 ..).trans ?_
      simp (disch := omega) only [mR, l_lit, nI_add, nI_mul, yi_b, yv_b, yl_b, if_true, if_false, or_true, true_or, or_false, false_or, and_true, true_and, and_false, false_and, not_true_eq_false, not_false_eq_true, Nat.reduceEqDiff, ↓reduceIte, nI_eq, nI_leI, nI_ltI, show ¬ 60 < k by omega, X12_firstOf_ok _ hr hg2, ocd_eq (k := 0) (show s < 100 by omega) (firN_lt hg2), hf, ff, decide_true]
      exact if_pos rfl
    · refine ⟨A2, ?_, Sc_t (Sc_Fq (Or.inl rfl) a3) b2⟩
      refine (bk_X12_firstWhen_23 ..).trans ?_
      simp (disch := omega) only [mR, l_lit, nI_add, nI_mul, yi_b, yv_b, yl_b, if_true, if_false, or_true, true_or, or_false, false_or, and_true, true_and, and_false, false_and, not_true_eq_false, not_false_eq_true, Nat.reduceEqDiff, ↓reduceIte, nI_eq, nI_leI, nI_ltI, show ¬ 60 < k by omega, X12_firstOf_ok _ hr hg2, ocd_eq (k := 0) (show s < 100 by omega) (firN_lt hg2), hf, ff, decide_false, a1, b1, Bool.false_eq_true]
theorem api_firstWhen (hi : InvX A M I hI T c g) (s : Int32) : Api 83 182 [.int s] A g := by
  have hc := iC hi
  have hg := iG hi
  have hw := iW hi
  have hS := gS hg
  by_cases hs : okI s (M 0 0) = true
  · obtain ⟨s, xs, rfl⟩ := okI_of (by omega) hs
    refine api_read hi (.int (ocd (ff (fun k => decide (firN (wsN M k) = some s)) 0 61))) ?_ (fun A1 hi => ?_)
    · obtain ⟨A1, a1, a2, a3⟩ := X0_become_ok (n := 19) (by omega) hc (Or.inr (Or.inl rfl) : isB 21) (by omega) hg
      obtain ⟨A2, b1, b2⟩ := fw_class hg hw (show s < 6 by omega) 61 0 A1 (by omega) a2
      refine ⟨A2, ?_, Sc_t (Sc_Fr a3) b2⟩
      simp (disch := omega) only [en_X11_firstWhen, xR, cV hc.1, cV a2.1, X0_hasStudent_ok _ hc, hs, bI_t, l_lit, nI_add, nI_mul, yi_b, yv_b, yl_b, if_true, if_false, or_true, true_or, or_false, false_or, and_true, true_and, and_false, false_and, not_true_eq_false, not_false_eq_true, Nat.reduceEqDiff, ↓reduceIte, nI_eq, nI_leI, nI_ltI, Nat.one_ne_zero, a1, b1]
    · have hr := iR hi
      obtain ⟨A1', a1, a2, a3⟩ := X12_copies_ok (n := 19) (by omega) hr hg (q2 := 81) (by omega) (by omega)
      obtain ⟨A2, b1, b2⟩ := fw_ref hg hw (show s < 6 by omega) 61 0 A1' (by omega) a2
      refine ⟨A2, ?_, Sc_t (Sc_Fq (Or.inl rfl) a3) b2⟩
      simp (disch := omega) only [en_X12_firstWhen, mR, mV, X12_isStudent_ok _ hr hg, hs, bI_t, l_lit, nI_add, nI_mul, yi_b, yv_b, yl_b, if_true, if_false, or_true, true_or, or_false, false_or, and_true, true_and, and_false, false_and, not_true_eq_false, not_false_eq_true, Nat.reduceEqDiff, ↓reduceIte, nI_eq, nI_leI, nI_ltI, Nat.one_ne_zero, a1, b1]
  · have hs := okI_f hs
    refine api_read hi (.int (-1)) ⟨_, ?_, Sc_r A⟩ (fun A1 hi => ⟨_, ?_, Sc_r A1⟩)
    · simp (disch := omega) only [en_X11_firstWhen, xR, cV hc.1, X0_hasStudent_ok _ hc, hs, bI_f, l_lit, nI_add, nI_mul, yi_b, yv_b, yl_b, if_true, if_false, or_true, true_or, or_false, false_or, and_true, true_and, and_false, false_and, not_true_eq_false, not_false_eq_true, Nat.reduceEqDiff, ↓reduceIte, nI_eq, nI_leI, nI_ltI]
    · have hr := iR hi
      simp (disch := omega) only [en_X12_firstWhen, mV, X12_isStudent_ok _ hr hg, hs, bI_f, l_lit, nI_add, nI_mul, yi_b, yv_b, yl_b, if_true, if_false, or_true, true_or, or_false, false_or, and_true, true_and, and_false, false_and, not_true_eq_false, not_false_eq_true, Nat.reduceEqDiff, ↓reduceIte, nI_eq, nI_leI, nI_ltI]
theorem ge_cases (x : Int32) (hi : Nat) (hh : hi < 2 ^ 30) : (x < nI 1) = True ∨ ((x < nI 1) = False ∧ (nI hi < x) = True) ∨ ∃ j, 1 ≤ j ∧ j ≤ hi ∧ x = nI j := by
  by_cases h1 : x < nI 1
  · exact Or.inl (eq_true h1)
  · by_cases h2 : nI hi < x
    · exact Or.inr (Or.inl ⟨eq_false h1, eq_true h2⟩)
    · refine Or.inr (Or.inr ?_)
      have h0 : ¬ x < 0 := fun q => h1 (Int32.lt_trans q (by decide +kernel))
      obtain ⟨j, hj, rfl⟩ := nI_of h0
      refine ⟨j, ?_, ?_, rfl⟩
      · have := mt (nI_ltI hj (show (1:Nat) < 2 ^ 31 by omega)).mpr h1
        omega
      · have := mt (nI_ltI (show hi < 2 ^ 31 by omega) hj).mpr h2
        omega
theorem dg_class (hg : Good M) (hw : M 0 2 ≤ 999) {s v : Nat} (hs : s < 6) (hv : v < 2000) : ∀ (j k : Nat) (A : yM), k + j = 61 → Col A 21 (wsN M k) → ∃ A', yb_X11_degree (ycall 19) (38, [some (.ref 1), some (.int (nI s)), some (.int (nI v)), some (.int (nI k))], [], A) = some (some (.int (ocd (ff (fun k => decide (v ≤ marksN (wsN M k) s)) k j))), A') ∧ Sc A A' := by
  intro j
  induction j with
  | zero =>
    intro k A hk hc
    refine ⟨A, ?_, Sc_r A⟩
    refine (bk_X11_degree_38 ..).trans ?_
    simp (disch := omega) only [l_lit, nI_add, nI_mul, yi_b, yv_b, yl_b, if_true, if_false, or_true, true_or, or_false, false_or, and_true, true_and, and_false, false_and, not_true_eq_false, not_false_eq_true, Nat.reduceEqDiff, ↓reduceIte, nI_eq, nI_leI, nI_ltI, show 60 < k by omega]
    rfl
  | succ j ih =>
    intro k A hk hc
    have hg2 := wsN_good hg k (by omega)
    have hm := marksN_le hg2 s
    obtain ⟨A1, a1, a2, a3⟩ := X0_passWeeks_ok (n := 19) (by omega) hc hg2 (x := 1) (by omega) (by rw [wsN_W]; omega)
    obtain ⟨A2, b1, b2⟩ := ih (k + 1) A1 (by omega) a2
    by_cases hf : v ≤ marksN (wsN M k) s
    · refine ⟨A, ?_, Sc_r A⟩
      refine (bk_X11_degree_38 ..).trans ?_
      simp (disch := omega) only [xR, cV hc.1, l_lit, nI_add, nI_mul, yi_b, yv_b, yl_b, if_true, if_false, or_true, true_or, or_false, false_or, and_true, true_and, and_false, false_and, not_true_eq_false, not_false_eq_true, Nat.reduceEqDiff, ↓reduceIte, nI_eq, nI_leI, nI_ltI, show ¬ 60 < k by omega, X0_marksOf_ok _ hc hg2, Nat.not_lt.mpr hf, hf, ff, decide_true]
      rfl
    · refine ⟨A2, ?_, Sc_t (Sc_Fr a3) b2⟩
      refine (bk_X11_degree_38 ..).trans ?_
      simp (disch := omega) only [xR, cV hc.1, l_lit, nI_add, nI_mul, yi_b, yv_b, yl_b, if_true, if_false, or_true, true_or, or_false, false_or, and_true, true_and, and_false, false_and, not_true_eq_false, not_false_eq_true, Nat.reduceEqDiff, ↓reduceIte, nI_eq, nI_leI, nI_ltI, show ¬ 60 < k by omega, X0_marksOf_ok _ hc hg2, Nat.not_le.mp hf, hf, ff, decide_false, a1, b1, Bool.false_eq_true]
theorem dg_ref (hg : Good M) (hw : M 0 2 ≤ 999) {s v : Nat} (hs : s < 6) (hv : v < 2000) : ∀ (j k : Nat) (A : yM), k + j = 61 → Row A 81 (wsN M k) → ∃ A', yb_X12_degree (ycall 19) (34, [some (.ref 79), some (.int (nI s)), some (.int (nI v)), some (.int (nI k))], [], A) = some (some (.int (ocd (ff (fun k => decide (v ≤ marksN (wsN M k) s)) k j))), A') ∧ Sc A A' := by
  intro j
  induction j with
  | zero =>
    intro k A hk hr
    refine ⟨A, ?_, Sc_r A⟩
    refine (bk_X12_degree_34 ..).trans ?_
    simp (disch := omega) only [l_lit, nI_add, nI_mul, yi_b, yv_b, yl_b, if_true, if_false, or_true, true_or, or_false, false_or, and_true, true_and, and_false, false_and, not_true_eq_false, not_false_eq_true, Nat.reduceEqDiff, ↓reduceIte, nI_eq, nI_leI, nI_ltI, show 60 < k by omega]
    rfl
  | succ j ih =>
    intro k A hk hr
    have hg2 := wsN_good hg k (by omega)
    have hm := marksN_le hg2 s
    obtain ⟨A1, a1, a2, a3⟩ := X12_week_ok (n := 19) (by omega) hr hg2 (by rw [wsN_W]; omega)
    obtain ⟨A2, b1, b2⟩ := ih (k + 1) A1 (by omega) a2
    by_cases hf : v ≤ marksN (wsN M k) s
    · refine ⟨A, ?_, Sc_r A⟩
      refine (bk_X12_degree_34 ..).trans ?_
      simp (disch := omega) only [mR, l_lit, nI_add, nI_mul, yi_b, yv_b, yl_b, if_true, if_false, or_true, true_or, or_false, false_or, and_true, true_and, and_false, false_and, not_true_eq_false, not_false_eq_true, Nat.reduceEqDiff, ↓reduceIte, nI_eq, nI_leI, nI_ltI, show ¬ 60 < k by omega, X12_marksOf_ok _ hr hg2, Nat.not_lt.mpr hf, hf, ff, decide_true]
      rfl
    · refine ⟨A2, ?_, Sc_t (Sc_Fq (Or.inl rfl) a3) b2⟩
      refine (bk_X12_degree_34 ..).trans ?_
      simp (disch := omega) only [mR, l_lit, nI_add, nI_mul, yi_b, yv_b, yl_b, if_true, if_false, or_true, true_or, or_false, false_or, and_true, true_and, and_false, false_and, not_true_eq_false, not_false_eq_true, Nat.reduceEqDiff, ↓reduceIte, nI_eq, nI_leI, nI_ltI, show ¬ 60 < k by omega, X12_marksOf_ok _ hr hg2, Nat.not_le.mp hf, hf, ff, decide_false, a1, b1, Bool.false_eq_true]
theorem api_degree (hi : InvX A M I hI T c g) (s v : Int32) : Api 84 183 [.int s, .int v] A g := by
  have hc := iC hi
  have hg := iG hi
  have hw := iW hi
  have hS := gS hg
  by_cases hs : okI s (M 0 0) = true
  · rcases ge_cases v 999 (by omega) with h | ⟨h, h2⟩ | ⟨j, j1, j2, rfl⟩
    · refine api_read hi (.int (-1)) ⟨_, ?_, Sc_r A⟩ (fun A1 hi => ⟨_, ?_, Sc_r A1⟩)
      · simp (disch := omega) only [en_X11_degree, xR, cV hc.1, X0_hasStudent_ok _ hc, hs, bI_t, l_lit, nI_add, nI_mul, yi_b, yv_b, yl_b, if_true, if_false, or_true, true_or, or_false, false_or, and_true, true_and, and_false, false_and, not_true_eq_false, not_false_eq_true, Nat.reduceEqDiff, ↓reduceIte, nI_eq, nI_leI, nI_ltI, Nat.one_ne_zero, h]
      · have hr := iR hi
        simp (disch := omega) only [en_X12_degree, mV, X12_isStudent_ok _ hr hg, hs, bI_t, l_lit, nI_add, nI_mul, yi_b, yv_b, yl_b, if_true, if_false, or_true, true_or, or_false, false_or, and_true, true_and, and_false, false_and, not_true_eq_false, not_false_eq_true, Nat.reduceEqDiff, ↓reduceIte, nI_eq, nI_leI, nI_ltI, Nat.one_ne_zero, X12_isIn_ok, h, decide_false, bI_f]
    · have h3 : (v ≤ nI 999) = False := eq_false (fun q => Int32.not_lt.mpr q (of_eq_true h2))
      refine api_read hi (.int (-1)) ⟨_, ?_, Sc_r A⟩ (fun A1 hi => ⟨_, ?_, Sc_r A1⟩)
      · simp (disch := omega) only [en_X11_degree, xR, cV hc.1, X0_hasStudent_ok _ hc, hs, bI_t, l_lit, nI_add, nI_mul, yi_b, yv_b, yl_b, if_true, if_false, or_true, true_or, or_false, false_or, and_true, true_and, and_false, false_and, not_true_eq_false, not_false_eq_true, Nat.reduceEqDiff, ↓reduceIte, nI_eq, nI_leI, nI_ltI, Nat.one_ne_zero, h, h3]
      · have hr := iR hi
        simp (disch := omega) only [en_X12_degree, mV, X12_isStudent_ok _ hr hg, hs, bI_t, l_lit, nI_add, nI_mul, yi_b, yv_b, yl_b, if_true, if_false, or_true, true_or, or_false, false_or, and_true, true_and, and_false, false_and, not_true_eq_false, not_false_eq_true, Nat.reduceEqDiff, ↓reduceIte, nI_eq, nI_leI, nI_ltI, Nat.one_ne_zero, X12_isIn_ok, h, h2, decide_false, bI_f]
    · obtain ⟨s, xs, rfl⟩ := okI_of (by omega) hs
      have hd : decide (¬ nI j < nI 1 ∧ ¬ nI 999 < nI j) = true := by
        rw [decide_eq_true_eq, nI_ltI (by omega) (by omega), nI_ltI (by omega) (by omega)]
        omega
      refine api_read hi (.int (ocd (ff (fun k => decide (j ≤ marksN (wsN M k) s)) 0 61))) ?_ (fun A1 hi => ?_)
      · obtain ⟨A1, a1, a2, a3⟩ := X0_become_ok (n := 19) (by omega) hc (Or.inr (Or.inl rfl) : isB 21) (by omega) hg
        obtain ⟨A2, b1, b2⟩ := dg_class hg hw (show s < 6 by omega) (show j < 2000 by omega) 61 0 A1 (by omega) a2
        refine ⟨A2, ?_, Sc_t (Sc_Fr a3) b2⟩
        simp (disch := omega) only [en_X11_degree, xR, cV hc.1, cV a2.1, X0_hasStudent_ok _ hc, hs, bI_t, l_lit, nI_add, nI_mul, yi_b, yv_b, yl_b, if_true, if_false, or_true, true_or, or_false, false_or, and_true, true_and, and_false, false_and, not_true_eq_false, not_false_eq_true, Nat.reduceEqDiff, ↓reduceIte, nI_eq, nI_leI, nI_ltI, Nat.one_ne_zero, show ¬ j < 1 by omega, j2, a1, b1]
      · have hr := iR hi
        obtain ⟨A1', a1, a2, a3⟩ := X12_copies_ok (n := 19) (by omega) hr hg (q2 := 81) (by omega) (by omega)
        obtain ⟨A2, b1, b2⟩ := dg_ref hg hw (show s < 6 by omega) (show j < 2000 by omega) 61 0 A1' (by omega) a2
        refine ⟨A2, ?_, Sc_t (Sc_Fq (Or.inl rfl) a3) b2⟩
        simp (disch := omega) only [en_X12_degree, mV, X12_isStudent_ok _ hr hg, hs, bI_t, l_lit, yi_b, X12_isIn_ok, hd]
        simp (disch := omega) only [l_lit, nI_add, nI_mul, yi_b, yv_b, yl_b, if_true, if_false, or_true, true_or, or_false, false_or, and_true, true_and, and_false, false_and, not_true_eq_false, not_false_eq_true, Nat.reduceEqDiff, ↓reduceIte, nI_eq, nI_leI, nI_ltI, Nat.one_ne_zero, mR, a1, b1]
  · have hs := okI_f hs
    refine api_read hi (.int (-1)) ⟨_, ?_, Sc_r A⟩ (fun A1 hi => ⟨_, ?_, Sc_r A1⟩)
    · simp (disch := omega) only [en_X11_degree, xR, cV hc.1, X0_hasStudent_ok _ hc, hs, bI_f, l_lit, nI_add, nI_mul, yi_b, yv_b, yl_b, if_true, if_false, or_true, true_or, or_false, false_or, and_true, true_and, and_false, false_and, not_true_eq_false, not_false_eq_true, Nat.reduceEqDiff, ↓reduceIte, nI_eq, nI_leI, nI_ltI]
    · have hr := iR hi
      simp (disch := omega) only [en_X12_degree, mV, X12_isStudent_ok _ hr hg, hs, bI_f, l_lit, nI_add, nI_mul, yi_b, yv_b, yl_b, if_true, if_false, or_true, true_or, or_false, false_or, and_true, true_and, and_false, false_and, not_true_eq_false, not_false_eq_true, Nat.reduceEqDiff, ↓reduceIte, nI_eq, nI_leI, nI_ltI]
end A4
