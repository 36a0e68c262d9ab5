/-! the law's cases, and its loop -/
abbrev lsL (i : Nat) : List (Option Value) := [some (.ref 0), some (.ref 1), some (.ref 79), some (.ref 92), some (.int (nI i)), none, none, none]
theorem vok_i {cm : Nat} {v : Value} (h : vok cm v = true) (hc : nlg cm = true) : ∃ w, v = .int w := by
  cases v <;> first | exact ⟨_, rfl⟩ | (simp [vok, hc] at h)
theorem vok_l {cm : Nat} {v : Value} (h : vok cm v = true) (hc : nlg cm = false) : ∃ w, v = .long w := by
  cases v <;> first | exact ⟨_, rfl⟩ | (simp [vok, hc] at h)
theorem scr_len {A : yM} {L : Nat} (hL : A 93 0 = nI L) (hL2 : L ≤ 3072) : yla A 0 = some L := by
  unfold yla ysh
  rw [hL, nI_nat (by omega)]
  rfl
theorem sR {A : yM} {L j : Nat} (hL : A 93 0 = nI L) (hL2 : L ≤ 3072) (hj : j < L) {K : Int32 → Option yR} : yrd A 0 (nI j) K = K (A 0 j) := yrd_at0 (scr_len hL hL2) (by omega) hj
theorem sLe {A : yM} {L : Nat} (hL : A 93 0 = nI L) (hL2 : L ≤ 3072) {K : Int32 → Option yR} : yle A 0 K = K (nI L) := by
  unfold yle
  rw [scr_len hL hL2]
  rfl
theorem lgs (x : Int64) : lg_cmp x x = 0 := by
  unfold lg_cmp
  simp
section LC
variable {A : yM} {g L i : Nat}
/-- one step of the law -/
def LCs (A : yM) (g i pc : Nat) : Prop := ∃ A' g', yb_L_law (ycall 20) (pc, lsL i, [], A) = yb_L_law (ycall 20) (23, lsL (i + 6), [], A') ∧ g' ≤ g + 1 ∧ Inv A' g' ∧ A' 0 = A 0 ∧ A' 93 = A 93
theorem lc_224 (hinv : Inv A g) (hgg : g < 100000) (hL : A 93 0 = nI L) (hL2 : L ≤ 3072) (hi6 : i + 6 ≤ L) : LCs A g i 224 := by
  obtain ⟨M, I, hI, T, c, hi⟩ := hinv
  obtain ⟨v, A1, A2, g', hv, a1, a2, b1, b2, b3, b4, e0, e93⟩ := api_college hi (A 0 (i + 1))
  have hL1 : A1 93 0 = nI L := by rw [e93]; exact hL
  obtain ⟨w, rfl⟩ := vok_i hv rfl
  refine ⟨A2, g', ?_, b1, b2, b3, b4⟩
  refine (bk_L_law_224 ..).trans ?_
  simp (disch := omega) only [l_lit, nI_add, sR hL, sR hL1, e0, xV, mV, a1, a2, yi_b, yl_b, lgs, ↓reduceIte, eq_self]
theorem lc_249 (hinv : Inv A g) (hgg : g < 100000) (hL : A 93 0 = nI L) (hL2 : L ≤ 3072) (hi6 : i + 6 ≤ L) : LCs A g i 249 := by
  obtain ⟨M, I, hI, T, c, hi⟩ := hinv
  obtain ⟨v, A1, A2, g', hv, a1, a2, b1, b2, b3, b4, e0, e93⟩ := api_student hi (A 0 (i + 1)) (A 0 (i + 2))
  have hL1 : A1 93 0 = nI L := by rw [e93]; exact hL
  obtain ⟨w, rfl⟩ := vok_i hv rfl
  refine ⟨A2, g', ?_, b1, b2, b3, b4⟩
  refine (bk_L_law_249 ..).trans ?_
  simp (disch := omega) only [l_lit, nI_add, sR hL, sR hL1, e0, xV, mV, a1, a2, yi_b, yl_b, lgs, ↓reduceIte, eq_self]
theorem lc_286 (hinv : Inv A g) (hgg : g < 100000) (hL : A 93 0 = nI L) (hL2 : L ≤ 3072) (hi6 : i + 6 ≤ L) : LCs A g i 286 := by
  obtain ⟨M, I, hI, T, c, hi⟩ := hinv
  obtain ⟨v, A1, A2, g', hv, a1, a2, b1, b2, b3, b4, e0, e93⟩ := api_error hi (A 0 (i + 1)) (A 0 (i + 2))
  have hL1 : A1 93 0 = nI L := by rw [e93]; exact hL
  obtain ⟨w, rfl⟩ := vok_i hv rfl
  refine ⟨A2, g', ?_, b1, b2, b3, b4⟩
  refine (bk_L_law_286 ..).trans ?_
  simp (disch := omega) only [l_lit, nI_add, sR hL, sR hL1, e0, xV, mV, a1, a2, yi_b, yl_b, lgs, ↓reduceIte, eq_self]
theorem lc_323 (hinv : Inv A g) (hgg : g < 100000) (hL : A 93 0 = nI L) (hL2 : L ≤ 3072) (hi6 : i + 6 ≤ L) : LCs A g i 323 := by
  obtain ⟨M, I, hI, T, c, hi⟩ := hinv
  obtain ⟨v, A1, A2, g', hv, a1, a2, b1, b2, b3, b4, e0, e93⟩ := api_comes hi (A 0 (i + 1))
  have hL1 : A1 93 0 = nI L := by rw [e93]; exact hL
  obtain ⟨w, rfl⟩ := vok_i hv rfl
  refine ⟨A2, g', ?_, b1, b2, b3, b4⟩
  refine (bk_L_law_323 ..).trans ?_
  simp (disch := omega) only [l_lit, nI_add, sR hL, sR hL1, e0, xV, mV, a1, a2, yi_b, yl_b, lgs, ↓reduceIte, eq_self]
theorem lc_348 (hinv : Inv A g) (hgg : g < 100000) (hL : A 93 0 = nI L) (hL2 : L ≤ 3072) (hi6 : i + 6 ≤ L) : LCs A g i 348 := by
  obtain ⟨M, I, hI, T, c, hi⟩ := hinv
  obtain ⟨v, A1, A2, g', hv, a1, a2, b1, b2, b3, b4, e0, e93⟩ := api_errs hi (A 0 (i + 1)) (A 0 (i + 2)) (A 0 (i + 3)) (A 0 (i + 4))
  have hL1 : A1 93 0 = nI L := by rw [e93]; exact hL
  obtain ⟨w, rfl⟩ := vok_i hv rfl
  refine ⟨A2, g', ?_, b1, b2, b3, b4⟩
  refine (bk_L_law_348 ..).trans ?_
  simp (disch := omega) only [l_lit, nI_add, sR hL, sR hL1, e0, xV, mV, a1, a2, yi_b, yl_b, lgs, ↓reduceIte, eq_self]
theorem lc_409 (hinv : Inv A g) (hgg : g < 100000) (hL : A 93 0 = nI L) (hL2 : L ≤ 3072) (hi6 : i + 6 ≤ L) : LCs A g i 409 := by
  obtain ⟨M, I, hI, T, c, hi⟩ := hinv
  obtain ⟨v, A1, A2, g', hv, a1, a2, b1, b2, b3, b4, e0, e93⟩ := api_corrects hi (A 0 (i + 1)) (A 0 (i + 2))
  have hL1 : A1 93 0 = nI L := by rw [e93]; exact hL
  obtain ⟨w, rfl⟩ := vok_i hv rfl
  refine ⟨A2, g', ?_, b1, b2, b3, b4⟩
  refine (bk_L_law_409 ..).trans ?_
  simp (disch := omega) only [l_lit, nI_add, sR hL, sR hL1, e0, xV, mV, a1, a2, yi_b, yl_b, lgs, ↓reduceIte, eq_self]
theorem lc_446 (hinv : Inv A g) (hgg : g < 100000) (hL : A 93 0 = nI L) (hL2 : L ≤ 3072) (hi6 : i + 6 ≤ L) : LCs A g i 446 := by
  obtain ⟨M, I, hI, T, c, hi⟩ := hinv
  obtain ⟨v, A1, A2, g', hv, a1, a2, b1, b2, b3, b4, e0, e93⟩ := api_sends hi (A 0 (i + 1))
  have hL1 : A1 93 0 = nI L := by rw [e93]; exact hL
  obtain ⟨w, rfl⟩ := vok_i hv rfl
  refine ⟨A2, g', ?_, b1, b2, b3, b4⟩
  refine (bk_L_law_446 ..).trans ?_
  simp (disch := omega) only [l_lit, nI_add, sR hL, sR hL1, e0, xV, mV, a1, a2, yi_b, yl_b, lgs, ↓reduceIte, eq_self]
theorem lc_471 (hinv : Inv A g) (hgg : g < 100000) (hL : A 93 0 = nI L) (hL2 : L ≤ 3072) (hi6 : i + 6 ≤ L) : LCs A g i 471 := by
  obtain ⟨M, I, hI, T, c, hi⟩ := hinv
  obtain ⟨v, A1, A2, g', hv, a1, a2, b1, b2, b3, b4, e0, e93⟩ := api_weeks hi (A 0 (i + 1))
  have hL1 : A1 93 0 = nI L := by rw [e93]; exact hL
  obtain ⟨w, rfl⟩ := vok_i hv rfl
  refine ⟨A2, g', ?_, b1, b2, b3, b4⟩
  refine (bk_L_law_471 ..).trans ?_
  simp (disch := omega) only [l_lit, nI_add, sR hL, sR hL1, e0, xV, mV, a1, a2, yi_b, yl_b, lgs, ↓reduceIte, eq_self]
theorem lc_496 (hinv : Inv A g) (hgg : g < 100000) (hL : A 93 0 = nI L) (hL2 : L ≤ 3072) (hi6 : i + 6 ≤ L) : LCs A g i 496 := by
  obtain ⟨M, I, hI, T, c, hi⟩ := hinv
  obtain ⟨v, A1, A2, g', hv, a1, a2, b1, b2, b3, b4, e0, e93⟩ := api_marksThen hi (A 0 (i + 1)) (A 0 (i + 2))
  have hL1 : A1 93 0 = nI L := by rw [e93]; exact hL
  obtain ⟨w, rfl⟩ := vok_i hv rfl
  refine ⟨A2, g', ?_, b1, b2, b3, b4⟩
  refine (bk_L_law_496 ..).trans ?_
  simp (disch := omega) only [l_lit, nI_add, sR hL, sR hL1, e0, xV, mV, a1, a2, yi_b, yl_b, lgs, ↓reduceIte, eq_self]
theorem lc_533 (hinv : Inv A g) (hgg : g < 100000) (hL : A 93 0 = nI L) (hL2 : L ≤ 3072) (hi6 : i + 6 ≤ L) : LCs A g i 533 := by
  obtain ⟨M, I, hI, T, c, hi⟩ := hinv
  obtain ⟨v, A1, A2, g', hv, a1, a2, b1, b2, b3, b4, e0, e93⟩ := api_sizeThen hi (A 0 (i + 1)) (A 0 (i + 2))
  have hL1 : A1 93 0 = nI L := by rw [e93]; exact hL
  obtain ⟨w, rfl⟩ := vok_i hv rfl
  refine ⟨A2, g', ?_, b1, b2, b3, b4⟩
  refine (bk_L_law_533 ..).trans ?_
  simp (disch := omega) only [l_lit, nI_add, sR hL, sR hL1, e0, xV, mV, a1, a2, yi_b, yl_b, lgs, ↓reduceIte, eq_self]
theorem lc_570 (hinv : Inv A g) (hgg : g < 100000) (hL : A 93 0 = nI L) (hL2 : L ≤ 3072) (hi6 : i + 6 ≤ L) : LCs A g i 570 := by
  obtain ⟨M, I, hI, T, c, hi⟩ := hinv
  obtain ⟨v, A1, A2, g', hv, a1, a2, b1, b2, b3, b4, e0, e93⟩ := api_firstThen hi (A 0 (i + 1))
  have hL1 : A1 93 0 = nI L := by rw [e93]; exact hL
  obtain ⟨w, rfl⟩ := vok_i hv rfl
  refine ⟨A2, g', ?_, b1, b2, b3, b4⟩
  refine (bk_L_law_570 ..).trans ?_
  simp (disch := omega) only [l_lit, nI_add, sR hL, sR hL1, e0, xV, mV, a1, a2, yi_b, yl_b, lgs, ↓reduceIte, eq_self]
theorem lc_595 (hinv : Inv A g) (hgg : g < 100000) (hL : A 93 0 = nI L) (hL2 : L ≤ 3072) (hi6 : i + 6 ≤ L) : LCs A g i 595 := by
  obtain ⟨M, I, hI, T, c, hi⟩ := hinv
  obtain ⟨v, A1, A2, g', hv, a1, a2, b1, b2, b3, b4, e0, e93⟩ := api_firstWhen hi (A 0 (i + 1))
  have hL1 : A1 93 0 = nI L := by rw [e93]; exact hL
  obtain ⟨w, rfl⟩ := vok_i hv rfl
  refine ⟨A2, g', ?_, b1, b2, b3, b4⟩
  refine (bk_L_law_595 ..).trans ?_
  simp (disch := omega) only [l_lit, nI_add, sR hL, sR hL1, e0, xV, mV, a1, a2, yi_b, yl_b, lgs, ↓reduceIte, eq_self]
theorem lc_620 (hinv : Inv A g) (hgg : g < 100000) (hL : A 93 0 = nI L) (hL2 : L ≤ 3072) (hi6 : i + 6 ≤ L) : LCs A g i 620 := by
  obtain ⟨M, I, hI, T, c, hi⟩ := hinv
  obtain ⟨v, A1, A2, g', hv, a1, a2, b1, b2, b3, b4, e0, e93⟩ := api_degree hi (A 0 (i + 1)) (A 0 (i + 2))
  have hL1 : A1 93 0 = nI L := by rw [e93]; exact hL
  obtain ⟨w, rfl⟩ := vok_i hv rfl
  refine ⟨A2, g', ?_, b1, b2, b3, b4⟩
  refine (bk_L_law_620 ..).trans ?_
  simp (disch := omega) only [l_lit, nI_add, sR hL, sR hL1, e0, xV, mV, a1, a2, yi_b, yl_b, lgs, ↓reduceIte, eq_self]
theorem lc_657 (hinv : Inv A g) (hgg : g < 100000) (hL : A 93 0 = nI L) (hL2 : L ≤ 3072) (hi6 : i + 6 ≤ L) : LCs A g i 657 := by
  obtain ⟨M, I, hI, T, c, hi⟩ := hinv
  obtain ⟨v, A1, A2, g', hv, a1, a2, b1, b2, b3, b4, e0, e93⟩ := api_next hi (A 0 (i + 1))
  have hL1 : A1 93 0 = nI L := by rw [e93]; exact hL
  obtain ⟨w, rfl⟩ := vok_i hv rfl
  refine ⟨A2, g', ?_, b1, b2, b3, b4⟩
  refine (bk_L_law_657 ..).trans ?_
  simp (disch := omega) only [l_lit, nI_add, sR hL, sR hL1, e0, xV, mV, a1, a2, yi_b, yl_b, lgs, ↓reduceIte, eq_self]
theorem lc_682 (hinv : Inv A g) (hgg : g < 100000) (hL : A 93 0 = nI L) (hL2 : L ≤ 3072) (hi6 : i + 6 ≤ L) : LCs A g i 682 := by
  obtain ⟨M, I, hI, T, c, hi⟩ := hinv
  obtain ⟨v, A1, A2, g', hv, a1, a2, b1, b2, b3, b4, e0, e93⟩ := api_farthest hi (A 0 (i + 1)) (A 0 (i + 2))
  have hL1 : A1 93 0 = nI L := by rw [e93]; exact hL
  obtain ⟨w, rfl⟩ := vok_i hv rfl
  refine ⟨A2, g', ?_, b1, b2, b3, b4⟩
  refine (bk_L_law_682 ..).trans ?_
  simp (disch := omega) only [l_lit, nI_add, sR hL, sR hL1, e0, xV, mV, a1, a2, yi_b, yl_b, lgs, ↓reduceIte, eq_self]
theorem lc_719 (hinv : Inv A g) (hgg : g < 100000) (hL : A 93 0 = nI L) (hL2 : L ≤ 3072) (hi6 : i + 6 ≤ L) : LCs A g i 719 := by
  obtain ⟨M, I, hI, T, c, hi⟩ := hinv
  obtain ⟨v, A1, A2, g', hv, a1, a2, b1, b2, b3, b4, e0, e93⟩ := api_cite hi (A 0 (i + 1)) (A 0 (i + 2))
  have hL1 : A1 93 0 = nI L := by rw [e93]; exact hL
  obtain ⟨w, rfl⟩ := vok_i hv rfl
  refine ⟨A2, g', ?_, b1, b2, b3, b4⟩
  refine (bk_L_law_719 ..).trans ?_
  simp (disch := omega) only [l_lit, nI_add, sR hL, sR hL1, e0, xV, mV, a1, a2, yi_b, yl_b, lgs, ↓reduceIte, eq_self]
theorem lc_756 (hinv : Inv A g) (hgg : g < 100000) (hL : A 93 0 = nI L) (hL2 : L ≤ 3072) (hi6 : i + 6 ≤ L) : LCs A g i 756 := by
  obtain ⟨M, I, hI, T, c, hi⟩ := hinv
  obtain ⟨v, A1, A2, g', hv, a1, a2, b1, b2, b3, b4, e0, e93⟩ := api_correct hi (A 0 (i + 1)) (A 0 (i + 2))
  have hL1 : A1 93 0 = nI L := by rw [e93]; exact hL
  obtain ⟨w, rfl⟩ := vok_i hv rfl
  refine ⟨A2, g', ?_, b1, b2, b3, b4⟩
  refine (bk_L_law_756 ..).trans ?_
  simp (disch := omega) only [l_lit, nI_add, sR hL, sR hL1, e0, xV, mV, a1, a2, yi_b, yl_b, lgs, ↓reduceIte, eq_self]
theorem lc_793 (hinv : Inv A g) (hgg : g < 100000) (hL : A 93 0 = nI L) (hL2 : L ≤ 3072) (hi6 : i + 6 ≤ L) : LCs A g i 793 := by
  obtain ⟨M, I, hI, T, c, hi⟩ := hinv
  obtain ⟨v, A1, A2, g', hv, a1, a2, b1, b2, b3, b4, e0, e93⟩ := api_cited hi (A 0 (i + 1)) (A 0 (i + 2))
  have hL1 : A1 93 0 = nI L := by rw [e93]; exact hL
  obtain ⟨w, rfl⟩ := vok_i hv rfl
  refine ⟨A2, g', ?_, b1, b2, b3, b4⟩
  refine (bk_L_law_793 ..).trans ?_
  simp (disch := omega) only [l_lit, nI_add, sR hL, sR hL1, e0, xV, mV, a1, a2, yi_b, yl_b, lgs, ↓reduceIte, eq_self]
theorem lc_830 (hinv : Inv A g) (hgg : g < 100000) (hL : A 93 0 = nI L) (hL2 : L ≤ 3072) (hi6 : i + 6 ≤ L) : LCs A g i 830 := by
  obtain ⟨M, I, hI, T, c, hi⟩ := hinv
  obtain ⟨v, A1, A2, g', hv, a1, a2, b1, b2, b3, b4, e0, e93⟩ := api_worth hi (A 0 (i + 1)) (A 0 (i + 2))
  have hL1 : A1 93 0 = nI L := by rw [e93]; exact hL
  obtain ⟨w, rfl⟩ := vok_l hv rfl
  refine ⟨A2, g', ?_, b1, b2, b3, b4⟩
  refine (bk_L_law_830 ..).trans ?_
  simp (disch := omega) only [l_lit, nI_add, sR hL, sR hL1, e0, xV, mV, a1, a2, yi_b, yl_b, lgs, ↓reduceIte, eq_self]
theorem lc_868 (hinv : Inv A g) (hgg : g < 100000) (hL : A 93 0 = nI L) (hL2 : L ≤ 3072) (hi6 : i + 6 ≤ L) : LCs A g i 868 := by
  obtain ⟨M, I, hI, T, c, hi⟩ := hinv
  obtain ⟨v, A1, A2, g', hv, a1, a2, b1, b2, b3, b4, e0, e93⟩ := api_nets hi (A 0 (i + 1))
  have hL1 : A1 93 0 = nI L := by rw [e93]; exact hL
  obtain ⟨w, rfl⟩ := vok_i hv rfl
  refine ⟨A2, g', ?_, b1, b2, b3, b4⟩
  refine (bk_L_law_868 ..).trans ?_
  simp (disch := omega) only [l_lit, nI_add, sR hL, sR hL1, e0, xV, mV, a1, a2, yi_b, yl_b, lgs, ↓reduceIte, eq_self]
theorem lc_893 (hinv : Inv A g) (hgg : g < 100000) (hL : A 93 0 = nI L) (hL2 : L ≤ 3072) (hi6 : i + 6 ≤ L) : LCs A g i 893 := by
  obtain ⟨M, I, hI, T, c, hi⟩ := hinv
  obtain ⟨v, A1, A2, g', hv, a1, a2, b1, b2, b3, b4, e0, e93⟩ := api_topics hi (A 0 (i + 1))
  have hL1 : A1 93 0 = nI L := by rw [e93]; exact hL
  obtain ⟨w, rfl⟩ := vok_i hv rfl
  refine ⟨A2, g', ?_, b1, b2, b3, b4⟩
  refine (bk_L_law_893 ..).trans ?_
  simp (disch := omega) only [l_lit, nI_add, sR hL, sR hL1, e0, xV, mV, a1, a2, yi_b, yl_b, lgs, ↓reduceIte, eq_self]
theorem lc_918 (hinv : Inv A g) (hgg : g < 100000) (hL : A 93 0 = nI L) (hL2 : L ≤ 3072) (hi6 : i + 6 ≤ L) : LCs A g i 918 := by
  obtain ⟨M, I, hI, T, c, hi⟩ := hinv
  obtain ⟨v, A1, A2, g', hv, a1, a2, b1, b2, b3, b4, e0, e93⟩ := api_votes hi (A 0 (i + 1))
  have hL1 : A1 93 0 = nI L := by rw [e93]; exact hL
  obtain ⟨w, rfl⟩ := vok_i hv rfl
  refine ⟨A2, g', ?_, b1, b2, b3, b4⟩
  refine (bk_L_law_918 ..).trans ?_
  simp (disch := omega) only [l_lit, nI_add, sR hL, sR hL1, e0, xV, mV, a1, a2, yi_b, yl_b, lgs, ↓reduceIte, eq_self]
theorem lc_943 (hinv : Inv A g) (hgg : g < 100000) (hL : A 93 0 = nI L) (hL2 : L ≤ 3072) (hi6 : i + 6 ≤ L) : LCs A g i 943 := by
  obtain ⟨M, I, hI, T, c, hi⟩ := hinv
  obtain ⟨v, A1, A2, g', hv, a1, a2, b1, b2, b3, b4, e0, e93⟩ := api_slips hi (A 0 (i + 1))
  have hL1 : A1 93 0 = nI L := by rw [e93]; exact hL
  obtain ⟨w, rfl⟩ := vok_i hv rfl
  refine ⟨A2, g', ?_, b1, b2, b3, b4⟩
  refine (bk_L_law_943 ..).trans ?_
  simp (disch := omega) only [l_lit, nI_add, sR hL, sR hL1, e0, xV, mV, a1, a2, yi_b, yl_b, lgs, ↓reduceIte, eq_self]
theorem lc_968 (hinv : Inv A g) (hgg : g < 100000) (hL : A 93 0 = nI L) (hL2 : L ≤ 3072) (hi6 : i + 6 ≤ L) : LCs A g i 968 := by
  obtain ⟨M, I, hI, T, c, hi⟩ := hinv
  obtain ⟨v, A1, A2, g', hv, a1, a2, b1, b2, b3, b4, e0, e93⟩ := api_examiners hi (A 0 (i + 1))
  have hL1 : A1 93 0 = nI L := by rw [e93]; exact hL
  obtain ⟨w, rfl⟩ := vok_i hv rfl
  refine ⟨A2, g', ?_, b1, b2, b3, b4⟩
  refine (bk_L_law_968 ..).trans ?_
  simp (disch := omega) only [l_lit, nI_add, sR hL, sR hL1, e0, xV, mV, a1, a2, yi_b, yl_b, lgs, ↓reduceIte, eq_self]
theorem lc_993 (hinv : Inv A g) (hgg : g < 100000) (hL : A 93 0 = nI L) (hL2 : L ≤ 3072) (hi6 : i + 6 ≤ L) : LCs A g i 993 := by
  obtain ⟨M, I, hI, T, c, hi⟩ := hinv
  obtain ⟨v, A1, A2, g', hv, a1, a2, b1, b2, b3, b4, e0, e93⟩ := api_order hi (A 0 (i + 1))
  have hL1 : A1 93 0 = nI L := by rw [e93]; exact hL
  obtain ⟨w, rfl⟩ := vok_i hv rfl
  refine ⟨A2, g', ?_, b1, b2, b3, b4⟩
  refine (bk_L_law_993 ..).trans ?_
  simp (disch := omega) only [l_lit, nI_add, sR hL, sR hL1, e0, xV, mV, a1, a2, yi_b, yl_b, lgs, ↓reduceIte, eq_self]
theorem lc_1018 (hinv : Inv A g) (hgg : g < 100000) (hL : A 93 0 = nI L) (hL2 : L ≤ 3072) (hi6 : i + 6 ≤ L) : LCs A g i 1018 := by
  obtain ⟨M, I, hI, T, c, hi⟩ := hinv
  obtain ⟨v, A1, A2, g', hv, a1, a2, b1, b2, b3, b4, e0, e93⟩ := api_whatIs hi (A 0 (i + 1)) (A 0 (i + 2)) (A 0 (i + 3))
  have hL1 : A1 93 0 = nI L := by rw [e93]; exact hL
  obtain ⟨w, rfl⟩ := vok_i hv rfl
  refine ⟨A2, g', ?_, b1, b2, b3, b4⟩
  refine (bk_L_law_1018 ..).trans ?_
  simp (disch := omega) only [l_lit, nI_add, sR hL, sR hL1, e0, xV, mV, a1, a2, yi_b, yl_b, lgs, ↓reduceIte, eq_self]
theorem lc_1067 (hinv : Inv A g) (hgg : g < 100000) (hL : A 93 0 = nI L) (hL2 : L ≤ 3072) (hi6 : i + 6 ≤ L) : LCs A g i 1067 := by
  obtain ⟨M, I, hI, T, c, hi⟩ := hinv
  obtain ⟨v, A1, A2, g', hv, a1, a2, b1, b2, b3, b4, e0, e93⟩ := api_two hi (A 0 (i + 1)) (A 0 (i + 2))
  have hL1 : A1 93 0 = nI L := by rw [e93]; exact hL
  obtain ⟨w, rfl⟩ := vok_i hv rfl
  refine ⟨A2, g', ?_, b1, b2, b3, b4⟩
  refine (bk_L_law_1067 ..).trans ?_
  simp (disch := omega) only [l_lit, nI_add, sR hL, sR hL1, e0, xV, mV, a1, a2, yi_b, yl_b, lgs, ↓reduceIte, eq_self]
theorem lc_1104 (hinv : Inv A g) (hgg : g < 100000) (hL : A 93 0 = nI L) (hL2 : L ≤ 3072) (hi6 : i + 6 ≤ L) : LCs A g i 1104 := by
  obtain ⟨M, I, hI, T, c, hi⟩ := hinv
  obtain ⟨v, A1, A2, g', hv, a1, a2, b1, b2, b3, b4, e0, e93⟩ := api_odds hi (A 0 (i + 1)) (A 0 (i + 2)) (A 0 (i + 3)) (A 0 (i + 4))
  have hL1 : A1 93 0 = nI L := by rw [e93]; exact hL
  obtain ⟨w, rfl⟩ := vok_l hv rfl
  refine ⟨A2, g', ?_, b1, b2, b3, b4⟩
  refine (bk_L_law_1104 ..).trans ?_
  simp (disch := omega) only [l_lit, nI_add, sR hL, sR hL1, e0, xV, mV, a1, a2, yi_b, yl_b, lgs, ↓reduceIte, eq_self]
theorem lc_1166 (hinv : Inv A g) (hgg : g < 100000) (hL : A 93 0 = nI L) (hL2 : L ≤ 3072) (hi6 : i + 6 ≤ L) : LCs A g i 1166 := by
  obtain ⟨M, I, hI, T, c, hi⟩ := hinv
  obtain ⟨v, A1, A2, g', hv, a1, a2, b1, b2, b3, b4, e0, e93⟩ := api_mean hi (A 0 (i + 1))
  have hL1 : A1 93 0 = nI L := by rw [e93]; exact hL
  obtain ⟨w, rfl⟩ := vok_l hv rfl
  refine ⟨A2, g', ?_, b1, b2, b3, b4⟩
  refine (bk_L_law_1166 ..).trans ?_
  simp (disch := omega) only [l_lit, nI_add, sR hL, sR hL1, e0, xV, mV, a1, a2, yi_b, yl_b, lgs, ↓reduceIte, eq_self]
theorem lc_1192 (hinv : Inv A g) (hgg : g < 100000) (hL : A 93 0 = nI L) (hL2 : L ≤ 3072) (hi6 : i + 6 ≤ L) : LCs A g i 1192 := by
  obtain ⟨M, I, hI, T, c, hi⟩ := hinv
  obtain ⟨v, A1, A2, g', hv, a1, a2, b1, b2, b3, b4, e0, e93⟩ := api_forged hi (A 0 (i + 1))
  have hL1 : A1 93 0 = nI L := by rw [e93]; exact hL
  obtain ⟨w, rfl⟩ := vok_i hv rfl
  refine ⟨A2, g', ?_, b1, b2, b3, b4⟩
  refine (bk_L_law_1192 ..).trans ?_
  simp (disch := omega) only [l_lit, nI_add, sR hL, sR hL1, e0, xV, mV, a1, a2, yi_b, yl_b, lgs, ↓reduceIte, eq_self]
theorem lc_1217 (hinv : Inv A g) (hgg : g < 100000) (hL : A 93 0 = nI L) (hL2 : L ≤ 3072) (hi6 : i + 6 ≤ L) : LCs A g i 1217 := by
  obtain ⟨M, I, hI, T, c, hi⟩ := hinv
  obtain ⟨v, A1, A2, g', hv, a1, a2, b1, b2, b3, b4, e0, e93⟩ := api_judge hi (A 0 (i + 1))
  have hL1 : A1 93 0 = nI L := by rw [e93]; exact hL
  obtain ⟨w, rfl⟩ := vok_i hv rfl
  refine ⟨A2, g', ?_, b1, b2, b3, b4⟩
  refine (bk_L_law_1217 ..).trans ?_
  simp (disch := omega) only [l_lit, nI_add, sR hL, sR hL1, e0, xV, mV, a1, a2, yi_b, yl_b, lgs, ↓reduceIte, eq_self]
theorem lc_1242 (hinv : Inv A g) (hgg : g < 100000) (hL : A 93 0 = nI L) (hL2 : L ≤ 3072) (hi6 : i + 6 ≤ L) : LCs A g i 1242 := by
  obtain ⟨M, I, hI, T, c, hi⟩ := hinv
  obtain ⟨v, A1, A2, g', hv, a1, a2, b1, b2, b3, b4, e0, e93⟩ := api_terms hi (A 0 (i + 1)) (A 0 (i + 2)) (A 0 (i + 3))
  have hL1 : A1 93 0 = nI L := by rw [e93]; exact hL
  obtain ⟨w, rfl⟩ := vok_i hv rfl
  refine ⟨A2, g', ?_, b1, b2, b3, b4⟩
  refine (bk_L_law_1242 ..).trans ?_
  simp (disch := omega) only [l_lit, nI_add, sR hL, sR hL1, e0, xV, mV, a1, a2, yi_b, yl_b, lgs, ↓reduceIte, eq_self]
theorem lc_1291 (hinv : Inv A g) (hgg : g < 100000) (hL : A 93 0 = nI L) (hL2 : L ≤ 3072) (hi6 : i + 6 ≤ L) : LCs A g i 1291 := by
  obtain ⟨M, I, hI, T, c, hi⟩ := hinv
  obtain ⟨v, A1, A2, g', hv, a1, a2, b1, b2, b3, b4, e0, e93⟩ := api_image hi 
  have hL1 : A1 93 0 = nI L := by rw [e93]; exact hL
  obtain ⟨w, rfl⟩ := vok_i hv rfl
  refine ⟨A2, g', ?_, b1, b2, b3, b4⟩
  refine (bk_L_law_1291 ..).trans ?_
  simp (disch := omega) only [l_lit, nI_add, sR hL, sR hL1, e0, xV, mV, a1, a2, yi_b, yl_b, lgs, ↓reduceIte, eq_self]
theorem lc_1304 (hinv : Inv A g) (hgg : g < 100000) (hL : A 93 0 = nI L) (hL2 : L ≤ 3072) (hi6 : i + 6 ≤ L) : LCs A g i 1304 := by
  obtain ⟨M, I, hI, T, c, hi⟩ := hinv
  obtain ⟨v, A1, A2, g', hv, a1, a2, b1, b2, b3, b4, e0, e93⟩ := api_restore hi 
  have hL1 : A1 93 0 = nI L := by rw [e93]; exact hL
  obtain ⟨w, rfl⟩ := vok_i hv rfl
  refine ⟨A2, g', ?_, b1, b2, b3, b4⟩
  refine (bk_L_law_1304 ..).trans ?_
  simp (disch := omega) only [l_lit, nI_add, sR hL, sR hL1, e0, xV, mV, a1, a2, yi_b, yl_b, lgs, ↓reduceIte, eq_self]
theorem lc_1317 (hinv : Inv A g) (hgg : g < 100000) (hL : A 93 0 = nI L) (hL2 : L ≤ 3072) (hi6 : i + 6 ≤ L) : LCs A g i 1317 := by
  obtain ⟨M, I, hI, T, c, hi⟩ := hinv
  obtain ⟨v, A1, A2, g', hv, a1, a2, b1, b2, b3, b4, e0, e93⟩ := api_count hi (A 0 (i + 1))
  have hL1 : A1 93 0 = nI L := by rw [e93]; exact hL
  obtain ⟨w, rfl⟩ := vok_i hv rfl
  refine ⟨A2, g', ?_, b1, b2, b3, b4⟩
  refine (bk_L_law_1317 ..).trans ?_
  simp (disch := omega) only [l_lit, nI_add, sR hL, sR hL1, e0, xV, mV, a1, a2, yi_b, yl_b, lgs, ↓reduceIte, eq_self]
theorem lc_1342 (hinv : Inv A g) (hgg : g < 100000) (hL : A 93 0 = nI L) (hL2 : L ≤ 3072) (hi6 : i + 6 ≤ L) : LCs A g i 1342 := by
  obtain ⟨M, I, hI, T, c, hi⟩ := hinv
  obtain ⟨v, A1, A2, g', hv, a1, a2, b1, b2, b3, b4, e0, e93⟩ := api_keep hi (A 0 (i + 1)) (A 0 (i + 2)) (A 0 (i + 3)) (A 0 (i + 4))
  have hL1 : A1 93 0 = nI L := by rw [e93]; exact hL
  obtain ⟨w, rfl⟩ := vok_i hv rfl
  refine ⟨A2, g', ?_, b1, b2, b3, b4⟩
  refine (bk_L_law_1342 ..).trans ?_
  simp (disch := omega) only [l_lit, nI_add, sR hL, sR hL1, e0, xV, mV, a1, a2, yi_b, yl_b, lgs, ↓reduceIte, eq_self]
theorem lc_1403 (hinv : Inv A g) (hgg : g < 100000) (hL : A 93 0 = nI L) (hL2 : L ≤ 3072) (hi6 : i + 6 ≤ L) : LCs A g i 1403 := by
  obtain ⟨M, I, hI, T, c, hi⟩ := hinv
  obtain ⟨v, A1, A2, g', hv, a1, a2, b1, b2, b3, b4, e0, e93⟩ := api_rowN hi (A 0 (i + 1)) (A 0 (i + 2)) (A 0 (i + 3))
  have hL1 : A1 93 0 = nI L := by rw [e93]; exact hL
  obtain ⟨w, rfl⟩ := vok_i hv rfl
  refine ⟨A2, g', ?_, b1, b2, b3, b4⟩
  refine (bk_L_law_1403 ..).trans ?_
  simp (disch := omega) only [l_lit, nI_add, sR hL, sR hL1, e0, xV, mV, a1, a2, yi_b, yl_b, lgs, ↓reduceIte, eq_self]
theorem lc_1452 (hinv : Inv A g) (hgg : g < 100000) (hL : A 93 0 = nI L) (hL2 : L ≤ 3072) (hi6 : i + 6 ≤ L) : LCs A g i 1452 := by
  obtain ⟨M, I, hI, T, c, hi⟩ := hinv
  obtain ⟨v, A1, A2, g', hv, a1, a2, b1, b2, b3, b4, e0, e93⟩ := api_put hi (A 0 (i + 1)) (A 0 (i + 2)) (A 0 (i + 3))
  have hL1 : A1 93 0 = nI L := by rw [e93]; exact hL
  obtain ⟨w, rfl⟩ := vok_i hv rfl
  refine ⟨A2, g', ?_, b1, b2, b3, b4⟩
  refine (bk_L_law_1452 ..).trans ?_
  simp (disch := omega) only [l_lit, nI_add, sR hL, sR hL1, e0, xV, mV, a1, a2, yi_b, yl_b, lgs, ↓reduceIte, eq_self]
theorem lc_1568 (hinv : Inv A g) (hgg : g < 100000) (hL : A 93 0 = nI L) (hL2 : L ≤ 3072) (hi6 : i + 6 ≤ L) : LCs A g i 1568 := by
  obtain ⟨M, I, hI, T, c, hi⟩ := hinv
  obtain ⟨v, A1, A2, g', hv, a1, a2, b1, b2, b3, b4, e0, e93⟩ := api_copy hi (A 0 (i + 1)) (A 0 (i + 2)) (A 0 (i + 3)) (A 0 (i + 4)) (A 0 (i + 5))
  have hL1 : A1 93 0 = nI L := by rw [e93]; exact hL
  obtain ⟨w, rfl⟩ := vok_i hv rfl
  refine ⟨A2, g', ?_, b1, b2, b3, b4⟩
  refine (bk_L_law_1568 ..).trans ?_
  simp (disch := omega) only [l_lit, nI_add, sR hL, sR hL1, e0, xV, mV, a1, a2, yi_b, yl_b, lgs, ↓reduceIte, eq_self]
theorem lc_1641 (hinv : Inv A g) (hgg : g < 100000) (hL : A 93 0 = nI L) (hL2 : L ≤ 3072) (hi6 : i + 6 ≤ L) : LCs A g i 1641 := by
  obtain ⟨M, I, hI, T, c, hi⟩ := hinv
  obtain ⟨v, A1, A2, g', hv, a1, a2, b1, b2, b3, b4, e0, e93⟩ := api_cost hi (A 0 (i + 1))
  have hL1 : A1 93 0 = nI L := by rw [e93]; exact hL
  obtain ⟨w, rfl⟩ := vok_i hv rfl
  refine ⟨A2, g', ?_, b1, b2, b3, b4⟩
  refine (bk_L_law_1641 ..).trans ?_
  simp (disch := omega) only [l_lit, nI_add, sR hL, sR hL1, e0, xV, mV, a1, a2, yi_b, yl_b, lgs, ↓reduceIte, eq_self]
theorem lc_1666 (hinv : Inv A g) (hgg : g < 100000) (hL : A 93 0 = nI L) (hL2 : L ≤ 3072) (hi6 : i + 6 ≤ L) : LCs A g i 1666 := by
  obtain ⟨M, I, hI, T, c, hi⟩ := hinv
  obtain ⟨v, A1, A2, g', hv, a1, a2, b1, b2, b3, b4, e0, e93⟩ := api_toss hi hgg (A 0 (i + 1))
  have hL1 : A1 93 0 = nI L := by rw [e93]; exact hL
  obtain ⟨w, rfl⟩ := vok_i hv rfl
  refine ⟨A2, g', ?_, b1, b2, b3, b4⟩
  refine (bk_L_law_1666 ..).trans ?_
  simp (disch := omega) only [l_lit, nI_add, sR hL, sR hL1, e0, xV, mV, a1, a2, yi_b, yl_b, lgs, ↓reduceIte, eq_self]
end LC
