/-! the law's loop -/
section LL
variable {A : yM} {g L i : Nat}
theorem y92 {A : yM} {K : Int64 → Option yR} : yrL A 92 (nI 0) K = K (A 92 0).toInt64 := rfl
theorem lc_1501 (hinv : Inv A g) (hgg : g < 100000) (hL : A 93 0 = nI L) (hL2 : L ≤ 3072) (hi6 : i + 6 ≤ L) : LCs A g i 1501 := by
  obtain ⟨M, I, hI, T, c, hi⟩ := hinv
  obtain ⟨k, A1, b, A2, g', a1, a2, a3, hk, b1, b2, b3, b4, e0, e93⟩ := api_element hi hgg (A 0 (i + 1)) (A 0 (i + 2))
  have hL1 : A1 93 0 = nI L := by rw [e93]; exact hL
  refine ⟨A2, g', ?_, b1, b2, b3, b4⟩
  refine (bk_L_law_1501 ..).trans ?_
  simp (disch := omega) only [l_lit, nI_add, sR hL, sR hL1, e0, mV, a1, a2, a3, yi_b, yl_b, ↓reduceIte, eq_self, y92]
  by_cases h0 : k = nI 0
  · rw [if_pos h0, hk h0, lgs]
    exact if_pos rfl
  · rw [if_neg h0]
theorem sub6 {L i : Nat} (hL : L ≤ 3072) (hi : i < 2 ^ 20) : (nI L - nI 6 < nI i) = (L < i + 6) := by
  have t : ∀ n, n < 2 ^ 31 → (nI n).toInt = n := fun n hn => by
    show (Int32.ofNat n).toInt = n
    exact Int32.toInt_ofNat_small (by omega)
  apply propext
  rw [Int32.lt_iff_toInt_lt, Int32.toInt_sub, t L (by omega), t 6 (by omega), t i (by omega), Int.bmod_eq_of_le (by omega) (by omega)]
  omega
theorem law_loop (hL2 : L ≤ 3072) : ∀ (j i g : Nat) (A : yM), L < i + 6 * j + 6 → i ≤ 4000 → Inv A g → g + j < 100000 → A 93 0 = nI L → ∃ A' g', yb_L_law (ycall 20) (23, lsL i, [], A) = some (some (.int 1), A') ∧ g' ≤ g + j ∧ Inv A' g' ∧ A' 0 = A 0 ∧ A' 93 = A 93 := by
  intro j
  induction j with
  | zero =>
    intro i g A h1 h2 hinv hg hL
    refine ⟨A, g, ?_, Nat.le_refl _, hinv, rfl, rfl⟩
    refine (bk_L_law_23 ..).trans ?_
    rw [sLe hL hL2, show (6 : Int32) = nI 6 from rfl, if_pos (by rw [sub6 hL2 (by omega)]; omega)]
    exact if_pos (Or.inr rfl)
  | succ j ih =>
    intro i g A h1 h2 hinv hg hL
    by_cases hend : L < i + 6
    · refine ⟨A, g, ?_, by omega, hinv, rfl, rfl⟩
      refine (bk_L_law_23 ..).trans ?_
      rw [sLe hL hL2, show (6 : Int32) = nI 6 from rfl, if_pos (by rw [sub6 hL2 (by omega)]; omega)]
      exact if_pos (Or.inr rfl)
    · have hi6 : i + 6 ≤ L := by omega
      have fin : ∀ pc, LCs A g i pc → ∃ A' g', yb_L_law (ycall 20) (pc, lsL i, [], A) = some (some (.int 1), A') ∧ g' ≤ g + (j + 1) ∧ Inv A' g' ∧ A' 0 = A 0 ∧ A' 93 = A 93 := fun pc h => by
        obtain ⟨A1, g1, a1, a2, a3, a4, a5⟩ := h
        obtain ⟨A2, g2, b1, b2, b3, b4, b5⟩ := ih (i + 6) g1 A1 (by omega) (by omega) a3 (by omega) (by rw [a5]; exact hL)
        exact ⟨A2, g2, a1.trans b1, by omega, b3, b4.trans a4, b5.trans a5⟩
      have hgg : g < 100000 := by omega
      have e6 : nI i + (6 : Int32) = nI (i + 6) := nI_add i 6
      have go : ∀ X : Option yR, yb_L_law (ycall 20) (23, lsL i, [], A) = X → (∃ A' g', X = some (some (.int 1), A') ∧ g' ≤ g + (j + 1) ∧ Inv A' g' ∧ A' 0 = A 0 ∧ A' 93 = A 93) → ∃ A' g', yb_L_law (ycall 20) (23, lsL i, [], A) = some (some (.int 1), A') ∧ g' ≤ g + (j + 1) ∧ Inv A' g' ∧ A' 0 = A 0 ∧ A' 93 = A 93 := fun X hX h => by rw [hX]; exact h
      refine go _ (bk_L_law_23 ..) ?_
      rw [sLe hL hL2, e6, if_neg (by rw [show (6 : Int32) = nI 6 from rfl, sub6 hL2 (by omega)]; omega), sR hL hL2 (by omega)]
      by_cases q0 : A 0 i &&& (63 : Int32) = (0 : Int32)
      · rw [if_pos q0]; exact fin 224 (lc_224 hinv hgg hL hL2 hi6)
      rw [if_neg q0]
      by_cases q1 : A 0 i &&& (63 : Int32) = (1 : Int32)
      · rw [if_pos q1]; exact fin 249 (lc_249 hinv hgg hL hL2 hi6)
      rw [if_neg q1]
      by_cases q2 : A 0 i &&& (63 : Int32) = (2 : Int32)
      · rw [if_pos q2]; exact fin 286 (lc_286 hinv hgg hL hL2 hi6)
      rw [if_neg q2]
      by_cases q3 : A 0 i &&& (63 : Int32) = (3 : Int32)
      · rw [if_pos q3]; exact fin 323 (lc_323 hinv hgg hL hL2 hi6)
      rw [if_neg q3]
      by_cases q4 : A 0 i &&& (63 : Int32) = (4 : Int32)
      · rw [if_pos q4]; exact fin 348 (lc_348 hinv hgg hL hL2 hi6)
      rw [if_neg q4]
      by_cases q5 : A 0 i &&& (63 : Int32) = (5 : Int32)
      · rw [if_pos q5]; exact fin 409 (lc_409 hinv hgg hL hL2 hi6)
      rw [if_neg q5]
      by_cases q6 : A 0 i &&& (63 : Int32) = (6 : Int32)
      · rw [if_pos q6]; exact fin 446 (lc_446 hinv hgg hL hL2 hi6)
      rw [if_neg q6]
      by_cases q7 : A 0 i &&& (63 : Int32) = (7 : Int32)
      · rw [if_pos q7]; exact fin 471 (lc_471 hinv hgg hL hL2 hi6)
      rw [if_neg q7]
      by_cases q8 : A 0 i &&& (63 : Int32) = (8 : Int32)
      · rw [if_pos q8]; exact fin 496 (lc_496 hinv hgg hL hL2 hi6)
      rw [if_neg q8]
      by_cases q9 : A 0 i &&& (63 : Int32) = (9 : Int32)
      · rw [if_pos q9]; exact fin 533 (lc_533 hinv hgg hL hL2 hi6)
      rw [if_neg q9]
      by_cases q10 : A 0 i &&& (63 : Int32) = (10 : Int32)
      · rw [if_pos q10]; exact fin 570 (lc_570 hinv hgg hL hL2 hi6)
      rw [if_neg q10]
      by_cases q11 : A 0 i &&& (63 : Int32) = (11 : Int32)
      · rw [if_pos q11]; exact fin 595 (lc_595 hinv hgg hL hL2 hi6)
      rw [if_neg q11]
      by_cases q12 : A 0 i &&& (63 : Int32) = (12 : Int32)
      · rw [if_pos q12]; exact fin 620 (lc_620 hinv hgg hL hL2 hi6)
      rw [if_neg q12]
      by_cases q13 : A 0 i &&& (63 : Int32) = (13 : Int32)
      · rw [if_pos q13]; exact fin 657 (lc_657 hinv hgg hL hL2 hi6)
      rw [if_neg q13]
      by_cases q14 : A 0 i &&& (63 : Int32) = (14 : Int32)
      · rw [if_pos q14]; exact fin 682 (lc_682 hinv hgg hL hL2 hi6)
      rw [if_neg q14]
      by_cases q15 : A 0 i &&& (63 : Int32) = (15 : Int32)
      · rw [if_pos q15]; exact fin 719 (lc_719 hinv hgg hL hL2 hi6)
      rw [if_neg q15]
      by_cases q16 : A 0 i &&& (63 : Int32) = (16 : Int32)
      · rw [if_pos q16]; exact fin 756 (lc_756 hinv hgg hL hL2 hi6)
      rw [if_neg q16]
      by_cases q17 : A 0 i &&& (63 : Int32) = (17 : Int32)
      · rw [if_pos q17]; exact fin 793 (lc_793 hinv hgg hL hL2 hi6)
      rw [if_neg q17]
      by_cases q18 : A 0 i &&& (63 : Int32) = (18 : Int32)
      · rw [if_pos q18]; exact fin 830 (lc_830 hinv hgg hL hL2 hi6)
      rw [if_neg q18]
      by_cases q19 : A 0 i &&& (63 : Int32) = (19 : Int32)
      · rw [if_pos q19]; exact fin 868 (lc_868 hinv hgg hL hL2 hi6)
      rw [if_neg q19]
      by_cases q20 : A 0 i &&& (63 : Int32) = (20 : Int32)
      · rw [if_pos q20]; exact fin 893 (lc_893 hinv hgg hL hL2 hi6)
      rw [if_neg q20]
      by_cases q21 : A 0 i &&& (63 : Int32) = (21 : Int32)
      · rw [if_pos q21]; exact fin 918 (lc_918 hinv hgg hL hL2 hi6)
      rw [if_neg q21]
      by_cases q22 : A 0 i &&& (63 : Int32) = (22 : Int32)
      · rw [if_pos q22]; exact fin 943 (lc_943 hinv hgg hL hL2 hi6)
      rw [if_neg q22]
      by_cases q23 : A 0 i &&& (63 : Int32) = (23 : Int32)
      · rw [if_pos q23]; exact fin 968 (lc_968 hinv hgg hL hL2 hi6)
      rw [if_neg q23]
      by_cases q24 : A 0 i &&& (63 : Int32) = (24 : Int32)
      · rw [if_pos q24]; exact fin 993 (lc_993 hinv hgg hL hL2 hi6)
      rw [if_neg q24]
      by_cases q25 : A 0 i &&& (63 : Int32) = (25 : Int32)
      · rw [if_pos q25]; exact fin 1018 (lc_1018 hinv hgg hL hL2 hi6)
      rw [if_neg q25]
      by_cases q26 : A 0 i &&& (63 : Int32) = (26 : Int32)
      · rw [if_pos q26]; exact fin 1067 (lc_1067 hinv hgg hL hL2 hi6)
      rw [if_neg q26]
      by_cases q27 : A 0 i &&& (63 : Int32) = (27 : Int32)
      · rw [if_pos q27]; exact fin 1104 (lc_1104 hinv hgg hL hL2 hi6)
      rw [if_neg q27]
      by_cases q28 : A 0 i &&& (63 : Int32) = (28 : Int32)
      · rw [if_pos q28]; exact fin 1166 (lc_1166 hinv hgg hL hL2 hi6)
      rw [if_neg q28]
      by_cases q29 : A 0 i &&& (63 : Int32) = (29 : Int32)
      · rw [if_pos q29]; exact fin 1192 (lc_1192 hinv hgg hL hL2 hi6)
      rw [if_neg q29]
      by_cases q30 : A 0 i &&& (63 : Int32) = (30 : Int32)
      · rw [if_pos q30]; exact fin 1217 (lc_1217 hinv hgg hL hL2 hi6)
      rw [if_neg q30]
      by_cases q31 : A 0 i &&& (63 : Int32) = (31 : Int32)
      · rw [if_pos q31]; exact fin 1242 (lc_1242 hinv hgg hL hL2 hi6)
      rw [if_neg q31]
      by_cases q32 : A 0 i &&& (63 : Int32) = (32 : Int32)
      · rw [if_pos q32]; exact fin 1291 (lc_1291 hinv hgg hL hL2 hi6)
      rw [if_neg q32]
      by_cases q33 : A 0 i &&& (63 : Int32) = (33 : Int32)
      · rw [if_pos q33]; exact fin 1304 (lc_1304 hinv hgg hL hL2 hi6)
      rw [if_neg q33]
      by_cases q34 : A 0 i &&& (63 : Int32) = (34 : Int32)
      · rw [if_pos q34]; exact fin 1317 (lc_1317 hinv hgg hL hL2 hi6)
      rw [if_neg q34]
      by_cases q35 : A 0 i &&& (63 : Int32) = (35 : Int32)
      · rw [if_pos q35]; exact fin 1342 (lc_1342 hinv hgg hL hL2 hi6)
      rw [if_neg q35]
      by_cases q36 : A 0 i &&& (63 : Int32) = (36 : Int32)
      · rw [if_pos q36]; exact fin 1403 (lc_1403 hinv hgg hL hL2 hi6)
      rw [if_neg q36]
      by_cases q37 : A 0 i &&& (63 : Int32) = (37 : Int32)
      · rw [if_pos q37]; exact fin 1452 (lc_1452 hinv hgg hL hL2 hi6)
      rw [if_neg q37]
      by_cases q38 : A 0 i &&& (63 : Int32) = (38 : Int32)
      · rw [if_pos q38]; exact fin 1501 (lc_1501 hinv hgg hL hL2 hi6)
      rw [if_neg q38]
      by_cases q39 : A 0 i &&& (63 : Int32) = (39 : Int32)
      · rw [if_pos q39]; exact fin 1568 (lc_1568 hinv hgg hL hL2 hi6)
      rw [if_neg q39]
      by_cases q40 : A 0 i &&& (63 : Int32) = (40 : Int32)
      · rw [if_pos q40]; exact fin 1641 (lc_1641 hinv hgg hL hL2 hi6)
      rw [if_neg q40]
      by_cases q41 : A 0 i &&& (63 : Int32) = (41 : Int32)
      · rw [if_pos q41]; exact fin 1666 (lc_1666 hinv hgg hL hL2 hi6)
      rw [if_neg q41]
      obtain ⟨A2, g2, b1, b2, b3, b4, b5⟩ := ih (i + 6) g A (by omega) (by omega) hinv (by omega) hL
      exact ⟨A2, g2, b1, by omega, b3, b4, b5⟩
end LL
