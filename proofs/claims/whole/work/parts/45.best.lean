theorem okI_no {x : Int32} {k : Nat} (h : okI x k = false) : (x < nI 0) = True ∨ ((x < nI 0) = False ∧ (nI k ≤ x) = True ∧ (x < nI k) = False) := by
  unfold okI at h
  have h := of_decide_eq_false h
  by_cases h1 : x < nI 0
  · exact Or.inl (eq_true h1)
  · have h2 : ¬ x < nI k := fun q => h ⟨h1, q⟩
    exact Or.inr ⟨eq_false h1, eq_true (Int32.not_lt.mp h2), eq_false h2⟩
theorem okI_yes {x : Int32} {k : Nat} (h : okI x k = true) : (x < nI 0) = False ∧ (nI k ≤ x) = False ∧ (x < nI k) = True := by
  unfold okI at h
  obtain ⟨h1, h2⟩ := of_decide_eq_true h
  exact ⟨eq_false h1, eq_false (Int32.not_le.mpr h2), eq_true h2⟩
theorem okI_no2 {x : Int32} {k : Nat} (hk : k < 2 ^ 30) (h : okI x (k + 1) = false) : (x < nI 0) = True ∨ ((x < nI 0) = False ∧ (nI k < x) = True ∧ (x ≤ nI k) = False) := by
  rw [← isr_eq hk x] at h
  have h := of_decide_eq_false h
  by_cases h1 : x < nI 0
  · exact Or.inl (eq_true h1)
  · have h2 : nI k < x := Classical.byContradiction (fun q => h ⟨h1, q⟩)
    exact Or.inr ⟨eq_false h1, eq_true h2, eq_false (Int32.not_le.mpr h2)⟩
section A5
variable {A : yM} {M I : Mt} {hI : Nat} {T : Nat → Nat → Nat} {c : Nat → Nat → Int32} {g : Nat} {n : Nat}
theorem neg1le {x : Nat} (hx : x < 2 ^ 31) : (nI x ≤ -nI 1) = False := eq_false (Int32.not_le.mpr (of_eq_true (neg1 hx)))
theorem X11_areTwo_ok (hn : 2 ≤ n) (hc : Col A 2 M) (s o : Int32) : ycall n 91 [.ref 1, .int s, .int o] A = some (some (.int (bI (okI s (M 0 0) && okI o (M 0 0) && decide (s ≠ o)))), A) := by
  obtain ⟨n, rfl⟩ := Nat.exists_eq_add_of_le' hn
  simp (disch := omega) only [en_X11_areTwo, xR, cV hc.1, X0_hasStudent_ok _ hc, l_lit, yi_b, nI_eq, true_or, or_true, if_true]
  by_cases h1 : okI s (M 0 0) = true
  · by_cases h2 : okI o (M 0 0) = true
    · by_cases h3 : s = o
      · subst h3
        simp (disch := omega) [h1, bI_t, bI_f, nI_eq]
      · simp (disch := omega) [h1, h2, h3, bI_t, nI_eq]
    · simp (disch := omega) [h1, okI_f h2, bI_t, bI_f, nI_eq]
  · simp [okI_f h1, bI_f]
theorem X12_farFrom_ok (hn : 2 ≤ n) (hr : Row A 80 M) (hg : Good M) {t z : Nat} (ht : t < 1000) (hz : z < 1000) : ycall n 185 [.ref 79, .int (nI t), .int (nI z)] A = some (some (.int (nI (nearN M t z 99 (M 0 1)))), A) := by
  obtain ⟨n, rfl⟩ := Nat.exists_eq_add_of_le' hn
  have hE := gE hg
  rw [en_X12_farFrom]
  refine (for_up (fun k => yb_X12_farFrom (ycall (n + 1)) (6, [some (.ref 79), some (.int (nI t)), some (.int (nI z)), some (.int (nI (nearN M t z 99 k))), some (.int (nI k))], [], A)) (M 0 1) (fun k hk => ?_)).trans ?_
  · have h1 := gEr hg hk
    have h4 := nearN_le M t z 99 k
    have h7 : ds (M 6 k) z < 1000 := ds_lt (by omega) hz
    have h6 : nearN M t z 99 (k + 1) = if k ≠ 99 ∧ M 5 k = t then min (nearN M t z 99 k) (ds (M 6 k) z) else nearN M t z 99 k := rfl
    refine (bk_X12_farFrom_6 ..).trans ?_
    simp (disch := omega) only [mR, mV, qD hr.1, rS hr, rE hr, rW hr, rKd hr, rFg hr, rIn hr, rBy hr, rTp hr, rSz hr, rCt hr, rCo hr, en_X12_ofS, en_X12_ofE, l_lit, nI_add, nI_mul, yi_b, yv_b, yl_b, if_true, if_false, or_true, true_or, or_false, false_or, and_true, true_and, and_false, false_and, not_true_eq_false, not_false_eq_true, Nat.reduceEqDiff, ↓reduceIte, nI_eq, nI_leI, nI_ltI, Nat.not_le.mpr hk, h6, X12_apart_ok, X12_least_ok]
    have hk9 : k ≠ 99 := by omega
    by_cases q2 : M 5 k = t
    · simp [hk9, q2]
    · simp [q2]
  · refine (bk_X12_farFrom_6 ..).trans ?_
    simp (disch := omega) only [mR, mV, qD hr.1, rS hr, rE hr, rW hr, rKd hr, rFg hr, rIn hr, rBy hr, rTp hr, rSz hr, rCt hr, rCo hr, en_X12_ofS, en_X12_ofE, l_lit, nI_add, nI_mul, yi_b, yv_b, yl_b, if_true, if_false, or_true, true_or, or_false, false_or, and_true, true_and, and_false, false_and, not_true_eq_false, not_false_eq_true, Nat.reduceEqDiff, ↓reduceIte, nI_eq, nI_leI, nI_ltI, Nat.le_refl]
theorem near99 (hc : Col A 2 M) (hg : Good M) {t z : Nat} (ht : t < 1000) (hz : z < 1000) (hn : 1 ≤ n) : ycall n 12 [.ref 2, .int (nI t), .int (nI z), .int (-nI 1)] A = some (some (.int (nI (nearN M t z 99 (M 0 1)))), A) := by
  refine X0_nearest_ok hn hc hg ht hz (fun e he => ?_)
  constructor
  · intro h
    have h2 := of_eq_true (neg1 (show e < 2 ^ 31 by omega))
    rw [h] at h2
    exact absurd h2 (Int32.lt_irrefl)
  · intro h; omega
/-- the first with most, 0 ahead of all -/
def od0 : Option Nat → Nat
  | none => 0
  | some k => k
theorem bst_some (f : Nat → Nat) (n : Nat) : ∃ q, bst f (n + 1) = some q := by
  induction n with
  | zero => exact ⟨0, rfl⟩
  | succ n ih =>
    obtain ⟨q, hq⟩ := ih
    rw [bst_s, hq]
    dsimp only
    split
    · exact ⟨_, rfl⟩
    · exact ⟨_, rfl⟩
theorem api_farthest (hi : InvX A M I hI T c g) (t w : Int32) : Api 88 186 [.int t, .int w] A g := by
  have hc := iC hi
  have hg := iG hi
  by_cases ht : okI t 6 = true
  · by_cases hw : okI w 2 = true
    · obtain ⟨t, xt, rfl⟩ := okI_of (by omega) ht
      obtain ⟨w, xw, rfl⟩ := okI_of (by omega) hw
      obtain ⟨q, hq⟩ := bst_some (fun z => nearN M t z 99 (M 0 1)) 99
      have hq2 := bst_lt hq
      have hw1 : w ≤ 1 := by omega
      refine api_read hi (.int (if w = 0 then nI q else nI (nearN M t q 99 (M 0 1)))) ⟨_, ?_, Sc_r A⟩ (fun A1 hi => ⟨_, ?_, Sc_r A1⟩)
      · have e : ycall 20 88 [.ref 1, .int (nI t), .int (nI w)] A = yb_X11_farthest (ycall 19) (29, [some (.ref 1), some (.int (nI t)), some (.int (nI w)), some (.int (nI 0)), some (.int (-nI 1)), some (.int (nI 0)), none], [], A) := by
          simp (disch := omega) only [en_X11_farthest, l_lit, nI_ltI, nI_leI, Nat.not_lt_zero, if_false, if_true, hw1, show ¬ 6 ≤ t by omega]
        rw [e]
        refine (for_up (fun k => yb_X11_farthest (ycall 19) (29, [some (.ref 1), some (.int (nI t)), some (.int (nI w)), some (.int (nI (od0 (bst (fun z => nearN M t z 99 (M 0 1)) k)))), some (.int (obd (fun z => nearN M t z 99 (M 0 1)) (bst (fun z => nearN M t z 99 (M 0 1)) k))), some (.int (nI k)), none], [], A)) 100 (fun k hk => ?_)).trans ?_
        · have m1 := nearN_le M t k 99 (M 0 1)
          refine (bk_X11_farthest_29 ..).trans ?_
          rw [bst_s]
          cases hb : bst (fun z => nearN M t z 99 (M 0 1)) k with
          | none =>
            simp (disch := omega) only [xR, cV hc.1, l_lit, nI_add, nI_mul, yi_b, yv_b, yl_b, if_true, if_false, or_true, true_or, or_false, false_or, and_true, true_and, and_false, false_and, not_true_eq_false, not_false_eq_true, Nat.reduceEqDiff, ↓reduceIte, nI_eq, nI_leI, nI_ltI, show ¬ 99 < k by omega, near99 hc hg, obd, neg1le, od0]
          | some i =>
            have m2 := nearN_le M t i 99 (M 0 1)
            simp (disch := omega) only [xR, cV hc.1, l_lit, nI_add, nI_mul, yi_b, yv_b, yl_b, if_true, if_false, or_true, true_or, or_false, false_or, and_true, true_and, and_false, false_and, not_true_eq_false, not_false_eq_true, Nat.reduceEqDiff, ↓reduceIte, nI_eq, nI_leI, nI_ltI, show ¬ 99 < k by omega, near99 hc hg, obd, od0]
            by_cases h : nearN M t i 99 (M 0 1) < nearN M t k 99 (M 0 1)
            · simp [h, Nat.not_le.mpr h, obd, od0]
            · simp [h, Nat.not_lt.mp h, obd, od0]
        · refine (bk_X11_farthest_29 ..).trans ?_
          rw [hq]
          simp (disch := omega) only [l_lit, nI_add, nI_mul, yi_b, yv_b, yl_b, if_true, if_false, or_true, true_or, or_false, false_or, and_true, true_and, and_false, false_and, not_true_eq_false, not_false_eq_true, Nat.reduceEqDiff, ↓reduceIte, nI_eq, nI_leI, nI_ltI, show 99 < 100 by omega, obd, od0]
          by_cases h0 : w = 0
          · simp [h0]
          · simp [h0]
      · have hr := iR hi
        have e : ycall 20 186 [.ref 79, .int (nI t), .int (nI w)] A1 = yb_X12_farthest (ycall 19) (25, [some (.ref 79), some (.int (nI t)), some (.int (nI w)), some (.int (nI 0)), some (.int (nI 0))], [], A1) := by
          simp (disch := omega) only [en_X12_farthest, l_lit, X12_in0, Nat.reduceAdd, ht, hw, bI_t, yi_b, nI_eq, Nat.one_ne_zero, if_false]
        rw [e]
        refine (for_up (fun k => yb_X12_farthest (ycall 19) (25, [some (.ref 79), some (.int (nI t)), some (.int (nI w)), some (.int (nI (od0 (bst (fun z => nearN M t z 99 (M 0 1)) k)))), some (.int (nI k))], [], A1)) 100 (fun k hk => ?_)).trans ?_
        · have m1 := nearN_le M t k 99 (M 0 1)
          refine (bk_X12_farthest_25 ..).trans ?_
          rw [bst_s]
          cases hb : bst (fun z => nearN M t z 99 (M 0 1)) k with
          | none =>
            have hk0 : k = 0 := by
              by_cases h : k = 0
              · exact h
              · obtain ⟨r, hr⟩ := bst_some (fun z => nearN M t z 99 (M 0 1)) (k - 1)
                rw [show k - 1 + 1 = k by omega, hb] at hr
                cases hr
            subst hk0
            simp (disch := omega) only [mV, l_lit, nI_add, nI_mul, yi_b, yv_b, yl_b, if_true, if_false, or_true, true_or, or_false, false_or, and_true, true_and, and_false, false_and, not_true_eq_false, not_false_eq_true, Nat.reduceEqDiff, ↓reduceIte, nI_eq, nI_leI, nI_ltI, show ¬ 100 ≤ 0 by omega, X12_farFrom_ok _ hr hg, od0, Nat.le_refl]
          | some i =>
            have hi2 := bst_lt hb
            have m2 := nearN_le M t i 99 (M 0 1)
            simp (disch := omega) only [mV, l_lit, nI_add, nI_mul, yi_b, yv_b, yl_b, if_true, if_false, or_true, true_or, or_false, false_or, and_true, true_and, and_false, false_and, not_true_eq_false, not_false_eq_true, Nat.reduceEqDiff, ↓reduceIte, nI_eq, nI_leI, nI_ltI, show ¬ 100 ≤ k by omega, X12_farFrom_ok _ hr hg, od0]
            by_cases h : nearN M t i 99 (M 0 1) < nearN M t k 99 (M 0 1)
            · simp [h, Nat.not_le.mpr h, od0]
            · simp [h, Nat.not_lt.mp h, od0]
        · refine (bk_X12_farthest_25 ..).trans ?_
          rw [hq]
          simp (disch := omega) only [mV, l_lit, nI_add, nI_mul, yi_b, yv_b, yl_b, if_true, if_false, or_true, true_or, or_false, false_or, and_true, true_and, and_false, false_and, not_true_eq_false, not_false_eq_true, Nat.reduceEqDiff, ↓reduceIte, nI_eq, nI_leI, nI_ltI, Nat.le_refl, X12_farFrom_ok _ hr hg, od0]
          by_cases h0 : w = 0
          · simp [h0]
          · simp [h0]
    · have hw := okI_f hw
      refine api_read hi (.int (-1)) ⟨_, ?_, Sc_r A⟩ (fun A1 hi => ⟨_, ?_, Sc_r A1⟩)
      · obtain ⟨b1, b2, -⟩ := okI_yes ht
        rcases okI_no2 (k := 1) (by omega) hw with h | ⟨h, -, h2⟩
        · simp only [en_X11_farthest, l_lit, b1, b2, h, if_true, if_false]
        · simp only [en_X11_farthest, l_lit, b1, b2, h, h2, if_false]
      · simp (disch := omega) only [en_X12_farthest, l_lit, X12_in0, Nat.reduceAdd, ht, hw, bI_t, bI_f, yi_b, nI_eq, Nat.one_ne_zero, if_false, if_true]
  · have ht := okI_f ht
    refine api_read hi (.int (-1)) ⟨_, ?_, Sc_r A⟩ (fun A1 hi => ⟨_, ?_, Sc_r A1⟩)
    · rcases okI_no ht with h | ⟨h, h2, -⟩
      · simp only [en_X11_farthest, l_lit, h, if_true]
      · simp only [en_X11_farthest, l_lit, h, h2, if_true, if_false]
    · simp (disch := omega) only [en_X12_farthest, l_lit, X12_in0, Nat.reduceAdd, ht, bI_f, yi_b, nI_eq, if_true]
end A5
