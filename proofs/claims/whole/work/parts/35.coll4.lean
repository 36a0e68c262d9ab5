section C4
variable {n b p e : Nat} {A : yM} {M : Mt}
/-- memory with MARKS and VOTES told -/
abbrev tVt (A : yM) (b : Nat) (M : Mt) : yM := yro (tMk A b M) (b + 18) (M 0 0) (fun p => nI (voN M p))
theorem X0_countVotes_ok (hn : 6 ≤ n) (hc : Col A b M) (hg : Good M) : ycall n 30 [.ref b] A = some (none, tVt A b M) := by
  obtain ⟨n, rfl⟩ := Nat.exists_eq_add_of_le' hn
  have hS := gS hg
  have hb := hc.1
  have hcT : Col (tMk A b M) b M := Col_ro hc (by omega)
  rw [en_X0_countVotes, cV hb, X0_tellMarks_ok (by omega) hc hg, yv_b]
  have h0 := for_up (fun k => yb_X0_countVotes (ycall (n + 5)) (6, [some (.ref b), some (.int (nI k)), none], [], yro (tMk A b M) (b + 18) k (fun _ => nI 0))) (M 0 0) (fun k hk => by
    have hc' : Col (yro (tMk A b M) (b + 18) k (fun _ => nI 0)) b M := Col_ro hcT (by omega)
    refine (bk_X0_countVotes_6 ..).trans ?_
    simp (disch := omega) only [cgI hb, cS hc', cR hb, cW6 hb, l_lit, nI_add, nI_mul, yi_b, yv_b, yl_b, if_true, if_false, or_true, true_or, or_false, false_or, and_true, true_and, and_false, false_and, not_true_eq_false, not_false_eq_true, Nat.reduceEqDiff, ↓reduceIte, nI_eq, nI_leI, nI_ltI, Nat.not_le.mpr hk]
    rw [yup_grow (f := fun _ => nI 0) (g := fun _ => nI 0) (fun _ _ => rfl)])
  rw [yro_0] at h0
  refine h0.trans ?_
  have hcS : Col (yro (tMk A b M) (b + 18) (M 0 0) (fun _ => nI 0)) b M := Col_ro hcT (by omega)
  refine (bk_X0_countVotes_6 ..).trans ?_
  simp (disch := omega) only [cgI hb, cS hcS, l_lit, nI_add, nI_mul, yi_b, yv_b, yl_b, if_true, if_false, or_true, true_or, or_false, false_or, and_true, true_and, and_false, false_and, not_true_eq_false, not_false_eq_true, Nat.reduceEqDiff, ↓reduceIte, nI_eq, nI_leI, nI_ltI, Nat.le_refl]
  refine (for_up (fun k => yb_X0_countVotes (ycall (n + 5)) (29, [some (.ref b), some (.int (nI k)), none], [], yro (tMk A b M) (b + 18) (M 0 0) (fun p => nI (sm (fun s => if M 3 s = 1 ∧ chN M s = some p then 1 else 0) k)))) (M 0 0) (fun k hk => ?_)).trans ?_
  · have hc' : Col (yro (tMk A b M) (b + 18) (M 0 0) (fun p => nI (sm (fun s => if M 3 s = 1 ∧ chN M s = some p then 1 else 0) k))) b M := Col_ro hcT (by omega)
    have h3 := gP hg hk
    have h31 : M 3 k = 0 ∨ M 3 k = 1 := by omega
    have hm : ∀ p, p < M 0 0 → (yro (tMk A b M) (b + 18) (M 0 0) (fun p => nI (sm (fun s => if M 3 s = 1 ∧ chN M s = some p then 1 else 0) k))) (b + 17) p = nI (marksN M p) := fun p hp => by
      rw [yro_ne (by omega)]
      exact yro_at hp
    refine (bk_X0_countVotes_29 ..).trans ?_
    rcases h31 with h31 | h31
    · simp (disch := omega) only [cgI hb, cS hc', cR hb, cV hb, X0_isIn_ok _ hc' hg hk, h31, l_lit, nI_add, nI_mul, yi_b, yv_b, yl_b, if_true, if_false, or_true, true_or, or_false, false_or, and_true, true_and, and_false, false_and, not_true_eq_false, not_false_eq_true, Nat.reduceEqDiff, ↓reduceIte, nI_eq, nI_leI, nI_ltI, neg4, Nat.not_le.mpr hk]
      congr 5
      funext j
      show _ = nI (sm (fun s => if M 3 s = 1 ∧ chN M s = some j then 1 else 0) k + (if M 3 k = 1 ∧ chN M k = some j then 1 else 0))
      rw [if_neg (by omega), Nat.add_zero]
    · simp (disch := omega) only [cgI hb, cS hc', cR hb, cV hb, X0_isIn_ok _ hc' hg hk, X0_choiceOf_ok _ hc' hg hk hm, h31, l_lit, nI_add, nI_mul, yi_b, yv_b, yl_b, if_true, if_false, or_true, true_or, or_false, false_or, and_true, true_and, and_false, false_and, not_true_eq_false, not_false_eq_true, Nat.reduceEqDiff, ↓reduceIte, nI_eq, nI_leI, nI_ltI, Nat.not_le.mpr hk, Nat.one_ne_zero]
      cases hq : chN M k with
      | none =>
        simp (disch := omega) only [ocd, l_lit, nI_add, nI_mul, yi_b, yv_b, yl_b, if_true, if_false, or_true, true_or, or_false, false_or, and_true, true_and, and_false, false_and, not_true_eq_false, not_false_eq_true, Nat.reduceEqDiff, ↓reduceIte, neg4]
        congr 5
        funext j
        show _ = nI (sm (fun s => if M 3 s = 1 ∧ chN M s = some j then 1 else 0) k + (if M 3 k = 1 ∧ chN M k = some j then 1 else 0))
        rw [if_neg (by rw [hq]; simp), Nat.add_zero]
      | some q =>
        have hq2 := (bsf_lt hq).1
        simp (disch := omega) only [ocd, l_lit, nI_add, nI_mul, yi_b, yv_b, yl_b, if_true, if_false, or_true, true_or, or_false, false_or, and_true, true_and, and_false, false_and, not_true_eq_false, not_false_eq_true, Nat.reduceEqDiff, ↓reduceIte, nI_eq, nI_leI, nI_ltI, cR hb, cD6 hb, cW6 hb, yro_at, Nat.not_lt_zero]
        rw [yup_yro (by omega) (fun j hj => ?_)]
        show _ = nI (sm (fun s => if M 3 s = 1 ∧ chN M s = some j then 1 else 0) k + (if M 3 k = 1 ∧ chN M k = some j then 1 else 0))
        by_cases hj2 : j = q
        · subst hj2; simp [h31, hq]
        · rw [if_neg hj2, if_neg (by rw [hq]; intro w; cases w.2; exact hj2 rfl), Nat.add_zero]
  · have hc' : Col (yro (tMk A b M) (b + 18) (M 0 0) (fun p => nI (sm (fun s => if M 3 s = 1 ∧ chN M s = some p then 1 else 0) (M 0 0)))) b M := Col_ro hcT (by omega)
    refine (bk_X0_countVotes_29 ..).trans ?_
    simp (disch := omega) only [cgI hb, cS hc', l_lit, nI_add, nI_mul, yi_b, yv_b, yl_b, if_true, if_false, or_true, true_or, or_false, false_or, and_true, true_and, and_false, false_and, not_true_eq_false, not_false_eq_true, Nat.reduceEqDiff, ↓reduceIte, nI_eq, nI_leI, nI_ltI, Nat.le_refl]
    rfl
theorem Col_tVt (hc : Col A b M) : Col (tVt A b M) b M := Col_ro (Col_ro hc (by omega)) (by omega)
theorem X0_electedOne_ok (hn : 7 ≤ n) (hc : Col A b M) (hg : Good M) : ycall n 32 [.ref b] A = some (some (.int (ocd (elN M))), tVt A b M) := by
  obtain ⟨n, rfl⟩ := Nat.exists_eq_add_of_le' hn
  have hS := gS hg
  have hb := hc.1
  have hc' := Col_tVt hc
  rw [en_X0_electedOne, cV hb, X0_countVotes_ok (by omega) hc hg, yv_b]
  refine (for_up (fun k => yb_X0_electedOne (ycall (n + 6)) (9, [some (.ref b), some (.int (ocd (bsf (fun s => decide (M 3 s = 1)) (voN M) k))), some (.int (nI k))], [], tVt A b M)) (M 0 0) (fun k hk => ?_)).trans ?_
  · have h3 := gP hg hk
    have h31 : M 3 k = 0 ∨ M 3 k = 1 := by omega
    have hi := X0_isIn_ok (n := n + 6) (by omega) hc' hg hk
    refine (bk_X0_electedOne_9 ..).trans ?_
    rw [bsf_s]
    rcases h31 with h31 | h31
    · simp (disch := omega) only [cgI hb, cS hc', cV hb, hi, h31, l_lit, nI_add, nI_mul, yi_b, yv_b, yl_b, if_true, if_false, or_true, true_or, or_false, false_or, and_true, true_and, and_false, false_and, not_true_eq_false, not_false_eq_true, Nat.reduceEqDiff, ↓reduceIte, nI_eq, nI_leI, nI_ltI, Nat.not_le.mpr hk]
      simp
    · cases hq : bsf (fun s => decide (M 3 s = 1)) (voN M) k with
      | none =>
        simp (disch := omega) only [cgI hb, cS hc', cV hb, hi, h31, l_lit, nI_add, nI_mul, yi_b, yv_b, yl_b, if_true, if_false, or_true, true_or, or_false, false_or, and_true, true_and, and_false, false_and, not_true_eq_false, not_false_eq_true, Nat.reduceEqDiff, ↓reduceIte, nI_eq, nI_leI, nI_ltI, Nat.not_le.mpr hk, ocd, neg4, Nat.one_ne_zero]
        simp [ocd]
      | some q =>
        have hq2 := (bsf_lt hq).1
        have m1 := voN_le hg k
        have m2 := voN_le hg q
        simp (disch := omega) only [cgI hb, cS hc', cV hb, cR hb, cD6 hb, hi, h31, yro_at, l_lit, nI_add, nI_mul, yi_b, yv_b, yl_b, if_true, if_false, or_true, true_or, or_false, false_or, and_true, true_and, and_false, false_and, not_true_eq_false, not_false_eq_true, Nat.reduceEqDiff, ↓reduceIte, nI_eq, nI_leI, nI_ltI, Nat.not_le.mpr hk, ocd, Nat.not_lt_zero, Nat.one_ne_zero]
        by_cases h5 : voN M q < voN M k
        · simp [h5, Nat.not_le.mpr h5, ocd]
        · simp [h5, Nat.not_lt.mp h5, ocd]
  · refine (bk_X0_electedOne_9 ..).trans ?_
    simp (disch := omega) only [cgI hb, cS hc', l_lit, nI_add, nI_mul, yi_b, yv_b, yl_b, if_true, if_false, or_true, true_or, or_false, false_or, and_true, true_and, and_false, false_and, not_true_eq_false, not_false_eq_true, Nat.reduceEqDiff, ↓reduceIte, nI_eq, nI_leI, nI_ltI, Nat.le_refl]
    rfl
theorem X0_votesTooMany_ok (hn : 2 ≤ n) (hc : Col A b M) (hg : Good M) {s more : Nat} (hs : s < M 0 0) (hm : more < 100) (hv : ∀ p, p < M 0 0 → A (b + 18) p = nI (voN M p)) : ycall n 33 [.ref b, .int (nI s), .int (nI more)] A = some (some (.int (nI (tmN M s more))), A) := by
  obtain ⟨n, rfl⟩ := Nat.exists_eq_add_of_le' hn
  have hS := gS hg
  have hb := hc.1
  rw [en_X0_votesTooMany]
  refine (for_up (fun k => yb_X0_votesTooMany (ycall (n + 1)) (5, [some (.ref b), some (.int (nI s)), some (.int (nI more)), some (.int (nI (sm (fun o => if o ≠ s ∧ M 3 o = 1 then voN M o + (if o < s then 1 else 0) - (voN M s + more) else 0) k))), some (.int (nI k)), none], [], A)) (M 0 0) (fun k hk => ?_)).trans ?_
  · have h3 := gP hg hk
    have h31 : M 3 k = 0 ∨ M 3 k = 1 := by omega
    have hi := X0_isIn_ok (n := n + 1) (by omega) hc hg hk
    have m1 := voN_le hg k
    have m2 := voN_le hg s
    have h6 : sm (fun o => if o ≠ s ∧ M 3 o = 1 then voN M o + (if o < s then 1 else 0) - (voN M s + more) else 0) (k + 1) = sm (fun o => if o ≠ s ∧ M 3 o = 1 then voN M o + (if o < s then 1 else 0) - (voN M s + more) else 0) k + (if k ≠ s ∧ M 3 k = 1 then voN M k + (if k < s then 1 else 0) - (voN M s + more) else 0) := rfl
    refine (bk_X0_votesTooMany_5 ..).trans ?_
    rw [h6]
    by_cases q1 : k = s
    · subst q1
      simp (disch := omega) only [cgI hc.1, cS hc, cE hc, cWk hc, cR hc.1, cD12 hc.1, cD6 hc.1, cBy hc, cTp hc, cSz hc, cCt hc, cTc hc, cKd hc, cFg hc, cV hc.1, l_lit, nI_add, nI_mul, yi_b, yv_b, yl_b, if_true, if_false, or_true, true_or, or_false, false_or, and_true, true_and, and_false, false_and, not_true_eq_false, not_false_eq_true, Nat.reduceEqDiff, ↓reduceIte, nI_eq, nI_leI, nI_ltI, Nat.not_le.mpr hk]
      simp
    · rcases h31 with h31 | h31
      · simp (disch := omega) only [cgI hc.1, cS hc, cE hc, cWk hc, cR hc.1, cD12 hc.1, cD6 hc.1, cBy hc, cTp hc, cSz hc, cCt hc, cTc hc, cKd hc, cFg hc, cV hc.1, hi, h31, q1, l_lit, nI_add, nI_mul, yi_b, yv_b, yl_b, if_true, if_false, or_true, true_or, or_false, false_or, and_true, true_and, and_false, false_and, not_true_eq_false, not_false_eq_true, Nat.reduceEqDiff, ↓reduceIte, nI_eq, nI_leI, nI_ltI, Nat.not_le.mpr hk]
        simp
      · simp (disch := omega) only [cgI hc.1, cS hc, cE hc, cWk hc, cR hc.1, cD12 hc.1, cD6 hc.1, cBy hc, cTp hc, cSz hc, cCt hc, cTc hc, cKd hc, cFg hc, cV hc.1, hi, h31, q1, hv, l_lit, nI_add, nI_mul, yi_b, yv_b, yl_b, if_true, if_false, or_true, true_or, or_false, false_or, and_true, true_and, and_false, false_and, not_true_eq_false, not_false_eq_true, Nat.reduceEqDiff, ↓reduceIte, nI_over, nI_eq, nI_leI, Nat.not_le.mpr hk, Nat.one_ne_zero]
        by_cases h5 : s ≤ k
        · simp [h5, q1, Nat.not_lt.mpr h5]
        · simp [h5, q1, Nat.not_le.mp h5]
  · refine (bk_X0_votesTooMany_5 ..).trans ?_
    simp (disch := omega) only [cgI hc.1, cS hc, cE hc, cWk hc, cR hc.1, cD12 hc.1, cD6 hc.1, cBy hc, cTp hc, cSz hc, cCt hc, cTc hc, cKd hc, cFg hc, cV hc.1, l_lit, nI_add, nI_mul, yi_b, yv_b, yl_b, if_true, if_false, or_true, true_or, or_false, false_or, and_true, true_and, and_false, false_and, not_true_eq_false, not_false_eq_true, Nat.reduceEqDiff, ↓reduceIte, nI_eq, nI_leI, nI_ltI, Nat.le_refl]
    rfl
theorem X0_tellNovelties_ok (hn : 3 ≤ n) (hc : Col A b M) (hg : Good M) : ycall n 14 [.ref b, .ref 76] A = some (none, yro A 76 (M 0 1) (fun e => nI (novN M e))) := by
  obtain ⟨n, rfl⟩ := Nat.exists_eq_add_of_le' hn
  have hE := gE hg
  have hb := hc.1
  have hb9 : b ≤ 40 := by rcases hb with rfl | rfl | rfl <;> omega
  rw [en_X0_tellNovelties]
  have h0 := for_up (fun k => yb_X0_tellNovelties (ycall (n + 2)) (2, [some (.ref b), some (.ref 76), some (.int (nI k))], [], yro A 76 k (fun e => nI (novN M e)))) (M 0 1) (fun k hk => by
    have hc' : Col (yro A 76 k (fun e => nI (novN M e))) b M := Col_ro hc (by omega)
    refine (bk_X0_tellNovelties_2 ..).trans ?_
    simp (disch := omega) only [cgI hb, cE hc', cV hb, X0_noveltyOf_ok _ hc' hg hk, ywr_at (A := yro A 76 k (fun e => nI (novN M e))) (a := 76) (n := 12) rfl, l_lit, nI_add, nI_mul, yi_b, yv_b, yl_b, if_true, if_false, or_true, true_or, or_false, false_or, and_true, true_and, and_false, false_and, not_true_eq_false, not_false_eq_true, Nat.reduceEqDiff, ↓reduceIte, nI_eq, nI_leI, nI_ltI, Nat.not_le.mpr hk]
    rw [yup_grow (f := fun e => nI (novN M e)) (g := fun e => nI (novN M e)) (fun _ _ => rfl)])
  rw [yro_0] at h0
  refine h0.trans ?_
  have hc' : Col (yro A 76 (M 0 1) (fun e => nI (novN M e))) b M := Col_ro hc (by omega)
  refine (bk_X0_tellNovelties_2 ..).trans ?_
  simp (disch := omega) only [cgI hb, cE hc', l_lit, nI_add, nI_mul, yi_b, yv_b, yl_b, if_true, if_false, or_true, true_or, or_false, false_or, and_true, true_and, and_false, false_and, not_true_eq_false, not_false_eq_true, Nat.reduceEqDiff, ↓reduceIte, nI_eq, nI_leI, nI_ltI, Nat.le_refl]
end C4
