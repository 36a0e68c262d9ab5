/-! nets of citing: both sides -/
theorem ff_eq {P : Nat → Bool} : ∀ (j k q : Nat), k ≤ q → q < k + j → P q = true → (∀ i, k ≤ i → i < q → P i = false) → ff P k j = some q := by
  intro j
  induction j with
  | zero => intro k q h1 h2; omega
  | succ j ih =>
    intro k q h1 h2 hp hn
    unfold ff
    by_cases hk : k = q
    · subst hk; rw [if_pos hp]
    · rw [hn k (Nat.le_refl k) (by omega), if_neg (by simp)]
      exact ih (k + 1) q (by omega) (by omega) hp (fun i a b => hn i (by omega) b)
theorem fst_eq {P : Nat → Bool} {n q : Nat} (hq : q < n) (hp : P q = true) (hn : ∀ i, i < q → P i = false) : fst P n = some q := ff_eq n 0 q (by omega) (by omega) hp (fun i _ h => hn i h)
def mxN (f : Nat → Nat) (n : Nat) : Nat := fo (fun e m => max m (f e)) 0 n
theorem bst_mx {f : Nat → Nat} : ∀ {n q : Nat}, bst f n = some q → mxN f n = f q ∧ (∀ i, i < n → f i ≤ f q) ∧ (∀ i, i < q → f i < f q) := by
  intro n
  induction n with
  | zero => intro q h; cases h
  | succ n ih =>
    intro q h
    have e : mxN f (n + 1) = max (mxN f n) (f n) := rfl
    rw [bst_s] at h
    cases hb : bst f n with
    | none =>
      rw [hb] at h
      cases h
      have h0 : n = 0 := by
        cases n with
        | zero => rfl
        | succ m => obtain ⟨r, hr⟩ := bst_some f m; rw [hb] at hr; cases hr
      subst h0
      refine ⟨?_, fun i hi => ?_, fun i hi => by omega⟩
      · rw [e]; show max 0 (f 0) = f 0; omega
      · have : i = 0 := by omega
        subst this; exact Nat.le_refl _
    | some r =>
      obtain ⟨a1, a2, a3⟩ := ih hb
      have hr := bst_lt hb
      rw [hb] at h
      dsimp only at h
      by_cases hc : f r < f n
      · rw [if_pos hc] at h
        cases h
        refine ⟨by rw [e, a1]; omega, fun i hi => ?_, fun i hi => ?_⟩
        · by_cases hin : i = n
          · subst hin; exact Nat.le_refl _
          · have := a2 i (by omega); omega
        · have := a2 i (by omega); omega
      · rw [if_neg hc] at h
        cases h
        refine ⟨by rw [e, a1]; omega, fun i hi => ?_, a3⟩
        by_cases hin : i = n
        · subst hin; omega
        · exact a2 i (by omega)
theorem bst_fst {f : Nat → Nat} {n : Nat} : fst (fun e => decide (f e = mxN f n)) n = bst f n := by
  cases hb : bst f n with
  | none =>
    cases n with
    | zero => rfl
    | succ m => obtain ⟨r, hr⟩ := bst_some f m; rw [hb] at hr; cases hr
  | some q =>
    obtain ⟨a1, a2, a3⟩ := bst_mx hb
    exact fst_eq (bst_lt hb) (by rw [a1]; simp) (fun i hi => by rw [a1]; have := a3 i hi; simp; omega)
section A8
variable {A : yM} {M I : Mt} {hI : Nat} {T : Nat → Nat → Nat} {c : Nat → Nat → Int32} {g : Nat} {n : Nat}
theorem dr_loop (hr : Row A 80 M) (hg : Good M) (n : Nat) : ∀ (e d : Nat), e < M 0 1 → yb_X12_depthOf (ycall (n + 1)) (13, [some (.ref 79), none, some (.int (nI d)), some (.int (nI e))], [], A) = some (some (.int (nI (d + dpN M e))), A) := by
  intro e
  induction e using Nat.strongRecOn with
  | ind e ih =>
    intro d he
    have hE := gE hg
    have h1 := gEr hg he
    refine (bk_X12_depthOf_13 ..).trans ?_
    simp (disch := omega) only [mR, mV, qD hr.1, rS hr, rE hr, rW hr, rKd hr, rFg hr, rIn hr, rBy hr, rTp hr, rSz hr, rCt hr, rCo hr, en_X12_ofS, en_X12_ofE, l_lit, nI_add, nI_mul, yi_b, yv_b, yl_b, if_true, if_false, or_true, true_or, or_false, false_or, and_true, true_and, and_false, false_and, not_true_eq_false, not_false_eq_true, Nat.reduceEqDiff, ↓reduceIte, nI_eq, nI_leI, nI_ltI, show ¬ e = 99 by omega]
    rw [dpN_eq]
    by_cases h3 : M 7 e < e
    · rw [ih _ h3 (d + 1) (by omega), if_pos h3, Nat.add_assoc]
    · have h4 : M 7 e = 99 := by omega
      refine (bk_X12_depthOf_13 ..).trans ?_
      simp (disch := omega) only [h4, l_lit, nI_add, nI_mul, yi_b, yv_b, yl_b, if_true, if_false, or_true, true_or, or_false, false_or, and_true, true_and, and_false, false_and, not_true_eq_false, not_false_eq_true, Nat.reduceEqDiff, ↓reduceIte, if_neg (show ¬ 99 < e by omega)]
theorem X12_depthOf_ok (hn : 2 ≤ n) (hr : Row A 80 M) (hg : Good M) {e : Nat} (he : e < M 0 1) : ycall n 190 [.ref 79, .int (nI e)] A = some (some (.int (nI (dpN M e))), A) := by
  obtain ⟨n, rfl⟩ := Nat.exists_eq_add_of_le' hn
  have hE := gE hg
  have h1 := gEr hg he
  simp (disch := omega) only [en_X12_depthOf, mR, mV, qD hr.1, rS hr, rE hr, rW hr, rKd hr, rFg hr, rIn hr, rBy hr, rTp hr, rSz hr, rCt hr, rCo hr, en_X12_ofS, en_X12_ofE, l_lit, nI_add, nI_mul, yi_b, yv_b, yl_b, if_true, if_false, or_true, true_or, or_false, false_or, and_true, true_and, and_false, false_and, not_true_eq_false, not_false_eq_true, Nat.reduceEqDiff, ↓reduceIte]
  rw [dpN_eq]
  by_cases h3 : M 7 e < e
  · rw [dr_loop hr hg n _ 1 (by omega), if_pos h3]
  · have h4 : M 7 e = 99 := by omega
    refine (bk_X12_depthOf_13 ..).trans ?_
    simp (disch := omega) only [h4, l_lit, nI_add, nI_mul, yi_b, yv_b, yl_b, if_true, if_false, or_true, true_or, or_false, false_or, and_true, true_and, and_false, false_and, not_true_eq_false, not_false_eq_true, Nat.reduceEqDiff, ↓reduceIte, if_neg (show ¬ 99 < e by omega)]
theorem rr_loop (hr : Row A 80 M) (hg : Good M) (n : Nat) {e : Nat} (he : e < M 0 1) : ∀ (k : Nat), k < M 0 1 → yb_X12_doesReach (ycall (n + 1)) (11, [some (.ref 79), none, some (.int (nI e)), some (.int (nI k))], [], A) = some (some (.int (bI (decide (k = e) || rcN M e k))), A) := by
  intro k
  induction k using Nat.strongRecOn with
  | ind k ih =>
    intro hk
    have hE := gE hg
    have h1 := gEr hg hk
    refine (bk_X12_doesReach_11 ..).trans ?_
    by_cases hke : k = e
    · subst hke
      simp (disch := omega) only [l_lit, nI_add, nI_mul, yi_b, yv_b, yl_b, if_true, if_false, or_true, true_or, or_false, false_or, and_true, true_and, and_false, false_and, not_true_eq_false, not_false_eq_true, Nat.reduceEqDiff, ↓reduceIte, nI_eq, nI_leI, nI_ltI, show ¬ k = 99 by omega]
      refine (bk_X12_doesReach_36 ..).trans ?_
      simp [bI, l_lit]
    · simp (disch := omega) only [mR, mV, qD hr.1, rS hr, rE hr, rW hr, rKd hr, rFg hr, rIn hr, rBy hr, rTp hr, rSz hr, rCt hr, rCo hr, en_X12_ofS, en_X12_ofE, l_lit, nI_add, nI_mul, yi_b, yv_b, yl_b, if_true, if_false, or_true, true_or, or_false, false_or, and_true, true_and, and_false, false_and, not_true_eq_false, not_false_eq_true, Nat.reduceEqDiff, ↓reduceIte, nI_eq, nI_leI, nI_ltI, show ¬ k = 99 by omega, hke]
      by_cases h3 : M 7 k < k
      · rw [ih _ h3 (by omega), decide_false, Bool.false_or, rcN_eq M e k, decide_eq_true h3, Bool.true_and]
      · have h4 : M 7 k = 99 := by omega
        refine (bk_X12_doesReach_11 ..).trans ?_
        simp (disch := omega) only [h4, l_lit, nI_add, nI_mul, yi_b, yv_b, yl_b, if_true, if_false, or_true, true_or, or_false, false_or, and_true, true_and, and_false, false_and, not_true_eq_false, not_false_eq_true, Nat.reduceEqDiff, ↓reduceIte]
        refine (bk_X12_doesReach_36 ..).trans ?_
        rw [rcN_eq M e k, decide_eq_false h3, decide_false]
        simp (disch := omega) only [l_lit, nI_add, nI_mul, yi_b, yv_b, yl_b, if_true, if_false, or_true, true_or, or_false, false_or, and_true, true_and, and_false, false_and, not_true_eq_false, not_false_eq_true, Nat.reduceEqDiff, ↓reduceIte, nI_eq, nI_leI, nI_ltI, show ¬ 99 = e by omega]
        rfl
theorem X12_doesReach_ok (hn : 2 ≤ n) (hr : Row A 80 M) (hg : Good M) {e k : Nat} (he : e < M 0 1) (hk : k < M 0 1) : ycall n 189 [.ref 79, .int (nI k), .int (nI e)] A = some (some (.int (bI (rcN M e k))), A) := by
  obtain ⟨n, rfl⟩ := Nat.exists_eq_add_of_le' hn
  have hE := gE hg
  have h1 := gEr hg hk
  simp (disch := omega) only [en_X12_doesReach, mR, mV, qD hr.1, rS hr, rE hr, rW hr, rKd hr, rFg hr, rIn hr, rBy hr, rTp hr, rSz hr, rCt hr, rCo hr, en_X12_ofS, en_X12_ofE, l_lit, nI_add, nI_mul, yi_b, yv_b, yl_b, if_true, if_false, or_true, true_or, or_false, false_or, and_true, true_and, and_false, false_and, not_true_eq_false, not_false_eq_true, Nat.reduceEqDiff, ↓reduceIte]
  by_cases h3 : M 7 k < k
  · rw [rr_loop hr hg n he _ (by omega), rcN_eq M e k, decide_eq_true h3, Bool.true_and]
  · have h4 : M 7 k = 99 := by omega
    refine (bk_X12_doesReach_11 ..).trans ?_
    simp (disch := omega) only [h4, l_lit, nI_add, nI_mul, yi_b, yv_b, yl_b, if_true, if_false, or_true, true_or, or_false, false_or, and_true, true_and, and_false, false_and, not_true_eq_false, not_false_eq_true, Nat.reduceEqDiff, ↓reduceIte]
    refine (bk_X12_doesReach_36 ..).trans ?_
    rw [rcN_eq M e k, decide_eq_false h3]
    simp (disch := omega) only [l_lit, nI_add, nI_mul, yi_b, yv_b, yl_b, if_true, if_false, or_true, true_or, or_false, false_or, and_true, true_and, and_false, false_and, not_true_eq_false, not_false_eq_true, Nat.reduceEqDiff, ↓reduceIte, nI_eq, nI_leI, nI_ltI, show ¬ 99 = e by omega]
    rfl
theorem api_cited (hi : InvX A M I hI T c g) (s w : Int32) : Api 92 191 [.int s, .int w] A g := by
  have hc := iC hi
  have hg := iG hi
  have hE := gE hg
  by_cases hs : okI s (M 0 1) = true
  · obtain ⟨e, he, rfl⟩ := okI_of (by omega) hs
    by_cases hw : okI w 2 = true
    · obtain ⟨j, hj, rfl⟩ := okI_of (by omega) hw
      have : j = 0 ∨ j = 1 := by omega
      rcases this with rfl | rfl
      · refine api_read hi (.int (nI (ceN M e))) ⟨_, ?_, Sc_r A⟩ (fun A1 hi => ⟨_, ?_, Sc_r A1⟩)
        · simp (disch := omega) only [en_X11_cited, xR, cV hc.1, X0_hasError_ok _ hc, hs, bI_t, l_lit, nI_add, nI_mul, yi_b, yv_b, yl_b, if_true, if_false, or_true, true_or, or_false, false_or, and_true, true_and, and_false, false_and, not_true_eq_false, not_false_eq_true, Nat.reduceEqDiff, ↓reduceIte, nI_eq, nI_leI, nI_ltI, Nat.one_ne_zero, X0_citedInTheEnd_ok _ hc hg he]
        · have hr := iR hi
          have e0 : ycall 20 191 [.ref 79, .int (nI e), .int (nI 0)] A1 = yb_X12_cited (ycall 19) (35, [some (.ref 79), some (.int (nI e)), none, some (.int (nI 0)), some (.int (nI 0))], [], A1) := by
            simp (disch := omega) only [en_X12_cited, mV, X12_isError_ok _ hr hg, X12_in0, Nat.reduceAdd, hs, hw, bI_t, l_lit, nI_add, nI_mul, yi_b, yv_b, yl_b, if_true, if_false, or_true, true_or, or_false, false_or, and_true, true_and, and_false, false_and, not_true_eq_false, not_false_eq_true, Nat.reduceEqDiff, ↓reduceIte, nI_eq, nI_leI, nI_ltI, Nat.one_ne_zero, show ¬ 0 = 1 by omega]
          rw [e0]
          refine (for_up (fun k => yb_X12_cited (ycall 19) (35, [some (.ref 79), some (.int (nI e)), none, some (.int (nI (sm (fun k => if rcN M e k = true then 1 else 0) k))), some (.int (nI k))], [], A1)) (M 0 1) (fun k hk => ?_)).trans ?_
          · refine (bk_X12_cited_35 ..).trans ?_
            have h6 : sm (fun k => if rcN M e k = true then 1 else 0) (k + 1) = sm (fun k => if rcN M e k = true then 1 else 0) k + (if rcN M e k = true then 1 else 0) := rfl
            rw [h6]
            cases hq : rcN M e k
            · simp (disch := omega) only [mV, mR, mV, qD hr.1, rS hr, rE hr, rW hr, rKd hr, rFg hr, rIn hr, rBy hr, rTp hr, rSz hr, rCt hr, rCo hr, en_X12_ofS, en_X12_ofE, l_lit, nI_add, nI_mul, yi_b, yv_b, yl_b, if_true, if_false, or_true, true_or, or_false, false_or, and_true, true_and, and_false, false_and, not_true_eq_false, not_false_eq_true, Nat.reduceEqDiff, ↓reduceIte, nI_eq, nI_leI, nI_ltI, Nat.not_le.mpr hk, X12_doesReach_ok _ hr hg he hk, hq, bI_f, Bool.false_eq_true, Nat.add_zero]
            · simp (disch := omega) only [mV, mR, mV, qD hr.1, rS hr, rE hr, rW hr, rKd hr, rFg hr, rIn hr, rBy hr, rTp hr, rSz hr, rCt hr, rCo hr, en_X12_ofS, en_X12_ofE, l_lit, nI_add, nI_mul, yi_b, yv_b, yl_b, if_true, if_false, or_true, true_or, or_false, false_or, and_true, true_and, and_false, false_and, not_true_eq_false, not_false_eq_true, Nat.reduceEqDiff, ↓reduceIte, nI_eq, nI_leI, nI_ltI, Nat.not_le.mpr hk, X12_doesReach_ok _ hr hg he hk, hq, bI_t, Nat.one_ne_zero]
          · refine (bk_X12_cited_35 ..).trans ?_
            simp (disch := omega) only [mR, mV, qD hr.1, rS hr, rE hr, rW hr, rKd hr, rFg hr, rIn hr, rBy hr, rTp hr, rSz hr, rCt hr, rCo hr, en_X12_ofS, en_X12_ofE, l_lit, nI_add, nI_mul, yi_b, yv_b, yl_b, if_true, if_false, or_true, true_or, or_false, false_or, and_true, true_and, and_false, false_and, not_true_eq_false, not_false_eq_true, Nat.reduceEqDiff, ↓reduceIte, nI_eq, nI_leI, nI_ltI, Nat.le_refl]
            rfl
      · refine api_read hi (.int (nI (dpN M e))) ⟨_, ?_, Sc_r A⟩ (fun A1 hi => ⟨_, ?_, Sc_r A1⟩)
        · simp (disch := omega) only [en_X11_cited, xR, cV hc.1, X0_hasError_ok _ hc, hs, bI_t, l_lit, nI_add, nI_mul, yi_b, yv_b, yl_b, if_true, if_false, or_true, true_or, or_false, false_or, and_true, true_and, and_false, false_and, not_true_eq_false, not_false_eq_true, Nat.reduceEqDiff, ↓reduceIte, nI_eq, nI_leI, nI_ltI, Nat.one_ne_zero, X0_depthOf_ok _ hc hg he]
        · have hr := iR hi
          simp (disch := omega) only [en_X12_cited, mV, X12_isError_ok _ hr hg, X12_in0, Nat.reduceAdd, hs, hw, bI_t, l_lit, nI_add, nI_mul, yi_b, yv_b, yl_b, if_true, if_false, or_true, true_or, or_false, false_or, and_true, true_and, and_false, false_and, not_true_eq_false, not_false_eq_true, Nat.reduceEqDiff, ↓reduceIte, nI_eq, nI_leI, nI_ltI, Nat.one_ne_zero, X12_depthOf_ok _ hr hg he]
    · have hw := okI_f hw
      have hk := ok_cases (by omega) hw
      refine api_read hi (.int (-1)) ⟨_, ?_, Sc_r A⟩ (fun A1 hi => ⟨_, ?_, Sc_r A1⟩)
      · rw [en_X11_cited, (xR _ _).1, cV hc.1, X0_hasError_ok (by omega) hc, yi_b, hs, bI_t]
        simp (disch := omega) only [l_lit, nI_eq, Nat.one_ne_zero, ↓reduceIte, if_false, hk]
      · have hr := iR hi
        simp (disch := omega) only [en_X12_cited, mV, X12_isError_ok _ hr hg, X12_in0, Nat.reduceAdd, hs, hw, bI_t, bI_f, l_lit, yi_b, nI_eq (a := 1), nI_eq (a := 0), Nat.one_ne_zero, if_true, if_false]
  · have hs := okI_f hs
    refine api_read hi (.int (-1)) ⟨_, ?_, Sc_r A⟩ (fun A1 hi => ⟨_, ?_, Sc_r A1⟩)
    · rw [en_X11_cited, (xR _ _).1, cV hc.1, X0_hasError_ok (by omega) hc, yi_b, hs, bI_f]
      exact if_pos rfl
    · have hr := iR hi
      rw [en_X12_cited, mV, X12_isError_ok (by omega) hr hg, yi_b, hs, bI_f]
      exact if_pos rfl
theorem X11_longest_ok (hn : 3 ≤ n) (hc : Col A 2 M) (hg : Good M) : ycall n 96 [.ref 1] A = some (some (.int (nI (mxN (dpN M) (M 0 1)))), A) := by
  obtain ⟨n, rfl⟩ := Nat.exists_eq_add_of_le' hn
  have hE := gE hg
  rw [en_X11_longest]
  have hm : ∀ k, k ≤ M 0 1 → mxN (dpN M) k ≤ 20 := fun k hk => fo_inv (fun m => m ≤ 20) (by omega) (fun e m he hm => by have := dpN_le M (e + 1) e (by omega); show max m (dpN M e) ≤ 20; omega)
  refine (for_up (fun k => yb_X11_longest (ycall (n + 2)) (4, [some (.ref 1), some (.int (nI (mxN (dpN M) k))), some (.int (nI k))], [], A)) (M 0 1) (fun k hk => ?_)).trans ?_
  · have h1 := dpN_le M (k + 1) k (by omega)
    have h2 := hm k (by omega)
    have e : mxN (dpN M) (k + 1) = max (mxN (dpN M) k) (dpN M k) := rfl
    refine (bk_X11_longest_4 ..).trans ?_
    simp (disch := omega) only [xR, cgI hc.1, cE hc, cV hc.1, l_lit, nI_add, nI_mul, yi_b, yv_b, yl_b, if_true, if_false, or_true, true_or, or_false, false_or, and_true, true_and, and_false, false_and, not_true_eq_false, not_false_eq_true, Nat.reduceEqDiff, ↓reduceIte, nI_leI, Nat.not_le.mpr hk, X0_depthOf_ok _ hc hg hk, nI_max, e]
  · refine (bk_X11_longest_4 ..).trans ?_
    simp (disch := omega) only [xR, cgI hc.1, cE hc, l_lit, nI_add, nI_mul, yi_b, yv_b, yl_b, if_true, if_false, or_true, true_or, or_false, false_or, and_true, true_and, and_false, false_and, not_true_eq_false, not_false_eq_true, Nat.reduceEqDiff, ↓reduceIte, nI_leI, Nat.le_refl]
theorem X12_deepest_ok (hn : 3 ≤ n) (hr : Row A 80 M) (hg : Good M) : ycall n 197 [.ref 79] A = some (some (.int (ocd (bst (dpN M) (M 0 1)))), A) := by
  obtain ⟨n, rfl⟩ := Nat.exists_eq_add_of_le' hn
  have hE := gE hg
  rw [en_X12_deepest]
  refine (for_up (fun k => yb_X12_deepest (ycall (n + 2)) (5, [some (.ref 79), some (.int (ocd (bst (dpN M) k))), some (.int (nI k))], [], A)) (M 0 1) (fun k hk => ?_)).trans ?_
  · have h1 := dpN_le M (k + 1) k (by omega)
    refine (bk_X12_deepest_5 ..).trans ?_
    rw [bst_s]
    cases hb : bst (dpN M) k with
    | none =>
      simp (disch := omega) only [mR, mV, qD hr.1, rS hr, rE hr, rW hr, rKd hr, rFg hr, rIn hr, rBy hr, rTp hr, rSz hr, rCt hr, rCo hr, en_X12_ofS, en_X12_ofE, l_lit, nI_add, nI_mul, yi_b, yv_b, yl_b, if_true, if_false, or_true, true_or, or_false, false_or, and_true, true_and, and_false, false_and, not_true_eq_false, not_false_eq_true, Nat.reduceEqDiff, ↓reduceIte, nI_leI, Nat.not_le.mpr hk, ocd, neg4]
    | some i =>
      have hi := bst_lt hb
      have h2 := dpN_le M (i + 1) i (by omega)
      simp (disch := omega) only [mR, mV, qD hr.1, rS hr, rE hr, rW hr, rKd hr, rFg hr, rIn hr, rBy hr, rTp hr, rSz hr, rCt hr, rCo hr, en_X12_ofS, en_X12_ofE, l_lit, nI_add, nI_mul, yi_b, yv_b, yl_b, if_true, if_false, or_true, true_or, or_false, false_or, and_true, true_and, and_false, false_and, not_true_eq_false, not_false_eq_true, Nat.reduceEqDiff, ↓reduceIte, nI_leI, nI_ltI, Nat.not_lt_zero, Nat.not_le.mpr hk, ocd, X12_depthOf_ok _ hr hg hk, X12_depthOf_ok _ hr hg (show i < M 0 1 by omega)]
      by_cases h : dpN M i < dpN M k
      · rw [if_neg (Nat.not_le.mpr h), if_pos h]
      · rw [if_pos (Nat.not_lt.mp h), if_neg h]
  · refine (bk_X12_deepest_5 ..).trans ?_
    simp (disch := omega) only [mR, mV, qD hr.1, rS hr, rE hr, rW hr, rKd hr, rFg hr, rIn hr, rBy hr, rTp hr, rSz hr, rCt hr, rCo hr, en_X12_ofS, en_X12_ofE, l_lit, nI_add, nI_mul, yi_b, yv_b, yl_b, if_true, if_false, or_true, true_or, or_false, false_or, and_true, true_and, and_false, false_and, not_true_eq_false, not_false_eq_true, Nat.reduceEqDiff, ↓reduceIte, nI_leI, Nat.le_refl]
theorem X12_alone_ok (hn : 3 ≤ n) (hr : Row A 80 M) (hg : Good M) : ycall n 198 [.ref 79] A = some (some (.int (nI (bts (fun e => if citN M e = 0 ∧ M 7 e = 99 then 1 else 0) (M 0 1)))), A) := by
  obtain ⟨n, rfl⟩ := Nat.exists_eq_add_of_le' hn
  have hE := gE hg
  rw [en_X12_alone]
  refine (for_up (fun k => yb_X12_alone (ycall (n + 2)) (4, [some (.ref 79), some (.int (nI (bts (fun e => if citN M e = 0 ∧ M 7 e = 99 then 1 else 0) k))), some (.int (nI k))], [], A)) (M 0 1) (fun k hk => ?_)).trans ?_
  · have h3 := gEr hg hk
    have h5 := citN_le hg k
    have h4 : bts (fun e => if citN M e = 0 ∧ M 7 e = 99 then 1 else 0) k < 2 ^ k := bts_lt (fun j _ => by split <;> omega)
    have h6 : bts (fun e => if citN M e = 0 ∧ M 7 e = 99 then 1 else 0) (k + 1) = bts (fun e => if citN M e = 0 ∧ M 7 e = 99 then 1 else 0) k + (if citN M k = 0 ∧ M 7 k = 99 then 1 else 0) * 2 ^ k := rfl
    refine (bk_X12_alone_4 ..).trans ?_
    rw [h6]
    by_cases q2 : M 7 k = 99
    · by_cases q1 : citN M k = 0
      · simp (disch := omega) only [mR, mV, qD hr.1, rS hr, rE hr, rW hr, rKd hr, rFg hr, rIn hr, rBy hr, rTp hr, rSz hr, rCt hr, rCo hr, en_X12_ofS, en_X12_ofE, l_lit, nI_add, nI_mul, yi_b, yv_b, yl_b, if_true, if_false, or_true, true_or, or_false, false_or, and_true, true_and, and_false, false_and, not_true_eq_false, not_false_eq_true, Nat.reduceEqDiff, ↓reduceIte, nI_leI, nI_eq, Nat.not_le.mpr hk, q2, X12_citedIn_ok _ hr hg, q1, and_self, Nat.one_mul, nI_orbit _ h4]
      · simp (disch := omega) only [mR, mV, qD hr.1, rS hr, rE hr, rW hr, rKd hr, rFg hr, rIn hr, rBy hr, rTp hr, rSz hr, rCt hr, rCo hr, en_X12_ofS, en_X12_ofE, l_lit, nI_add, nI_mul, yi_b, yv_b, yl_b, if_true, if_false, or_true, true_or, or_false, false_or, and_true, true_and, and_false, false_and, not_true_eq_false, not_false_eq_true, Nat.reduceEqDiff, ↓reduceIte, nI_leI, nI_eq, Nat.not_le.mpr hk, q2, X12_citedIn_ok _ hr hg, q1, Nat.zero_mul, Nat.add_zero, nI_or, Nat.or_zero]
    · simp (disch := omega) only [mR, mV, qD hr.1, rS hr, rE hr, rW hr, rKd hr, rFg hr, rIn hr, rBy hr, rTp hr, rSz hr, rCt hr, rCo hr, en_X12_ofS, en_X12_ofE, l_lit, nI_add, nI_mul, yi_b, yv_b, yl_b, if_true, if_false, or_true, true_or, or_false, false_or, and_true, true_and, and_false, false_and, not_true_eq_false, not_false_eq_true, Nat.reduceEqDiff, ↓reduceIte, nI_leI, nI_eq, Nat.not_le.mpr hk, q2, Nat.zero_mul, Nat.add_zero, nI_or, Nat.or_zero]
  · refine (bk_X12_alone_4 ..).trans ?_
    simp (disch := omega) only [mR, mV, qD hr.1, rS hr, rE hr, rW hr, rKd hr, rFg hr, rIn hr, rBy hr, rTp hr, rSz hr, rCt hr, rCo hr, en_X12_ofS, en_X12_ofE, l_lit, nI_add, nI_mul, yi_b, yv_b, yl_b, if_true, if_false, or_true, true_or, or_false, false_or, and_true, true_and, and_false, false_and, not_true_eq_false, not_false_eq_true, Nat.reduceEqDiff, ↓reduceIte, nI_leI, Nat.le_refl]
end A8
