/-- nothing but the row q -/
def Fq (q : Nat) (A A' : yM) : Prop := ∀ p, p ≠ q → A' p = A p
theorem Fq_r (q : Nat) (A : yM) : Fq q A A := fun _ _ => rfl
theorem Fq_t {q : Nat} {A B C : yM} (h1 : Fq q A B) (h2 : Fq q B C) : Fq q A C := fun p hp => (h2 p hp).trans (h1 p hp)
theorem Fq_up {A : yM} {q i : Nat} {v : Int32} : Fq q A (yup A q i v) := fun p hp => yup_ne1 hp
theorem Row_Fq {A A' : yM} {q q2 : Nat} {M : Mt} (hr : Row A q M) (h : q ≠ q2) (hf : Fq q2 A A') : Row A' q M := by
  unfold Row at hr ⊢
  rw [hf q h]
  exact hr
theorem Row_eq {A A' : yM} {q : Nat} {M : Mt} (hr : Row A q M) (h : A' q = A q) : Row A' q M := by
  unfold Row at hr ⊢
  rw [h]
  exact hr
section RG
variable {n q p e : Nat} {A : yM} {M : Mt}
theorem X12_copies_ok (hn : 1 ≤ n) {q2 : Nat} (hr : Row A q M) (hg : Good M) (hq2 : 80 ≤ q2 ∧ q2 ≤ 83) (hne : q ≠ q2) : ∃ A', ycall n 141 [.ref q, .ref q2] A = some (none, A') ∧ Row A' q2 M ∧ Fq q2 A A' := by
  obtain ⟨n, rfl⟩ := Nat.exists_eq_add_of_le' hn
  have hS := gS hg
  have hE := gE hg
  refine ⟨yro A q2 81 (A q), ?_, ⟨hq2, ?_, ?_, ?_, fun p hp => ?_, fun e he => ?_⟩, fun p hp => yro_ne hp⟩
  · rw [en_X12_copies]
    have h0 := for_up (fun k => yb_X12_copies (ycall n) (2, [some (.ref q), some (.ref q2), some (.int (nI k))], [], yro A q2 k (A q))) 81 (fun k hk => by
      refine (bk_X12_copies_2 ..).trans ?_
      simp (disch := omega) only [l_lit, nI_add, nI_mul, yi_b, yv_b, yl_b, if_true, if_false, or_true, true_or, or_false, false_or, and_true, true_and, and_false, false_and, not_true_eq_false, not_false_eq_true, Nat.reduceEqDiff, ↓reduceIte, nI_eq, nI_leI, nI_ltI, Nat.not_le.mpr hk, qD hr.1, qW hq2]
      rw [yro_ne hne, yup_grow (f := A q) (g := A q) (fun _ _ => rfl)])
    rw [yro_0] at h0
    refine h0.trans ?_
    refine (bk_X12_copies_2 ..).trans ?_
    simp (disch := omega) only [l_lit, nI_add, nI_mul, yi_b, yv_b, yl_b, if_true, if_false, or_true, true_or, or_false, false_or, and_true, true_and, and_false, false_and, not_true_eq_false, not_false_eq_true, Nat.reduceEqDiff, ↓reduceIte, nI_eq, nI_leI, nI_ltI, Nat.le_refl]
  · rw [yro_at (by omega), rS hr]
  · rw [yro_at (by omega), rE hr]
  · rw [yro_at (by omega), rW hr]
  · have := hr.2.2.2.2.1 p hp
    rw [yro_at (by omega), yro_at (by omega), yro_at (by omega)]
    exact this
  · have := hr.2.2.2.2.2 e he
    rw [yro_at (by omega), yro_at (by omega), yro_at (by omega), yro_at (by omega), yro_at (by omega)]
    exact this
theorem X12_errsIn_ok (hn : 2 ≤ n) (hr : Row A q M) (hg : Good M) {s t z c : Nat} (hE : M 0 1 < 12) : ∃ A', ycall n 160 [.ref q, .int (nI s), .int (nI t), .int (nI z), .int (nI c)] A = some (none, A') ∧ Row A' q (aeN M s t z c) ∧ Fq q A A' := by
  obtain ⟨n, rfl⟩ := Nat.exists_eq_add_of_le' hn
  have hS := gS hg
  have hq := hr.1
  have h := en_X12_errsIn (n + 1) A q (nI s) (nI t) (nI z) (nI c)
  simp (disch := omega) only [l_lit, nI_add, nI_mul, yi_b, yv_b, yl_b, if_true, if_false, or_true, true_or, or_false, false_or, and_true, true_and, and_false, false_and, not_true_eq_false, not_false_eq_true, Nat.reduceEqDiff, ↓reduceIte, qD hq, qW hq, rE hr, en_X12_ofE, yup_ne2] at h
  refine ⟨_, h, ⟨hq, ?_, ?_, ?_, fun p hp => ?_, fun e he => ?_⟩, fun p hp => ?_⟩
  · unfold aeN
    simp (disch := omega) only [yup_ne2, mu_ne, mu_ne2, rS hr]
  · unfold aeN
    simp (disch := omega) only [yup_eq, mu_ne, mu_eq]
  · unfold aeN
    simp (disch := omega) only [yup_ne2, mu_ne, mu_ne2, rW hr]
  · unfold aeN at hp ⊢
    simp (disch := omega) only [mu_ne, mu_ne2] at hp
    have := hr.2.2.2.2.1 p hp
    simp (disch := omega) only [yup_ne2, mu_ne]
    exact this
  · unfold aeN at he ⊢
    simp (disch := omega) only [mu_ne, mu_eq] at he
    by_cases h2 : e = M 0 1
    · subst h2
      simp (disch := omega) only [yup_ne2, mu_ne, mu_eq]
      exact ⟨yup_eq, yup_eq, yup_eq, yup_eq, yup_eq⟩
    · have := hr.2.2.2.2.2 e (by omega)
      simp (disch := omega) only [yup_ne2, mu_ne, mu_ne2]
      exact this
  · simp (disch := omega) only [yup_ne1]
theorem X12_correctsIn_ok (hn : 2 ≤ n) (hr : Row A q M) (hg : Good M) {s e : Nat} (hs : s < M 0 0) (he : e < M 0 1) : ∃ A', ycall n 161 [.ref q, .int (nI s), .int (nI e)] A = some (none, A') ∧ Row A' q (ceM M s e) ∧ Fq q A A' := by
  obtain ⟨n, rfl⟩ := Nat.exists_eq_add_of_le' hn
  have hS := gS hg
  have hE := gE hg
  have h1 := gEr hg he
  have hq := hr.1
  have h := en_X12_correctsIn (n + 1) A q (nI s) (nI e)
  simp (disch := omega) only [l_lit, nI_add, nI_mul, yi_b, yv_b, yl_b, if_true, if_false, or_true, true_or, or_false, false_or, and_true, true_and, and_false, false_and, not_true_eq_false, not_false_eq_true, Nat.reduceEqDiff, ↓reduceIte, nI_eq, nI_leI, nI_ltI, qD hq, qW hq, rSz hr, en_X12_ofE, en_X12_ofS, yup_ne2, nI_div] at h
  refine ⟨_, h, ⟨hq, ?_, ?_, ?_, fun p hp => ?_, fun e' he' => ?_⟩, fun p hp => ?_⟩
  · unfold ceM
    simp (disch := omega) only [yup_ne2, mu_ne, rS hr]
  · unfold ceM
    simp (disch := omega) only [yup_ne2, mu_ne, rE hr]
  · unfold ceM
    simp (disch := omega) only [yup_ne2, mu_ne, rW hr]
  · unfold ceM at hp ⊢
    simp (disch := omega) only [mu_ne] at hp
    have := hr.2.2.2.2.1 p hp
    by_cases h2 : p = s
    · subst h2
      simp (disch := omega) only [yup_ne2, yup_eq, mu_ne, mu_eq]
      exact ⟨this.1, this.2.1, trivial⟩
    · simp (disch := omega) only [yup_ne2, mu_ne, mu_ne2]
      exact this
  · unfold ceM at he' ⊢
    simp (disch := omega) only [mu_ne] at he'
    have := hr.2.2.2.2.2 e' he'
    by_cases h2 : e' = e
    · subst h2
      simp (disch := omega) only [yup_ne2, yup_eq, mu_ne, mu_eq]
      exact ⟨this.1, this.2.1, trivial, this.2.2.2.1, trivial⟩
    · simp (disch := omega) only [yup_ne2, mu_ne, mu_ne2]
      exact this
  · simp (disch := omega) only [yup_ne1]
theorem X12_canCorrect_ok (hn : 3 ≤ n) (hr : Row A 80 M) (hg : Good M) {s e : Nat} (hs : s < M 0 0) (he : e < M 0 1) : ycall n 162 [.ref 79, .int (nI s), .int (nI e)] A = some (some (.int (bI (decide (M 3 s = 1 ∧ M 4 e ≠ s ∧ M 8 e = 0)))), A) := by
  obtain ⟨n, rfl⟩ := Nat.exists_eq_add_of_le' hn
  have hS := gS hg
  have hE := gE hg
  have h1 := gEr hg he
  have h2 := gP hg hs
  simp (disch := omega) only [en_X12_canCorrect, mR, X12_isThere_ok _ hr hg hs, qD hr.1, rS hr, rE hr, rW hr, rKd hr, rFg hr, rIn hr, rBy hr, rTp hr, rSz hr, rCt hr, rCo hr, en_X12_ofS, en_X12_ofE, l_lit, nI_add, nI_mul, yi_b, yv_b, yl_b, if_true, if_false, or_true, true_or, or_false, false_or, and_true, true_and, and_false, false_and, not_true_eq_false, not_false_eq_true, Nat.reduceEqDiff, ↓reduceIte, nI_eq, nI_leI, nI_ltI, bI]
  have h3 : M 3 s = 0 ∨ M 3 s = 1 := by omega
  rcases h3 with h3 | h3
  · simp [h3]
  · by_cases h4 : M 4 e = s
    · simp [h3, h4]
    · by_cases h5 : M 8 e = 0
      · simp [h3, h4, h5]
      · simp [h3, h4, h5]
theorem X12_addsStudent_ok (hn : 2 ≤ n) (hr : Row A 80 M) (hg : Good M) {k f : Nat} (hS : M 0 0 < 6) : ∃ A', ycall n 166 [.ref 79, .int (nI k), .int (nI f)] A = some (none, A') ∧ Row A' 80 (asN M k f) ∧ Fq 80 A A' := by
  obtain ⟨n, rfl⟩ := Nat.exists_eq_add_of_le' hn
  have hE := gE hg
  have hq := hr.1
  have h := en_X12_addsStudent (n + 1) A 79 (nI k) (nI f)
  simp (disch := omega) only [l_lit, nI_add, nI_mul, yi_b, yv_b, yl_b, if_true, if_false, or_true, true_or, or_false, false_or, and_true, true_and, and_false, false_and, not_true_eq_false, not_false_eq_true, Nat.reduceEqDiff, ↓reduceIte, mR, qD hq, qW hq, rS hr, en_X12_ofS, yup_ne2] at h
  refine ⟨_, h, ⟨hq, ?_, ?_, ?_, fun p hp => ?_, fun e he => ?_⟩, fun p hp => ?_⟩
  · unfold asN
    simp (disch := omega) only [yup_eq, mu_ne, mu_eq]
  · unfold asN
    simp (disch := omega) only [yup_ne2, mu_ne, mu_ne2, rE hr]
  · unfold asN
    simp (disch := omega) only [yup_ne2, mu_ne, mu_ne2, rW hr]
  · unfold asN at hp ⊢
    simp (disch := omega) only [mu_ne, mu_eq] at hp
    by_cases h2 : p = M 0 0
    · subst h2
      simp (disch := omega) only [yup_ne2, mu_ne, mu_eq]
      exact ⟨yup_eq, yup_eq, yup_eq⟩
    · have := hr.2.2.2.2.1 p (by omega)
      simp (disch := omega) only [yup_ne2, mu_ne, mu_ne2]
      exact this
  · unfold asN at he ⊢
    simp (disch := omega) only [mu_ne, mu_ne2] at he
    have := hr.2.2.2.2.2 e he
    simp (disch := omega) only [yup_ne2, mu_ne]
    exact this
  · simp (disch := omega) only [yup_ne1]
theorem Row_size (hr : Row A q M) (hg : Good M) {k v : Nat} (hk : k < M 0 1) : Row (yup A q (21 + 5 * k + 2) (nI v)) q (mu M 6 k v) := by
  have hS := gS hg
  have hE := gE hg
  refine ⟨hr.1, ?_, ?_, ?_, fun p hp => ?_, fun e he => ?_⟩
  · simp (disch := omega) only [yup_ne2, mu_ne, rS hr]
  · simp (disch := omega) only [yup_ne2, mu_ne, rE hr]
  · simp (disch := omega) only [yup_ne2, mu_ne, rW hr]
  · simp (disch := omega) only [mu_ne] at hp
    have := hr.2.2.2.2.1 p hp
    simp (disch := omega) only [yup_ne2, mu_ne]
    exact this
  · simp (disch := omega) only [mu_ne] at he
    have := hr.2.2.2.2.2 e he
    by_cases h2 : e = k
    · subst h2
      simp (disch := omega) only [yup_ne2, yup_eq, mu_ne, mu_eq]
      exact ⟨this.1, this.2.1, trivial, this.2.2.2.1, this.2.2.2.2⟩
    · simp (disch := omega) only [yup_ne2, mu_ne, mu_ne2]
      exact this
theorem Row_week (hr : Row A q M) {v : Nat} : Row (yup A q 2 (nI v)) q (mu M 0 2 v) := by
  refine ⟨hr.1, ?_, ?_, ?_, fun p hp => ?_, fun e he => ?_⟩
  · simp (disch := omega) only [yup_ne2, mu_ne2, rS hr]
  · simp (disch := omega) only [yup_ne2, mu_ne2, rE hr]
  · simp (disch := omega) only [yup_eq, mu_eq]
  · simp (disch := omega) only [mu_ne2] at hp
    have := hr.2.2.2.2.1 p hp
    simp (disch := omega) only [yup_ne2, mu_ne]
    exact this
  · simp (disch := omega) only [mu_ne2] at he
    have := hr.2.2.2.2.2 e he
    simp (disch := omega) only [yup_ne2, mu_ne]
    exact this
theorem rw_in (n : Nat) (hg : Good M) (hw : M 0 2 + 1 < 5000) : ∀ (j k : Nat) (A : yM), k + j = M 0 1 → Row A q (wkP M k) → ∃ A', yb_X12_week (ycall (n + 2)) (9, [some (.ref q), some (.int (nI k)), none], [], A) = some (none, A') ∧ Row A' q (wkN M) ∧ Fq q A A' := by
  intro j
  induction j with
  | zero =>
    intro k A hk hr
    have hkE : k = M 0 1 := by omega
    subst hkE
    have hE := gE hg
    refine ⟨A, ?_, hr, Fq_r q A⟩
    refine (bk_X12_week_9 ..).trans ?_
    simp (disch := omega) only [qD hr.1, rE hr, wkP_E, l_lit, nI_add, nI_mul, yi_b, yv_b, yl_b, if_true, if_false, or_true, true_or, or_false, false_or, and_true, true_and, and_false, false_and, not_true_eq_false, not_false_eq_true, Nat.reduceEqDiff, ↓reduceIte, nI_eq, nI_leI, nI_ltI, Nat.le_refl]
  | succ j ih =>
    intro k A hk hr
    have hkE : k < M 0 1 := by omega
    have hE := gE hg
    have hg' := wkP_good hg k hw
    have h1 := gEr hg hkE
    have h2 := gP hg h1.1
    have e4 : wkP M k 4 = M 4 := wkP_ne (by omega) (by omega)
    have e1 : wkP M k 1 = M 1 := wkP_ne (by omega) (by omega)
    have e2 : wkP M k 2 = M 2 := wkP_ne (by omega) (by omega)
    have e3 : wkP M k 3 = M 3 := wkP_ne (by omega) (by omega)
    have e8 : wkP M k 8 = M 8 := wkP_ne (by omega) (by omega)
    have hS := gS hg
    have hq := hr.1
    have r := X12_isThere_ok (n := n + 2) (by omega) hr hg' (p := M 4 k) h1.1
    have hby : A q (21 + 5 * k + 0) = nI (M 4 k) := by rw [rBy hr hkE, e4]
    have hco : A q (21 + 5 * k + 4) = nI (M 8 k) := by rw [rCo hr hkE, e8]
    have hkd : A q (3 + 3 * M 4 k + 0) = nI (M 1 (M 4 k)) := by rw [rKd hr h1.1, e1]
    have hfg : A q (3 + 3 * M 4 k + 1) = nI (M 2 (M 4 k)) := by rw [rFg hr h1.1, e2]
    have hsz : A q (21 + 5 * k + 2) = nI (M 6 k) := by rw [rSz hr hkE, wkP_6]; unfold szW; rw [if_neg (by omega)]
    have hwk : A q 2 = nI (M 0 2 + 1) := rW hr
    rw [e3] at r
    have h31 : M 3 (M 4 k) = 0 ∨ M 3 (M 4 k) = 1 := by omega
    by_cases hqq : M 8 k = 0 ∧ M 3 (M 4 k) = 1
    · have hrN : Row (yup A q (21 + 5 * k + 2) (nI (min 99 (M 6 k + ripN (M 1 (M 4 k)) (M 2 (M 4 k)) (M 0 2 + 1))))) q (wkP M (k + 1)) := by
        rw [wkP_s, if_pos hqq]
        exact Row_size hr hg' hkE
      obtain ⟨A', g1, g2, g3⟩ := ih (k + 1) _ (by omega) hrN
      refine ⟨A', ?_, g2, Fq_t Fq_up g3⟩
      rw [← g1]
      refine (bk_X12_week_9 ..).trans ?_
      have hrp : ripN (M 1 (M 4 k)) (M 2 (M 4 k)) (M 0 2 + 1) ≤ 10 := by unfold ripN; split <;> omega
      simp (disch := omega) only [qD hq, qW hq, rE hr, wkP_E, en_X12_ofS, en_X12_ofE, hby, hco, hkd, hfg, hsz, hwk, r, hqq.1, hqq.2, X12_ripens_ok, X12_least_ok, l_lit, nI_add, nI_mul, yi_b, yv_b, yl_b, if_true, if_false, or_true, true_or, or_false, false_or, and_true, true_and, and_false, false_and, not_true_eq_false, not_false_eq_true, Nat.reduceEqDiff, ↓reduceIte, nI_eq, nI_leI, nI_ltI, Nat.not_le.mpr hkE, Nat.one_ne_zero]
    · have hrN : Row A q (wkP M (k + 1)) := by
        rw [wkP_s, if_neg hqq]
        exact hr
      obtain ⟨A', g1, g2, g3⟩ := ih (k + 1) _ (by omega) hrN
      refine ⟨A', ?_, g2, g3⟩
      rw [← g1]
      refine (bk_X12_week_9 ..).trans ?_
      by_cases h8 : M 8 k = 0
      · have h3 : M 3 (M 4 k) = 0 := by
          rcases h31 with h | h
          · exact h
          · exact absurd ⟨h8, h⟩ hqq
        simp (disch := omega) only [qD hq, rE hr, wkP_E, en_X12_ofS, en_X12_ofE, hby, hco, r, h3, h8, l_lit, nI_add, nI_mul, yi_b, yv_b, yl_b, if_true, if_false, or_true, true_or, or_false, false_or, and_true, true_and, and_false, false_and, not_true_eq_false, not_false_eq_true, Nat.reduceEqDiff, ↓reduceIte, nI_eq, nI_leI, nI_ltI, Nat.not_le.mpr hkE]
      · simp (disch := omega) only [qD hq, rE hr, wkP_E, en_X12_ofS, en_X12_ofE, hby, hco, h8, l_lit, nI_add, nI_mul, yi_b, yv_b, yl_b, if_true, if_false, or_true, true_or, or_false, false_or, and_true, true_and, and_false, false_and, not_true_eq_false, not_false_eq_true, Nat.reduceEqDiff, ↓reduceIte, nI_eq, nI_leI, nI_ltI, Nat.not_le.mpr hkE]
theorem X12_week_ok (hn : 3 ≤ n) (hr : Row A q M) (hg : Good M) (hw : M 0 2 + 1 < 5000) : ∃ A', ycall n 158 [.ref q] A = some (none, A') ∧ Row A' q (wkN M) ∧ Fq q A A' := by
  obtain ⟨n, rfl⟩ := Nat.exists_eq_add_of_le' hn
  have hr1 : Row (yup A q 2 (nI (M 0 2 + 1))) q (wkP M 0) := by rw [wkP_0]; exact Row_week hr
  obtain ⟨A1, g1, g2, g3⟩ := rw_in n hg hw (M 0 1) 0 _ (by omega) hr1
  refine ⟨A1, ?_, g2, Fq_t Fq_up g3⟩
  simp (disch := omega) only [en_X12_week, qD hr.1, qW hr.1, rW hr, l_lit, nI_add]
  exact g1
theorem rw_out (n : Nat) {x : Nat} (hx : x < 1000) : ∀ (j i : Nat) (A : yM) (M : Mt), i + j = x → Good M → M 0 2 + j < 5000 → Row A q M → ∃ A', yb_X12_weeksOn (ycall (n + 3)) (2, [some (.ref q), some (.int (nI x)), some (.int (nI i))], [], A) = some (none, A') ∧ Row A' q (wsN M j) ∧ Fq q A A' := by
  intro j
  induction j with
  | zero =>
    intro i A M hi hg hw hr
    have : i = x := by omega
    subst this
    refine ⟨A, ?_, hr, Fq_r q A⟩
    refine (bk_X12_weeksOn_2 ..).trans ?_
    simp (disch := omega) only [l_lit, nI_add, nI_mul, yi_b, yv_b, yl_b, if_true, if_false, or_true, true_or, or_false, false_or, and_true, true_and, and_false, false_and, not_true_eq_false, not_false_eq_true, Nat.reduceEqDiff, ↓reduceIte, nI_eq, nI_leI, nI_ltI, Nat.le_refl]
  | succ j ih =>
    intro i A M hi hg hw hr
    obtain ⟨A1, g1, g2, g3⟩ := X12_week_ok (n := n + 3) (by omega) hr hg (by omega)
    obtain ⟨A2, f1, f2, f3⟩ := ih (i + 1) A1 (wkN M) (by omega) (wkP_good hg _ (by omega)) (by show M 0 2 + 1 + j < 5000; omega) g2
    refine ⟨A2, ?_, ?_, Fq_t g3 f3⟩
    · refine (bk_X12_weeksOn_2 ..).trans ?_
      simp (disch := omega) only [l_lit, nI_add, nI_mul, yi_b, yv_b, yl_b, if_true, if_false, or_true, true_or, or_false, false_or, and_true, true_and, and_false, false_and, not_true_eq_false, not_false_eq_true, Nat.reduceEqDiff, ↓reduceIte, nI_eq, nI_leI, nI_ltI, Nat.not_le.mpr (show i < x by omega), g1]
      exact f1
    · have := wsN_add M 1 j
      rw [Nat.add_comm 1 j] at this
      rw [← this]
      exact f2
theorem X12_weeksOn_ok (hn : 4 ≤ n) (hr : Row A q M) (hg : Good M) {x : Nat} (hx : x < 1000) (hw : M 0 2 + x < 5000) : ∃ A', ycall n 159 [.ref q, .int (nI x)] A = some (none, A') ∧ Row A' q (wsN M x) ∧ Fq q A A' := by
  obtain ⟨n, rfl⟩ := Nat.exists_eq_add_of_le' hn
  rw [en_X12_weeksOn]
  exact rw_out n hx x 0 A M (by omega) hg hw hr
end RG
