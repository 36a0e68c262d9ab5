/-! terms by drawn sizes -/
theorem and31_pos (x : Int32) : ¬ (x &&& nI 2147483647) < nI 0 := by
  intro h
  have h1 : (x &&& nI 2147483647).toBitVec.slt (nI 0).toBitVec = true := h
  have h2 : (nI 0).toBitVec = 0#32 := rfl
  rw [h2, BitVec.slt_zero_eq_msb, Int32.toBitVec_and, BitVec.msb_and] at h1
  have h3 : (nI 2147483647).toBitVec.msb = false := by decide +kernel
  rw [h3, Bool.and_false] at h1
  cases h1
theorem dr_ex (x : Int32) : ∃ w, w < 100 ∧ (x &&& nI 2147483647) / nI 65536 - (x &&& nI 2147483647) / nI 65536 / nI 100 * nI 100 = nI w := by
  obtain ⟨j, hj, h⟩ := nI_of (and31_pos x)
  refine ⟨j / 65536 % 100, by omega, ?_⟩
  rw [h, nI_div (by omega) (by omega) (by omega), nI_div (by omega) (by omega) (by omega), nI_mul, nI_sub (by omega)]
  congr 1
  omega
noncomputable def drW (x : Int32) : Nat := Classical.choose (dr_ex x)
theorem drW_lt (x : Int32) : drW x < 100 := (Classical.choose_spec (dr_ex x)).1
theorem drW_eq (x : Int32) : (x &&& nI 2147483647) / nI 65536 - (x &&& nI 2147483647) / nI 65536 / nI 100 * nI 100 = nI (drW x) := (Classical.choose_spec (dr_ex x)).2
def sdN (s : Int32) : Nat → Int32
  | 0 => s
  | k + 1 => sdN s k * nI 1103515245 + nI 12345
noncomputable def drM (M : Mt) (s : Int32) : Nat → Mt
  | 0 => M
  | k + 1 => mu (drM M s k) 6 k (drW (sdN s (k + 1)))
theorem drM_0 (M : Mt) (s : Int32) (j : Nat) : ∀ k, drM M s k 0 j = M 0 j := by
  intro k
  induction k with
  | zero => rfl
  | succ k ih => show mu _ 6 k _ 0 j = _; rw [mu_ne (by omega)]; exact ih
theorem drM_good {M : Mt} (hg : Good M) (s : Int32) : ∀ k, Good (drM M s k) := by
  intro k
  induction k with
  | zero => exact hg
  | succ k ih => exact mu6_good ih (drW_lt _)
/-- a term's number -/
noncomputable def tvN (M : Mt) (w : Nat) (s : Int32) : Nat := if w = 0 then allN (wsN (drM M s (M 0 1)) 5) else (match elN (wsN (drM M s (M 0 1)) 5) with
  | some p => p
  | none => 9)
noncomputable def tmT (M : Mt) (w : Nat) : Nat → Int32 → Nat → Nat
  | 0, _, t => t
  | j + 1, s, t => tmT M w j (sdN s (M 0 1)) (t + tvN M w s)
section B11
variable {A : yM} {M I : Mt} {hI : Nat} {T : Nat → Nat → Nat} {c : Nat → Nat → Int32} {g : Nat} {n a b e f k N w : Nat}
theorem tm_class (hg : Good M) (hw : M 0 2 ≤ 999) (hN : N ≤ 20) (hw2 : w < 2) : ∀ (j i : Nat) (s : Int32) (t : Nat) (A : yM), i + j = N → Col A 2 M → ∃ A', yb_X11_terms (ycall 19) (31, [some (.ref 1), some (.int (nI N)), none, some (.int (nI w)), some (.int s), some (.int (nI t)), some (.int (nI i)), none], [], A) = some (some (.int (nI (tmT M w j s t))), A') ∧ Sc A A' := by
  intro j
  induction j with
  | zero =>
    intro i s t A hi hc
    refine ⟨A, ?_, Sc_r A⟩
    refine (bk_X11_terms_31 ..).trans ?_
    simp (disch := omega) only [nI_leI, show N ≤ i by omega, ↓reduceIte]
    rfl
  | succ j ih =>
    intro i s t A hi hc
    have hE := gE hg
    obtain ⟨A1, a1, a2, a3⟩ := X0_become_ok (n := 19) (by omega) hc isB21 (by omega) hg
    have n6 : (nI 65536 = nI 0) = False := eq_false (by decide +kernel)
    have n1 : (nI 100 = nI 0) = False := eq_false (by decide +kernel)
    have w35 : ∀ (A : yM) (e : Nat) (v : Int32) (K : yM → Option yR), e < 12 → ywr A 35 (nI e) v K = K (yup A 35 e v) := fun A e v K h => ywr_at (n := 12) rfl (by omega) h
    obtain ⟨A2, b1, b2, b3⟩ := for_ex (fun k A => yb_X11_terms (ycall 19) (51, [some (.ref 1), some (.int (nI N)), none, some (.int (nI w)), some (.int (sdN s k)), some (.int (nI t)), some (.int (nI i)), some (.int (nI k))], [], A)) (fun k A' => Col A' 21 (drM M s k) ∧ Fr 21 A1 A') (M 0 1) A1 (fun k A2 hk h => by
      obtain ⟨hm, hf⟩ := h
      have hk2 : k < drM M s k 0 1 := by rw [drM_0]; exact hk
      have hE2 : A2 21 5 = nI (M 0 1) := by rw [cE hm, drM_0]
      refine ⟨yup A2 35 k (nI (drW (sdN s (k + 1)))), ?_, Col_size hm hk2, Fr_t hf (Fr_up (by omega))⟩
      refine (bk_X11_terms_51 ..).trans ?_
      simp (disch := omega) only [↓xR, cgI isB21, cR isB21, hE2, l_lit, nI_leI, Nat.not_le.mpr hk, n6, n1, ↓reduceIte, w35, nI_add]
      have e1 : sdN s k * nI 1103515245 + nI 12345 = sdN s (k + 1) := rfl
      rw [e1, drW_eq]) ⟨a2, Fr_r _ _⟩
    have hg2 := drM_good hg s (M 0 1)
    obtain ⟨A3, c1, c2, c3⟩ := X0_passWeeks_ok (n := 19) (by omega) b2 hg2 (x := 5) (by omega) (by rw [drM_0]; omega)
    have hg3 := wsN_good hg2 5 (by rw [drM_0]; omega)
    have hE2 : A2 21 5 = nI (M 0 1) := by rw [cE b2, drM_0]
    have s3 : Sc A A3 := Sc_t (Sc_Fr a3) (Sc_t (Sc_Fr b3) (Sc_Fr c3))
    have key : ∀ A4, Sc A A4 → ∃ A', yb_X11_terms (ycall 19) (31, [some (.ref 1), some (.int (nI N)), none, some (.int (nI w)), some (.int (sdN s (M 0 1))), some (.int (nI (t + tvN M w s))), some (.int (nI (i + 1))), none], [], A4) = some (some (.int (nI (tmT M w (j + 1) s t))), A') ∧ Sc A A' := fun A4 s4 => by
      obtain ⟨A', h1, h2⟩ := ih (i + 1) (sdN s (M 0 1)) (t + tvN M w s) A4 (by omega) (Col_Sc hc s4)
      exact ⟨A', h1, Sc_t s4 h2⟩
    have hb := (bk_X11_terms_51 (ycall 19) A2 1 (nI N) (nI w) (sdN s (M 0 1)) (nI t) (nI i) (nI (M 0 1)))
    have hx : ∃ A4, yb_X11_terms (ycall 19) (51, [some (.ref 1), some (.int (nI N)), none, some (.int (nI w)), some (.int (sdN s (M 0 1))), some (.int (nI t)), some (.int (nI i)), some (.int (nI (M 0 1)))], [], A2) = yb_X11_terms (ycall 19) (31, [some (.ref 1), some (.int (nI N)), none, some (.int (nI w)), some (.int (sdN s (M 0 1))), some (.int (nI (t + tvN M w s))), some (.int (nI (i + 1))), none], [], A4) ∧ Sc A A4 := by
      by_cases h0 : w = 0
      · subst h0
        refine ⟨A3, hb.trans ?_, s3⟩
        simp (disch := omega) only [↓xR, cgI isB21, hE2, l_lit, nI_leI, Nat.le_refl, ↓reduceIte, cV isB21, c1, yv_b, X0_allMarks_ok _ c2 hg3, yi_b, nI_add]
        unfold tvN
        simp only [if_true]
      · have h1 : w = 1 := by omega
        subst h1
        have n10 : (nI 1 = nI 0) = False := eq_false (by decide +kernel)
        refine ⟨tVt A3 21 (wsN (drM M s (M 0 1)) 5), hb.trans ?_, Sc_t s3 (Sc_tVt (Or.inr rfl))⟩
        simp (disch := omega) only [↓xR, cgI isB21, hE2, l_lit, nI_leI, Nat.le_refl, n10, ↓reduceIte, cV isB21, c1, yv_b, X0_electedOne_ok _ c2 hg3, yi_b]
        unfold tvN
        simp only [Nat.one_ne_zero, if_false]
        cases hel : elN (wsN (drM M s (M 0 1)) 5) with
        | none =>
          have n4b : (nI 0 ≤ -nI 4) = False := eq_false (by decide +kernel)
          simp (disch := omega) only [ocd, l_lit, n4b, ↓reduceIte, nI_add]
        | some p =>
          have hp : p < 6 := by
            have h1 := (bsf_lt (show bsf _ _ _ = some p from hel)).1
            have h2 := gS hg3
            omega
          have hp2 : (nI 0 ≤ nI p) = True := eq_true (nI_le (Nat.zero_le _) (by omega))
          simp (disch := omega) only [ocd, hp2, ↓reduceIte, nI_add]
    obtain ⟨A4, d1, d2⟩ := hx
    obtain ⟨A', e1, e2⟩ := key A4 d2
    refine ⟨A', ?_, e2⟩
    refine (bk_X11_terms_31 ..).trans ?_
    simp (disch := omega) only [↓xR, nI_leI, show ¬ N ≤ i by omega, ↓reduceIte, cV isB21, a1, yv_b]
    exact b1.trans (d1.trans e1)
theorem tm_ref (hg : Good M) (hw : M 0 2 ≤ 999) (hN : N ≤ 20) (hw2 : w < 2) : ∀ (j i : Nat) (s : Int32) (t : Nat) (A : yM), i + j = N → Row A 80 M → A 79 10 = s → ∃ A', yb_X12_terms (ycall 19) (32, [some (.ref 79), some (.int (nI N)), none, some (.int (nI w)), some (.int (nI t)), some (.int (nI i)), none], [], A) = some (some (.int (nI (tmT M w j s t))), A') ∧ Sc A A' := by
  intro j
  induction j with
  | zero =>
    intro i s t A hi hr h10
    refine ⟨A, ?_, Sc_r A⟩
    refine (bk_X12_terms_32 ..).trans ?_
    simp (disch := omega) only [nI_leI, show N ≤ i by omega, ↓reduceIte]
    rfl
  | succ j ih =>
    intro i s t A hi hr h10
    have hE := gE hg
    obtain ⟨A1, a1, a2, a3⟩ := X12_copies_ok (n := 19) (q2 := 81) (by omega) hr hg (by omega) (by omega)
    have n6 : (nI 65536 = nI 0) = False := eq_false (by decide +kernel)
    have n1 : (nI 100 = nI 0) = False := eq_false (by decide +kernel)
    have s1 : Sc A A1 := Sc_Fq (Or.inl rfl) a3
    obtain ⟨A2, b1, b2, b3, b4⟩ := for_ex (fun k A => yb_X12_terms (ycall 19) (52, [some (.ref 79), some (.int (nI N)), none, some (.int (nI w)), some (.int (nI t)), some (.int (nI i)), some (.int (nI k))], [], A)) (fun k A' => Row A' 81 (drM M s k) ∧ A' 79 10 = sdN s k ∧ Sc A A') (M 0 1) A1 (fun k A2 hk h => by
      obtain ⟨hm, hs, hf⟩ := h
      have hr2 := Row_Sc hr hf
      have hk2 : k < drM M s k 0 1 := by rw [drM_0]; exact hk
      have e1 : sdN s k * nI 1103515245 + nI 12345 = sdN s (k + 1) := rfl
      refine ⟨yup (yup A2 79 10 (sdN s (k + 1))) 81 (21 + 5 * k + 2) (nI (drW (sdN s (k + 1)))), ?_, Row_size (Row_eq hm (yup_ne1 (by omega))) (drM_good hg s k) hk2, ?_, Sc_t hf (Sc_t (Sc_up (by unfold scr; omega) (fun _ => by omega)) (Sc_up (by unfold scr; omega) (fun h => by omega)))⟩
      · refine (bk_X12_terms_52 ..).trans ?_
        simp (disch := omega) only [↓mR, qD hr2.1, rE hr2, l_lit, nI_leI, Nat.not_le.mpr hk, ↓reduceIte, en_X12_ofE, nI_mul, nI_add, yi_b, mV, en_X12_drawn, ↓mI, ↓mP, hs, e1, yup_eq, n6, n1]
        rw [drW_eq]
        simp (disch := omega) only [qW hm.1]
      · rw [yup_ne1 (by omega), yup_eq]) ⟨a2, by rw [a3 79 (by omega)]; exact h10, s1⟩
    have hg2 := drM_good hg s (M 0 1)
    have hr2 := Row_Sc hr b4
    obtain ⟨A3, c1, c2, c3⟩ := X12_weeksOn_ok (n := 19) (by omega) b2 hg2 (x := 5) (by omega) (by rw [drM_0]; omega)
    have hg3 := wsN_good hg2 5 (by rw [drM_0]; omega)
    have s3 : Sc A A3 := Sc_t b4 (Sc_Fq (Or.inl rfl) c3)
    have h3 : A3 79 10 = sdN s (M 0 1) := by rw [c3 79 (by omega)]; exact b3
    have hb := (bk_X12_terms_52 (ycall 19) A2 79 (nI N) (nI w) (nI t) (nI i) (nI (M 0 1)))
    obtain ⟨A', e1, e2⟩ := ih (i + 1) (sdN s (M 0 1)) (t + tvN M w s) A3 (by omega) (Row_Sc hr s3) h3
    refine ⟨A', ?_, Sc_t s3 e2⟩
    refine (bk_X12_terms_32 ..).trans ?_
    simp (disch := omega) only [↓mR, nI_leI, show ¬ N ≤ i by omega, ↓reduceIte, a1, yv_b]
    refine b1.trans (hb.trans (Eq.trans ?_ e1))
    by_cases h0 : w = 0
    · subst h0
      simp (disch := omega) only [↓mR, qD hr2.1, rE hr2, l_lit, nI_leI, Nat.le_refl, ↓reduceIte, c1, yv_b, X12_elected_ok _ c2 hg3, X12_allMarks_ok _ c2 hg3, yi_b, nI_add]
      unfold tvN
      simp only [if_true]
    · have h1 : w = 1 := by omega
      subst h1
      have n10 : (nI 1 = nI 0) = False := eq_false (by decide +kernel)
      simp (disch := omega) only [↓mR, qD hr2.1, rE hr2, l_lit, nI_leI, Nat.le_refl, n10, ↓reduceIte, c1, yv_b, X12_elected_ok _ c2 hg3, yi_b]
      unfold tvN
      simp only [Nat.one_ne_zero, if_false]
      cases hel : elN (wsN (drM M s (M 0 1)) 5) with
      | none =>
        have n4b : (nI 0 ≤ -nI 4) = False := eq_false (by decide +kernel)
        simp (disch := omega) only [ocd, l_lit, n4b, ↓reduceIte, nI_add]
      | some p =>
        have hp : p < 6 := by
          have h1 := (bsf_lt (show bsf _ _ _ = some p from hel)).1
          have h2 := gS hg3
          omega
        have hp2 : (nI 0 ≤ nI p) = True := eq_true (nI_le (Nat.zero_le _) (by omega))
        simp (disch := omega) only [ocd, hp2, ↓reduceIte, nI_add]
theorem rg_cases (x : Int32) {hi : Nat} (hh : hi < 2 ^ 30) : (decide (¬ x < nI 1 ∧ ¬ nI hi < x) = false ∧ ((x < nI 1) = True ∨ ((x < nI 1) = False ∧ (nI hi < x) = True))) ∨ ∃ j, 1 ≤ j ∧ j ≤ hi ∧ x = nI j := by
  rcases ge_cases x hi hh with h | ⟨h, h2⟩ | h
  · exact Or.inl ⟨by simp [h], Or.inl h⟩
  · exact Or.inl ⟨by simp [h2], Or.inr ⟨h, h2⟩⟩
  · exact Or.inr h
theorem api_terms (hi : InvX A M I hI T c g) (x z v : Int32) : Api 124 224 [.int x, .int z, .int v] A g := by
  have hc := iC hi
  have hg := iG hi
  have hw := iW hi
  have n10 : (nI 1 = nI 0) = False := eq_false (by decide +kernel)
  rcases rg_cases x (hi := 20) (by omega) with ⟨hx, hx2⟩ | ⟨N, hN1, hN2, rfl⟩
  · refine api_read hi (.int (-nI 1)) ⟨A, ?_, Sc_r A⟩ (fun A1 hi => ⟨A1, ?_, Sc_r A1⟩)
    · rw [en_X11_terms]
      rcases hx2 with h | ⟨h, h2⟩
      · simp only [l_lit, h, ↓reduceIte]
      · simp only [l_lit, h, h2, ↓reduceIte]
    · rw [en_X12_terms]
      simp (disch := omega) only [l_lit, X12_isIn_ok, hx, bI_f, yi_b, ↓reduceIte]
  · have hN3 : decide (¬ nI N < nI 1 ∧ ¬ nI 20 < nI N) = true := by
      simp (disch := omega) only [nI_ltI]
      simp; omega
    by_cases hv : okI v 2 = true
    · obtain ⟨w, hw2, rfl⟩ := okI_of (by omega) hv
      refine api_read hi (.int (nI (tmT M w N z 0))) ?_ (fun A1 hi => ?_)
      · obtain ⟨A', a1, a2⟩ := tm_class hg hw hN2 hw2 N 0 z 0 A (by omega) hc
        refine ⟨A', ?_, a2⟩
        rw [en_X11_terms]
        simp (disch := omega) only [l_lit, nI_ltI, nI_leI, show ¬ N < 1 by omega, show ¬ 20 < N by omega, show ¬ w < 0 by omega, show w ≤ 1 by omega, ↓reduceIte]
        exact a1
      · have hr := iR hi
        have s1 : Sc A1 (yup A1 79 10 z) := Sc_up (by unfold scr; omega) (fun _ => by omega)
        obtain ⟨A', a1, a2⟩ := tm_ref hg hw hN2 hw2 N 0 z 0 (yup A1 79 10 z) (by omega) (Row_Sc hr s1) yup_eq
        refine ⟨A', ?_, Sc_t s1 a2⟩
        rw [en_X12_terms]
        simp (disch := omega) only [l_lit, X12_isIn_ok (x := nI N), hN3, bI_t, yi_b, n10, X12_in0, Nat.reduceAdd, hv, ↓reduceIte, ↓mP]
        exact a1
    · have hv := okI_f hv
      refine api_read hi (.int (-nI 1)) ⟨A, ?_, Sc_r A⟩ (fun A1 hi => ⟨A1, ?_, Sc_r A1⟩)
      · rw [en_X11_terms]
        simp (disch := omega) only [l_lit, nI_ltI, show ¬ N < 1 by omega, show ¬ 20 < N by omega, ↓reduceIte]
        have := okI_no2 (k := 1) (by omega) hv
        rcases this with h | ⟨h1, h2, h3⟩
        · simp only [h, ↓reduceIte]
        · simp only [h1, h3, ↓reduceIte]
      · rw [en_X12_terms]
        simp (disch := omega) only [l_lit, X12_isIn_ok (x := nI N), hN3, bI_t, yi_b, n10, X12_in0, Nat.reduceAdd, hv, bI_f, ↓reduceIte]
end B11
