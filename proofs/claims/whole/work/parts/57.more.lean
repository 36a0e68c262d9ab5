/-! comes, the image, what is told, the mean, a forged page -/
section B8
variable {A : yM} {M I : Mt} {hI : Nat} {T : Nat → Nat → Nat} {c : Nat → Nat → Int32} {g : Nat} {n d q b : Nat}
/-- a call that first looks for one of a KIND on a SHELF -/
theorem api_one (hi : InvX A M I hI T c g) {cm rm : Nat} {as : List Value} {x : Int32} {K1 K2 : Int32 × yM → Option yR}
    (e1 : ycall 20 cm (.ref 1 :: as) A = (yi (yvt [(10, 136)] (ycall 19) [.ref 1, .int x] A)).bind (fun z1 => if z1.1 = 0 then K1 z1 else some (some (.int z1.1), z1.2)))
    (e2 : ∀ A, ycall 20 rm (.ref 79 :: as) A = (yi (yvt [(11, 231)] (ycall 19) [.ref 79, .int x] A)).bind (fun z1 => if z1.1 = 0 then K2 z1 else some (some (.int z1.1), z1.2)))
    (h : ∀ k, x = nI k → k < 8 → T k 0 = 1 → Api cm rm as A g) (hcm : nlg cm = true := by rfl) : Api cm rm as A g := by
  by_cases hx : okI x 8 = true
  · obtain ⟨k, hk, rfl⟩ := okI_of (by omega) hx
    by_cases h2 : T k 0 = 1
    · exact h k rfl hk h2
    · have h0 : ¬ rfI T 1 k = nI 0 := fun e => h2 ((rfI_0 (by omega)).mp e)
      refine api_read hi (.int (rfI T 1 k)) ⟨_, ?_, Sc_r A⟩ (fun A1 hi => ⟨_, ?_, Sc_r A1⟩) hcm
      · rw [e1, xV, X11_one_ok (by omega) (iT hi) hk, yi_b]
        exact if_neg h0
      · rw [e2, mV, X12_kept_ok (by omega) (iT hi) hk, yi_b]
        exact if_neg h0
  · have hx := okI_f hx
    refine api_read hi (.int (-1)) ⟨_, ?_, Sc_r A⟩ (fun A1 hi => ⟨_, ?_, Sc_r A1⟩) hcm
    · rw [e1, xV, X11_one_no (by omega) hx, yi_b]
      exact if_neg (show ¬ (-1 : Int32) = 0 by decide +kernel)
    · rw [e2, mV, X12_kept_no (by omega) hx, yi_b]
      exact if_neg (show ¬ (-1 : Int32) = 0 by decide +kernel)
theorem X0_addStudent_full (hn : 1 ≤ n) (hc : Col A b M) {k f : Nat} (hk : k < 8) (hf : f < 10) (hS : M 0 0 = 6) : ycall n 5 [.ref b, .int (nI k), .int (nI f)] A = some (some (.int (-nI 2)), A) := by
  obtain ⟨n, rfl⟩ := Nat.exists_eq_add_of_le' hn
  simp (disch := omega) only [en_X0_addStudent, l_lit, nI_ltI, nI_leI, Nat.not_le.mpr hk, Nat.not_lt_zero, hf, ↓reduceIte, cgI hc.1, cS hc, hS, Nat.lt_irrefl]
theorem api_comes (hi : InvX A M I hI T c g) (x : Int32) : Api 75 172 [.int x] A g := by
  refine api_one hi (en_X11_comes ..) (fun A => en_X12_comes ..) (fun k hx hk h1 => ?_)
  subst hx
  have hc := iC hi
  have hg := iG hi
  have hr := iR hi
  have hS := gS hg
  have hz : rfI T 1 k = nI 0 := (rfI_0 (by omega)).mpr h1
  obtain ⟨-, -, -, h4, -⟩ := iT hi k hk
  obtain ⟨b1, b2, b3, b4, b5, b6⟩ := h4 h1
  by_cases hf : M 0 0 = 6
  · refine api_read hi (.int (-nI 2)) ⟨_, ?_, Sc_r A⟩ (fun A1 hi => ⟨_, ?_, Sc_r A1⟩)
    · rw [en_X11_comes, xV, X11_one_ok (by omega) (iT hi) hk, hz, yi_b]
      simp (disch := omega) only [l_lit, ↓reduceIte, ↓xR, ↓sh_row hk, ↓sh_I hk, b3, b4, cV hc.1, X0_addStudent_full _ hc b1 b2 hf, yi_b]
    · have hr := iR hi
      rw [en_X12_comes, mV, X12_kept_ok (by omega) (iT hi) hk, hz, yi_b]
      simp (disch := omega) only [l_lit, ↓reduceIte, ↓mR, ↓qD hr.1, rS hr, hf]
  · have h6 : M 0 0 < 6 := by omega
    obtain ⟨A1, a1, a2, a3⟩ := X0_addStudent_ok (n := 19) (by omega) hc hg b1 b2 h6
    have hr1 : Row A1 80 M := Row_eq hr (a3 80 (by omega))
    obtain ⟨A2, g1, g2, g3⟩ := X12_addsStudent_ok (n := 19) (k := T k 1) (f := T k 2) (by omega) hr1 hg h6
    have ht1 : Shf A1 T c := Shf_eq (iT hi) (fun p hp => a3 p (by omega)) (fun p hp => a3 p (by omega))
    have e1 : A2 80 0 = nI (M 0 0 + 1) := by
      have := rS g2
      unfold asN at this
      simpa (disch := omega) only [mu_ne, mu_eq] using this
    have n6 : (nI (M 0 0) = nI 6) = False := by
      rw [eq_iff_iff, iff_false, nI_eq (by omega) (by omega)]
      exact hf
    refine api_mut (v := .int (nI (M 0 0))) (A1 := A1) (A2 := A2) (M' := asN M (T k 1) (T k 2)) hi (asN_good hg b1 b2 h6) ?_ ?_ a2 (fun p h _ => a3 p (by omega)) (by rw [a3 79 (by omega)]) ?_ g2 (fun p h _ => g3 p h) (by rw [g3 79 (by omega)])
    · unfold asN
      simp (disch := omega) only [mu_ne, mu_ne2]
      exact iW hi
    · rw [en_X11_comes, xV, X11_one_ok (by omega) (iT hi) hk, hz, yi_b]
      simp (disch := omega) only [l_lit, ↓reduceIte, ↓xR, ↓sh_row hk, ↓sh_I hk, b3, b4, cV hc.1, a1, yi_b]
    · obtain ⟨-, -, -, h4, -⟩ := ht1 k hk
      obtain ⟨-, -, -, -, b5, b6⟩ := h4 h1
      rw [en_X12_comes, mV, X12_kept_ok (by omega) ht1 hk, hz, yi_b]
      simp (disch := omega) only [l_lit, ↓reduceIte, ↓mR, ↓qD hr1.1, rS hr1, n6, ↓m8r, b5, b6, mV, g1, yv_b, ↓qD g2.1, e1, nI_sub, Nat.add_sub_cancel]
theorem api_image (hi : InvX A M I hI T c g) : Api 125 225 [] A g := by
  have hc := iC hi
  have hg := iG hi
  have hr := iR hi
  obtain ⟨A1, a1, a2, a3⟩ := X0_become_ok (n := 19) (d := 40) (by omega) hc (Or.inr (Or.inr rfl)) (by omega) hg
  obtain ⟨A1', hA1⟩ : ∃ z, z = yup A1 1 3 (nI 1) := ⟨_, rfl⟩
  have f1 : ∀ p, ¬ (40 ≤ p ∧ p < 59) → p ≠ 1 → A1' p = A p := fun p h1 h2 => by rw [hA1, yup_ne1 h2, a3 p (by omega)]
  have c1 : A1' 1 3 = nI 1 := by rw [hA1, yup_eq]
  have hc1 : Col A1' 2 M := Col_fr hc (fun p hp => f1 p (by omega) (by omega))
  have hm1 : Col A1' 40 M := Col_fr a2 (fun p hp => by rw [hA1, yup_ne1 (by omega)])
  have x1 : ycall 20 125 [.ref 1] A = some (some (.int (nI (M 0 2))), A1') := by
    have hc2 := hc1
    rw [hA1] at hc2
    simp (disch := omega) only [en_X11_image, ↓xR, cV (Or.inr (Or.inr rfl) : isB 40), a1, yv_b, l_lit, or_true, ↓reduceIte, ↓x3P, ↓cgI hc.1, cWk hc2]
    rw [hA1]
  have hr1 : Row A1' 80 M := Row_eq hr (f1 80 (by omega) (by omega))
  obtain ⟨A2, b1, b2, b3⟩ := X12_copies_ok (n := 19) (q2 := 82) (by omega) hr1 hg (by omega) (by omega)
  obtain ⟨A2', hA2⟩ : ∃ z, z = yup A2 79 4 (nI 1) := ⟨_, rfl⟩
  have f2 : ∀ p, p ≠ 82 → p ≠ 79 → A2' p = A1' p := fun p h1 h2 => by rw [hA2, yup_ne1 h2, b3 p h1]
  have c2 : A2' 79 4 = nI 1 := by rw [hA2, yup_eq]
  have hr2 : Row A2' 80 M := Row_eq hr1 (f2 80 (by omega) (by omega))
  have hm2 : Row A2' 82 M := Row_eq b2 (by rw [hA2, yup_ne1 (by omega)])
  have x2 : ycall 20 225 [.ref 79] A1' = some (some (.int (nI (M 0 2))), A2') := by
    have hr3 := hr2
    rw [hA2] at hr3
    simp (disch := omega) only [en_X12_image, ↓mR, b1, yv_b, l_lit, or_true, ↓reduceIte, ↓mP, ↓qD hr.1, rW hr3]
    rw [hA2]
  obtain ⟨h1, h2, h3, h4, h5, h6, h7, h8, h9, h10⟩ := hi
  refine ⟨.int (nI (M 0 2)), A1', A2', g, rfl, x1, x2, by omega, ⟨M, M, 1, T, c, h1, h2, Col_fr hc1 (fun p hp => f2 p (by omega) (by omega)), hr2, by omega, ?_, c2, fun _ => ⟨hg, h2, Col_fr hm1 (fun p hp => f2 p (by omega) (by omega)), hm2⟩, ?_, ?_⟩, ?_, ?_, f1 0 (by omega) (by omega), f1 93 (by omega) (by omega)⟩
  · rw [f2 1 (by omega) (by omega)]; exact c1
  · exact Shf_eq h9 (fun p hp => (f2 p (by omega) (by omega)).trans (f1 p (by omega) (by omega))) (fun p hp => (f2 p (by omega) (by omega)).trans (f1 p (by omega) (by omega)))
  · rw [f2 94 (by omega) (by omega), f1 94 (by omega) (by omega)]; exact h10
  · rw [f2 0 (by omega) (by omega), f1 0 (by omega) (by omega)]
  · rw [f2 93 (by omega) (by omega), f1 93 (by omega) (by omega)]
theorem api_restore (hi : InvX A M I hI T c g) : Api 126 226 [] A g := by
  obtain ⟨h1, h2, h3, h4, h5, h6, h7, h8, h9, h10⟩ := id hi
  by_cases h0 : hI = 0
  · subst h0
    refine api_read hi (.int (-nI 3)) ⟨_, ?_, Sc_r A⟩ (fun A1 hi => ⟨_, ?_, Sc_r A1⟩)
    · simp (disch := omega) only [en_X11_restore, ↓x3I, h6, l_lit, ↓reduceIte]
    · obtain ⟨-, -, -, -, -, -, h7, -⟩ := hi
      simp (disch := omega) only [en_X12_restore, ↓mI, h7, l_lit, ↓reduceIte]
  · have h1' : hI = 1 := by omega
    subst h1'
    obtain ⟨k1, k2, k3, k4⟩ := h8 rfl
    obtain ⟨A1, a1, a2, a3⟩ := X0_become_ok (n := 19) (d := 2) (by omega) k3 (Or.inl rfl) (by omega) k1
    have hr1 : Row A1 82 I := Row_eq k4 (a3 82 (by omega))
    obtain ⟨A2, b1, b2, b3⟩ := X12_copies_ok (n := 19) (q2 := 80) (by omega) hr1 k1 (by omega) (by omega)
    have n10 : (nI 1 = nI 0) = False := eq_false (by decide +kernel)
    refine api_mut (v := .int (nI (I 0 2))) (A1 := A1) (A2 := A2) (M' := I) hi k1 k2 ?_ a2 (fun p h _ => a3 p (by omega)) (by rw [a3 79 (by omega)]) ?_ b2 (fun p h _ => b3 p h) (by rw [b3 79 (by omega)])
    · simp (disch := omega) only [en_X11_restore, ↓x3I, h6, l_lit, n10, ↓reduceIte, ↓xR, cV (Or.inl rfl : isB 2), a1, yv_b, ↓cgI a2.1, cWk a2]
    · have e4 : A1 79 4 = nI 1 := by rw [a3 79 (by omega)]; exact h7
      simp (disch := omega) only [en_X12_restore, ↓mI, e4, l_lit, n10, ↓reduceIte, ↓mR, b1, yv_b, ↓qD b2.1, rW b2]
theorem bts_step {f : Nat → Nat} {k : Nat} (hk : k < 31) (h : ∀ j, j ≤ k → f j < 2) : nI (bts f k) ||| (nI (f k) <<< (nI k &&& nI 31)) = nI (bts f (k + 1)) := by
  have h0 : bts f k < 2 ^ k := bts_lt (fun j hj => h j (by omega))
  have h6 : bts f (k + 1) = bts f k + f k * 2 ^ k := rfl
  have h1 := h k (Nat.le_refl k)
  rw [h6]
  have : f k = 0 ∨ f k = 1 := by omega
  rcases this with e | e
  · rw [e, Nat.zero_mul, Nat.add_zero]
    have : nI 0 <<< (nI k &&& nI 31) = nI 0 := (by decide +kernel : ∀ k, k < 31 → nI 0 <<< (nI k &&& nI 31) = nI 0) k hk
    rw [this, nI_or, Nat.or_zero]
  · rw [e, Nat.one_mul, nI_orbit hk h0]
theorem X12_count_in (hn : 1 ≤ n) (hr : Row A 80 M) (hg : Good M) : yb_X12_count (ycall n) (53, [some (.ref 79), none, some (.int (nI 0)), some (.int (nI 0))], [], A) = some (some (.int (nI (bts (M 3) (M 0 0)))), A) := by
  obtain ⟨n, rfl⟩ := Nat.exists_eq_add_of_le' hn
  have hS := gS hg
  refine (for_up (fun k => yb_X12_count (ycall (n + 1)) (53, [some (.ref 79), none, some (.int (nI (bts (M 3) k))), some (.int (nI k))], [], A)) (M 0 0) (fun k hk => ?_)).trans ?_
  · have h3 := fun j (hj : j ≤ k) => (gP hg (show j < M 0 0 by omega)).2.2
    refine (bk_X12_count_53 ..).trans ?_
    simp (disch := omega) only [mR, qD hr.1, rS hr, rE hr, rW hr, rKd hr, rFg hr, rIn hr, rBy hr, rTp hr, rSz hr, rCt hr, rCo hr, en_X12_ofS, en_X12_ofE, l_lit, nI_add, nI_mul, yi_b, yv_b, yl_b, if_true, if_false, or_true, true_or, or_false, false_or, and_true, true_and, and_false, false_and, not_true_eq_false, not_false_eq_true, Nat.reduceEqDiff, ↓reduceIte, nI_eq, nI_leI, nI_ltI, Nat.not_le.mpr hk]
    rw [bts_step (by omega) h3]
  · refine (bk_X12_count_53 ..).trans ?_
    simp (disch := omega) only [mR, qD hr.1, rS hr, rE hr, rW hr, rKd hr, rFg hr, rIn hr, rBy hr, rTp hr, rSz hr, rCt hr, rCo hr, en_X12_ofS, en_X12_ofE, l_lit, nI_add, nI_mul, yi_b, yv_b, yl_b, if_true, if_false, or_true, true_or, or_false, false_or, and_true, true_and, and_false, false_and, not_true_eq_false, not_false_eq_true, Nat.reduceEqDiff, ↓reduceIte, nI_eq, nI_leI, nI_ltI, Nat.le_refl]
theorem X12_count_co (hn : 1 ≤ n) (hr : Row A 80 M) (hg : Good M) : yb_X12_count (ycall n) (88, [some (.ref 79), none, some (.int (nI 0)), some (.int (nI 0))], [], A) = some (some (.int (nI (bts (M 8) (M 0 1)))), A) := by
  obtain ⟨n, rfl⟩ := Nat.exists_eq_add_of_le' hn
  have hE := gE hg
  refine (for_up (fun k => yb_X12_count (ycall (n + 1)) (88, [some (.ref 79), none, some (.int (nI (bts (M 8) k))), some (.int (nI k))], [], A)) (M 0 1) (fun k hk => ?_)).trans ?_
  · have h3 := fun j (hj : j ≤ k) => (gEr hg (show j < M 0 1 by omega)).2.2.2.2
    refine (bk_X12_count_88 ..).trans ?_
    simp (disch := omega) only [mR, qD hr.1, rS hr, rE hr, rW hr, rKd hr, rFg hr, rIn hr, rBy hr, rTp hr, rSz hr, rCt hr, rCo hr, en_X12_ofS, en_X12_ofE, l_lit, nI_add, nI_mul, yi_b, yv_b, yl_b, if_true, if_false, or_true, true_or, or_false, false_or, and_true, true_and, and_false, false_and, not_true_eq_false, not_false_eq_true, Nat.reduceEqDiff, ↓reduceIte, nI_eq, nI_leI, nI_ltI, Nat.not_le.mpr hk]
    rw [bts_step (by omega) h3]
  · refine (bk_X12_count_88 ..).trans ?_
    simp (disch := omega) only [mR, qD hr.1, rS hr, rE hr, rW hr, rKd hr, rFg hr, rIn hr, rBy hr, rTp hr, rSz hr, rCt hr, rCo hr, en_X12_ofS, en_X12_ofE, l_lit, nI_add, nI_mul, yi_b, yv_b, yl_b, if_true, if_false, or_true, true_or, or_false, false_or, and_true, true_and, and_false, false_and, not_true_eq_false, not_false_eq_true, Nat.reduceEqDiff, ↓reduceIte, nI_eq, nI_leI, nI_ltI, Nat.le_refl]
theorem X12_allSize_ok (hn : 2 ≤ n) (hr : Row A 80 M) (hg : Good M) : ycall n 219 [.ref 79] A = some (some (.int (nI (sizesN M))), A) := by
  obtain ⟨n, rfl⟩ := Nat.exists_eq_add_of_le' hn
  have hE := gE hg
  rw [en_X12_allSize]
  refine (for_up (fun k => yb_X12_allSize (ycall (n + 1)) (4, [some (.ref 79), some (.int (nI (sm (M 6) k))), some (.int (nI k))], [], A)) (M 0 1) (fun k hk => ?_)).trans ?_
  · have h6 : sm (M 6) (k + 1) = sm (M 6) k + M 6 k := rfl
    refine (bk_X12_allSize_4 ..).trans ?_
    simp (disch := omega) only [mR, qD hr.1, rS hr, rE hr, rW hr, rKd hr, rFg hr, rIn hr, rBy hr, rTp hr, rSz hr, rCt hr, rCo hr, en_X12_ofS, en_X12_ofE, l_lit, nI_add, nI_mul, yi_b, yv_b, yl_b, if_true, if_false, or_true, true_or, or_false, false_or, and_true, true_and, and_false, false_and, not_true_eq_false, not_false_eq_true, Nat.reduceEqDiff, ↓reduceIte, nI_eq, nI_leI, nI_ltI, Nat.not_le.mpr hk, h6]
  · refine (bk_X12_allSize_4 ..).trans ?_
    simp (disch := omega) only [mR, qD hr.1, rS hr, rE hr, rW hr, rKd hr, rFg hr, rIn hr, rBy hr, rTp hr, rSz hr, rCt hr, rCo hr, en_X12_ofS, en_X12_ofE, l_lit, nI_add, nI_mul, yi_b, yv_b, yl_b, if_true, if_false, or_true, true_or, or_false, false_or, and_true, true_and, and_false, false_and, not_true_eq_false, not_false_eq_true, Nat.reduceEqDiff, ↓reduceIte, nI_eq, nI_leI, nI_ltI, Nat.le_refl]
    rfl
theorem api_count (hi : InvX A M I hI T c g) (w : Int32) : Api 127 227 [.int w] A g := by
  have hc := iC hi
  have hg := iG hi
  have e2 : ∀ k j, k < 1000 → j < 1000 → (nI k = nI j) = (k = j) := fun k j h1 h2 => propext (nI_eq (by omega) (by omega))
  by_cases hw : okI w 7 = true
  · obtain ⟨j, hj, rfl⟩ := okI_of (by omega) hw
    have : j = 0 ∨ j = 1 ∨ j = 2 ∨ j = 3 ∨ j = 4 ∨ j = 5 ∨ j = 6 := by omega
    rcases this with rfl | rfl | rfl | rfl | rfl | rfl | rfl
    · refine api_read hi (.int (nI (M 0 0))) ⟨_, ?_, Sc_r A⟩ (fun A1 hi => ⟨_, ?_, Sc_r A1⟩)
      · simp (disch := omega) only [en_X11_count, l_lit, ↓reduceIte, ↓xR, ↓cgI hc.1, cS hc]
      · have hr := iR hi
        simp (disch := omega) only [en_X12_count, l_lit, ↓reduceIte, ↓mR, ↓qD hr.1, rS hr]
    · refine api_read hi (.int (nI (M 0 1))) ⟨_, ?_, Sc_r A⟩ (fun A1 hi => ⟨_, ?_, Sc_r A1⟩)
      · simp (disch := omega) only [en_X11_count, l_lit, e2, Nat.one_ne_zero, ↓reduceIte, ↓xR, ↓cgI hc.1, cE hc]
      · have hr := iR hi
        simp (disch := omega) only [en_X12_count, l_lit, e2, Nat.one_ne_zero, ↓reduceIte, ↓mR, ↓qD hr.1, rE hr]
    · refine api_read hi (.int (nI (M 0 2))) ⟨_, ?_, Sc_r A⟩ (fun A1 hi => ⟨_, ?_, Sc_r A1⟩)
      · simp (disch := omega) only [en_X11_count, l_lit, e2, Nat.reduceEqDiff, ↓reduceIte, ↓xR, ↓cgI hc.1, cWk hc]
      · have hr := iR hi
        simp (disch := omega) only [en_X12_count, l_lit, e2, Nat.reduceEqDiff, ↓reduceIte, ↓mR, ↓qD hr.1, rW hr]
    · refine api_read hi (.int (nI (bts (M 3) (M 0 0)))) ⟨_, ?_, Sc_r A⟩ (fun A1 hi => ⟨_, ?_, Sc_r A1⟩)
      · simp (disch := omega) only [en_X11_count, l_lit, e2, Nat.reduceEqDiff, ↓reduceIte, ↓xR, ↓cgI hc.1, cIn hc]
      · have hr := iR hi
        simp (disch := omega) only [en_X12_count, l_lit, e2, Nat.reduceEqDiff, ↓reduceIte, X12_count_in _ hr hg]
    · refine api_read hi (.int (nI (bts (M 8) (M 0 1)))) ⟨_, ?_, Sc_r A⟩ (fun A1 hi => ⟨_, ?_, Sc_r A1⟩)
      · simp (disch := omega) only [en_X11_count, l_lit, e2, Nat.reduceEqDiff, ↓reduceIte, ↓xR, ↓cgI hc.1, cCo hc]
      · have hr := iR hi
        simp (disch := omega) only [en_X12_count, l_lit, e2, Nat.reduceEqDiff, ↓reduceIte, X12_count_co _ hr hg]
    · refine api_read hi (.int (nI (sizesN M))) ⟨_, ?_, Sc_r A⟩ (fun A1 hi => ⟨_, ?_, Sc_r A1⟩)
      · simp (disch := omega) only [en_X11_count, l_lit, e2, Nat.reduceEqDiff, ↓reduceIte, ↓xR, cV hc.1, X0_allSize_ok _ hc hg, yi_b]
      · have hr := iR hi
        simp (disch := omega) only [en_X12_count, l_lit, e2, Nat.reduceEqDiff, ↓reduceIte, mV, X12_allSize_ok _ hr hg, yi_b]
    · refine api_read hi (.int (nI (allN M))) ⟨_, ?_, Sc_r A⟩ (fun A1 hi => ⟨_, ?_, Sc_r A1⟩)
      · simp (disch := omega) only [en_X11_count, l_lit, e2, Nat.reduceEqDiff, ↓reduceIte, ↓xR, cV hc.1, X0_allMarks_ok _ hc hg, yi_b]
      · have hr := iR hi
        simp (disch := omega) only [en_X12_count, l_lit, e2, Nat.reduceEqDiff, ↓reduceIte, ↓mR, X12_allMarks_ok _ hr hg, yi_b]
  · have hw := okI_f hw
    have hk := ok_cases (by omega) hw
    refine api_read hi (.int (-nI 1)) ⟨_, ?_, Sc_r A⟩ (fun A1 hi => ⟨_, ?_, Sc_r A1⟩)
    · simp (disch := omega) only [en_X11_count, l_lit, hk, ↓reduceIte]
    · simp (disch := omega) only [en_X12_count, l_lit, hk, ↓reduceIte]
theorem api_mean (hi : InvX A M I hI T c g) (w : Int32) : Api 121 220 [.int w] A g := by
  have hc := iC hi
  have hg := iG hi
  have hE := gE hg
  have n10 : (nI 1 = nI 0) = False := eq_false (by decide +kernel)
  have hz : sizesN M ≤ M 0 1 * 99 := sm_le (fun k hk => by have := gEr hg hk; omega)
  by_cases hw : okI w 2 = true
  · obtain ⟨p, hp, rfl⟩ := okI_of (by omega) hw
    have hmx : (if nI 1 < nI (M 0 1) then nI (M 0 1) else nI 1) = nI (max 1 (M 0 1)) := nI_max 1 (M 0 1) (by omega) (by omega)
    have hfe : fpN (sizesN M) (max 1 (M 0 1)) p = fpN (sizesN M) (M 0 1) p := by
      by_cases h0 : M 0 1 = 0
      · have : sizesN M = 0 := by omega
        rw [this]
        rfl
      · rw [show max 1 (M 0 1) = M 0 1 by omega]
    refine api_read hi (.long (lN (fpN (sizesN M) (M 0 1) p))) ⟨_, ?_, Sc_r A⟩ (fun A1 hi => ⟨_, ?_, Sc_r A1⟩)
    · simp (disch := omega) only [en_X11_mean, X11_isPart_ok, hw, bI_t, yi_b, l_lit, n10, ↓reduceIte, ↓xR, cV hc.1, X0_allSize_ok _ hc hg, ↓cgI hc.1, cE hc, hmx]
      rw [nI_l (by omega), nI_l (by omega), X11_pof_ok (by omega) (by omega) (by omega) (by omega) hp, yl_b, hfe]
    · have hr := iR hi
      simp (disch := omega) only [en_X12_mean, X12_in0, Nat.reduceAdd, hw, bI_t, yi_b, l_lit, n10, ↓reduceIte, mV, X12_allSize_ok _ hr hg, ↓mR, ↓qD hr.1, rE hr]
      rw [nI_l (by omega), nI_l (by omega), X12_po_ok (by omega) (by omega) (by omega) (by omega) hp, yl_b]
  · have hw := okI_f hw
    refine api_read hi (.long 1000000001) ⟨_, ?_, Sc_r A⟩ (fun A1 hi => ⟨_, ?_, Sc_r A1⟩)
    · simp (disch := omega) only [en_X11_mean, X11_isPart_ok, hw, bI_f, yi_b, yl_b, l_lit, ↓reduceIte, en_X11_asLong, asL2]
    · rw [en_X12_mean]
      simp (disch := omega) only [l_lit, X12_in0, Nat.reduceAdd, hw, bI_f, yi_b, ↓reduceIte]
def fgN (M : Mt) (f : Nat → Int32) (k : Nat) : Bool := !(decide (k < M 0 1) && decide (nI (M 6 k) = f k))
theorem api_forged (hi : InvX A M I hI T c g) (x : Int32) : Api 122 221 [.int x] A g := by
  refine api_row hi (en_X11_forged ..) (fun A => en_X12_forged ..) (fun k hx hk h2 => ?_)
  subst hx
  have hc := iC hi
  have hg := iG hi
  have hE := gE hg
  have hz : rfI T 2 k = nI 0 := (rfI_0 (by omega)).mpr h2
  refine api_read hi (.int (ocd (fst (fgN M (c k)) (T k 4)))) ⟨_, ?_, Sc_r A⟩ (fun A1 hi => ⟨_, ?_, Sc_r A1⟩)
  · obtain ⟨l1, l2, l3, l4, l5, l6⟩ := sh_len (iT hi) hk h2
    rw [en_X11_forged, xV, X11_row_ok (by omega) (iT hi) hk, hz, yi_b]
    simp (disch := omega) only [l_lit, ↓reduceIte, ↓xR, ↓sh_row hk]
    refine (for_ret (fun j => yb_X11_forged (ycall 19) (22, [some (.ref 1), none, none, some (.ref (60 + 2 * k)), some (.int (nI j))], [], A)) (fun j => some (some (.int (nI j)), A)) (fgN M (c k)) (T k 4) (fun j hj => ?_)).trans ?_
    · have e1 := (sh_el (iT hi) hk h2 hj).1
      refine (bk_X11_forged_22 ..).trans ?_
      simp (disch := omega) only [↓sh_I hk, l2, l_lit, nI_leI, Nat.not_le.mpr hj, ↓reduceIte, ↓xR, cV hc.1, X0_hasError_ok _ hc, okI_nI, yi_b]
      unfold fgN
      by_cases hje : j < M 0 1
      · have h1 := gEr hg hje
        rw [decide_eq_true hje]
        simp (disch := omega) only [bI_t, nI_eq, Nat.one_ne_zero, ↓reduceIte, ↓xR, cR hc.1, cD12 hc.1, cSz hc, ↓sh_R hk, ↓sh_rd hk, e1, nI_add, Bool.true_and, Bool.not_eq_true', decide_eq_false_iff_not]
        by_cases hq : nI (M 6 j) = c k j
        · rw [if_pos hq, if_neg (fun z => z hq)]
        · rw [if_neg hq, if_pos hq]
      · rw [decide_eq_false hje]
        simp (disch := omega) only [bI_f, ↓reduceIte, Bool.false_and, Bool.not_false]
    · cases hf : fst (fgN M (c k)) (T k 4) with
      | some i => rfl
      | none =>
        refine (bk_X11_forged_22 ..).trans ?_
        simp (disch := omega) only [↓sh_I hk, l2, l_lit, nI_leI, Nat.le_refl, ↓reduceIte]
        rfl
  · have hr := iR hi
    obtain ⟨l1, l2, l3, l4, l5, l6⟩ := sh_len (iT hi) hk h2
    have hrow := X12_row_ok (n := 19) (by omega) (iT hi) hk
    rw [en_X12_forged, mV, show (-1 : Int32) = -nI 1 from rfl, hrow, hz, yi_b]
    simp (disch := omega) only [l_lit, ↓reduceIte]
    refine (for_ret (fun j => yb_X12_forged (ycall 19) (15, [some (.ref 79), some (.int (nI k)), none, some (.int (nI j))], [], A1)) (fun j => some (some (.int (nI j)), A1)) (fgN M (c k)) (T k 4) (fun j hj => ?_)).trans ?_
    · have e1 := (sh_el (iT hi) hk h2 hj).2
      refine (bk_X12_forged_15 ..).trans ?_
      simp (disch := omega) only [↓mR, ↓m8r, l3, l_lit, nI_leI, Nat.not_le.mpr hj, ↓reduceIte, mV, X12_isError_ok _ hr hg, okI_nI, yi_b]
      unfold fgN
      by_cases hje : j < M 0 1
      · have h1 := gEr hg hje
        rw [decide_eq_true hje]
        simp (disch := omega) only [bI_t, nI_eq, Nat.one_ne_zero, ↓reduceIte, ↓mR, nI_mul, nI_add, ↓m91r, e1, en_X12_ofE, yi_b, ↓qD hr.1, rSz hr, l_lit, Bool.true_and, Bool.not_eq_true', decide_eq_false_iff_not]
        by_cases hq : nI (M 6 j) = c k j
        · rw [if_pos hq.symm, if_neg (fun z => z hq)]
        · rw [if_neg (fun z => hq z.symm), if_pos hq]
      · rw [decide_eq_false hje]
        simp (disch := omega) only [bI_f, ↓reduceIte, Bool.false_and, Bool.not_false]
    · cases hf : fst (fgN M (c k)) (T k 4) with
      | some i => rfl
      | none =>
        refine (bk_X12_forged_15 ..).trans ?_
        simp (disch := omega) only [↓mR, ↓m8r, l3, l_lit, nI_leI, Nat.le_refl, ↓reduceIte]
        rfl
end B8
