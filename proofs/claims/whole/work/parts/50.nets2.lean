section A9
variable {A : yM} {M I : Mt} {hI : Nat} {T : Nat → Nat → Nat} {c : Nat → Nat → Int32} {g : Nat} {n : Nat}
theorem cnt_s (E i : Nat) : (nI E - nI (i + 1)) + (-nI 1) = nI E - nI (i + 1 + 1) := by
  rw [← nI_add (i + 1) 1, ← Int32.sub_eq_add_neg, Int32.sub_sub]
theorem asL2 : (1000000000 : Int64) - (-nI 1 : Int32).toInt64 = 1000000001 := by decide +kernel
theorem X0_tellWorths_ok (hn : 2 ≤ n) (hc : Col A 2 M) (hg : Good M) : ycall n 28 [.ref 2, .ref 76] A = some (none, yro A 76 (M 0 1) (fun e => nI (wN M 2048 e))) := by
  obtain ⟨n, rfl⟩ := Nat.exists_eq_add_of_le' hn
  have hE := gE hg
  rw [en_X0_tellWorths]
  have w76 : ∀ (A : yM) (k : Nat) (v : Int32) (K : yM → Option yR), k < 12 → ywr A 76 (nI k) v K = K (yup A 76 k v) := fun A k v K h => ywr_at (n := 12) rfl (by omega) h
  have r76 : ∀ (A : yM) (k : Nat) (K : Int32 → Option yR), k < 12 → yrd A 76 (nI k) K = K (A 76 k) := fun A k K h => yrd_at (n := 12) rfl (by omega) h
  have h0 := for_up (fun k => yb_X0_tellWorths (ycall (n + 1)) (2, [some (.ref 2), some (.ref 76), some (.int (nI k))], [], yro A 76 k (fun _ => nI 2048))) (M 0 1) (fun k hk => by
    have hc' : Col (yro A 76 k (fun _ => nI 2048)) 2 M := Col_ro hc (by omega)
    refine (bk_X0_tellWorths_2 ..).trans ?_
    simp (disch := omega) only [cgI hc.1, cE hc', l_lit, nI_add, nI_mul, yi_b, yv_b, yl_b, if_true, if_false, or_true, true_or, or_false, false_or, and_true, true_and, and_false, false_and, not_true_eq_false, not_false_eq_true, Nat.reduceEqDiff, ↓reduceIte, nI_leI, Nat.not_le.mpr hk, w76]
    rw [yup_grow (f := fun _ => nI 2048) (g := fun _ => nI 2048) (fun _ _ => rfl)])
  rw [yro_0] at h0
  refine h0.trans ?_
  have hcS : Col (yro A 76 (M 0 1) (fun _ => nI 2048)) 2 M := Col_ro hc (by omega)
  refine (bk_X0_tellWorths_2 ..).trans ?_
  simp (disch := omega) only [cgI hc.1, cE hcS, l_lit, nI_leI, Nat.le_refl, if_true]
  refine (for_up (fun i => yb_X0_tellWorths (ycall (n + 1)) (29, [some (.ref 2), some (.ref 76), some (.int (nI (M 0 1) - nI (i + 1)))], [], yro A 76 (M 0 1) (fun e => nI (wT M 2048 i e)))) (M 0 1) (fun i hi => ?_)).trans ?_
  · have hk : M 0 1 - 1 - i < M 0 1 := by omega
    have h1 := gEr hg hk
    have hc' : Col (yro A 76 (M 0 1) (fun e => nI (wT M 2048 i e))) 2 M := Col_ro hc (by omega)
    have hcn := cnt_s (M 0 1) i
    have hv : nI (M 0 1) - nI (i + 1) = nI (M 0 1 - 1 - i) := by
      rw [nI_sub (by omega)]
      exact congrArg nI (by omega)
    refine (bk_X0_tellWorths_29 ..).trans ?_
    simp only [l_lit, hcn]
    rw [hv]
    by_cases h3 : M 7 (M 0 1 - 1 - i) < M 0 1 - 1 - i
    · have b1 := wT_le2 hg (show i ≤ M 0 1 by omega) (M 7 (M 0 1 - 1 - i))
      have b2 := wT_le2 hg (show i ≤ M 0 1 by omega) (M 0 1 - 1 - i)
      simp (disch := omega) only [nI_ltI, Nat.not_lt_zero, if_false, cR hc.1, cD12 hc.1, cCt hc', cV hc.1, X0_hasError_ok _ hc', bI_ct hg hk, yi_b, not_true_eq_false, h3, r76, w76, yro_at, nI_eq, Nat.reduceEqDiff, nI_div, nI_add]
      rw [yup_yro (by omega) (fun j hj => ?_)]
      show _ = nI (if _ then _ else _)
      by_cases hj2 : j = M 7 (M 0 1 - 1 - i)
      · rw [if_pos hj2, if_pos ⟨h3, hj2⟩, hj2]
      · rw [if_neg hj2, if_neg (fun q => hj2 q.2)]
    · simp (disch := omega) only [nI_ltI, Nat.not_lt_zero, if_false, cR hc.1, cD12 hc.1, cCt hc', cV hc.1, X0_hasError_ok _ hc', bI_ct hg hk, yi_b, not_false_eq_true, h3, if_true]
      congr 5
      funext j
      show _ = nI (if _ then _ else _)
      rw [if_neg (fun q => h3 q.1)]
  · have hneg : nI (M 0 1) - nI (M 0 1 + 1) < 0 := pk_sneg (by omega) (by omega)
    refine (bk_X0_tellWorths_29 ..).trans ?_
    rw [if_pos hneg]
    rfl
theorem X12_worthOf_ok (hr : Row A 80 M) (hg : Good M) : ∀ (j e n : Nat), e + j = M 0 1 → e < M 0 1 → j + 2 ≤ n → ycall n 192 [.ref 79, .int (nI e)] A = some (some (.long (lN (wN M 4096 e))), A) := by
  intro j
  induction j using Nat.strongRecOn with
  | ind j ih =>
    intro e n hej he hn
    obtain ⟨n, rfl⟩ : ∃ m, n = m + 2 := ⟨n - 2, by omega⟩
    have hE := gE hg
    rw [en_X12_worthOf]
    have z0 : ∀ k, k ≤ e + 1 → sm (fun k => if M 7 k = e then wN M 4096 k / 2 else 0) k = 0 := by
      intro k
      induction k with
      | zero => intro _; rfl
      | succ k ihk =>
        intro h
        have h1 := gEr hg (show k < M 0 1 by omega)
        show sm _ k + (if M 7 k = e then wN M 4096 k / 2 else 0) = 0
        rw [ihk (by omega), if_neg (by omega)]
    obtain ⟨d, hd⟩ : ∃ d, M 0 1 = e + 1 + d := ⟨M 0 1 - (e + 1), by omega⟩
    have hX := for_up (fun k => yb_X12_worthOf (ycall (n + 1)) (9, [some (.ref 79), some (.int (nI e)), some (.long (lN (4096 + sm (fun k => if M 7 k = e then wN M 4096 k / 2 else 0) (e + 1 + k)))), none, some (.int (nI (e + 1 + k)))], [], A)) d (fun k hk => by
      have hl : e + 1 + k < M 0 1 := by omega
      have h1 := gEr hg hl
      have e1 : sm (fun k => if M 7 k = e then wN M 4096 k / 2 else 0) (e + 1 + (k + 1)) = sm (fun k => if M 7 k = e then wN M 4096 k / 2 else 0) (e + 1 + k) + (if M 7 (e + 1 + k) = e then wN M 4096 (e + 1 + k) / 2 else 0) := rfl
      refine (bk_X12_worthOf_9 ..).trans ?_
      rw [e1, ← Nat.add_assoc 4096, show e + 1 + (k + 1) = e + 1 + k + 1 by omega]
      have hw := wN_le hg (u := 4096) (Nat.le_refl _) (e + 1 + k)
      by_cases hq : M 7 (e + 1 + k) = e
      · have hrec := ih (M 0 1 - (e + 1 + k)) (by omega) (e + 1 + k) (n + 1) (by omega) hl (by omega)
        simp (disch := omega) only [mR, mV, qD hr.1, rS hr, rE hr, rW hr, rKd hr, rFg hr, rIn hr, rBy hr, rTp hr, rSz hr, rCt hr, rCo hr, en_X12_ofS, en_X12_ofE, l_lit, ll_lit, yi_b, yl_b, nI_add, nI_mul, nI_leI, nI_eq, Nat.not_le.mpr hl, if_false, hq, if_true, hrec, pk_lEQ, Nat.reduceEqDiff, pk_lDiv, lN_add]
      · simp (disch := omega) only [mR, mV, qD hr.1, rS hr, rE hr, rW hr, rKd hr, rFg hr, rIn hr, rBy hr, rTp hr, rSz hr, rCt hr, rCo hr, en_X12_ofS, en_X12_ofE, l_lit, ll_lit, yi_b, nI_add, nI_mul, nI_leI, nI_eq, Nat.not_le.mpr hl, if_false, hq, lN_add, Nat.add_zero])
    rw [Nat.add_zero, z0 _ (Nat.le_refl _)] at hX
    simp only [l_lit, ll_lit, nI_add]
    refine hX.trans ?_
    rw [← hd]
    refine (bk_X12_worthOf_9 ..).trans ?_
    simp (disch := omega) only [mR, mV, qD hr.1, rS hr, rE hr, rW hr, rKd hr, rFg hr, rIn hr, rBy hr, rTp hr, rSz hr, rCt hr, rCo hr, en_X12_ofS, en_X12_ofE, l_lit, nI_leI, Nat.le_refl, if_true]
    rw [wN_eq hg 4096 e he]
theorem api_worth (hi : InvX A M I hI T c g) (s w : Int32) : Api 93 195 [.int s, .int w] A g := by
  have hc := iC hi
  have hg := iG hi
  have hE := gE hg
  by_cases hs : okI s (M 0 1) = true
  · obtain ⟨e, he, rfl⟩ := okI_of (by omega) hs
    by_cases hw : okI w 2 = true
    · obtain ⟨p, hp, rfl⟩ := okI_of (by omega) hw
      have b1 := wN_le hg (u := 2048) (by omega) e
      have h2 : wN M 4096 e = 2 * wN M 2048 e := wT_two hE (M 0 1) e (Nat.le_refl _)
      refine api_read hi (.long (lN (fpN (wN M 2048 e) 2048 p))) ⟨yro A 76 (M 0 1) (fun e => nI (wN M 2048 e)), ?_, Sc_ro (by unfold scr; omega) (by omega)⟩ (fun A1 hi => ⟨_, ?_, Sc_r A1⟩)
      · have r76 : ∀ (A : yM) (k : Nat) (K : Int32 → Option yR), k < 12 → yrd A 76 (nI k) K = K (A 76 k) := fun A k K h => yrd_at (n := 12) rfl (by omega) h
        simp (disch := omega) only [en_X11_worth, xR, cV hc.1, X0_hasError_ok _ hc, hs, bI_t, yi_b, yv_b, yl_b, l_lit, ll_lit, nI_eq, Nat.one_ne_zero, if_false, X11_isPart_ok, hw, X0_tellWorths_ok _ hc hg, r76, yro_at, nI_l, X11_pof_ok]
      · have hr := iR hi
        simp (disch := omega) only [en_X12_worth, mV, X12_isError_ok _ hr hg, X12_in0, Nat.reduceAdd, hs, hw, bI_t, yi_b, yl_b, l_lit, ll_lit, nI_eq, Nat.one_ne_zero, if_false, X12_worthOf_ok hr hg (M 0 1 - e) e _ (show e + (M 0 1 - e) = M 0 1 by omega) he, h2]
        rw [X12_po_ok (by omega) (by omega) (by omega) (Or.inr (by omega)) hp, yl_b, show 4096 = 2 * 2048 by rfl, fpN_two]
    · have hw := okI_f hw
      refine api_read hi (.long 1000000001) ⟨_, ?_, Sc_r A⟩ (fun A1 hi => ⟨_, ?_, Sc_r A1⟩)
      · simp (disch := omega) only [en_X11_worth, xR, cV hc.1, X0_hasError_ok _ hc, hs, bI_t, bI_f, yi_b, yl_b, l_lit, nI_eq, Nat.one_ne_zero, if_true, if_false, X11_isPart_ok, hw, en_X11_asLong, asL2]
      · have hr := iR hi
        simp (disch := omega) only [en_X12_worth, mV, X12_isError_ok _ hr hg, X12_in0, Nat.reduceAdd, hs, hw, bI_t, bI_f, yi_b, l_lit, nI_eq (a := 1), nI_eq (a := 0), Nat.one_ne_zero, if_false, if_true]
  · have hs := okI_f hs
    refine api_read hi (.long 1000000001) ⟨_, ?_, Sc_r A⟩ (fun A1 hi => ⟨_, ?_, Sc_r A1⟩)
    · simp (disch := omega) only [en_X11_worth, xR, cV hc.1, X0_hasError_ok _ hc, hs, bI_f, yi_b, yl_b, l_lit, nI_eq, if_true, en_X11_asLong, asL2]
    · have hr := iR hi
      rw [en_X12_worth, mV, X12_isError_ok (by omega) hr hg, yi_b, hs, bI_f]
      exact if_pos rfl
theorem X12_dearest_ok (hn : 16 ≤ n) (hr : Row A 80 M) (hg : Good M) : ycall n 196 [.ref 79] A = some (some (.int (ocd (bst (wN M 4096) (M 0 1)))), A) := by
  obtain ⟨n, rfl⟩ := Nat.exists_eq_add_of_le' hn
  have hE := gE hg
  have wo : ∀ e, e < M 0 1 → ycall (n + 15) 192 [.ref 79, .int (nI e)] A = some (some (.long (lN (wN M 4096 e))), A) := fun e he => X12_worthOf_ok hr hg (M 0 1 - e) e (n + 15) (by omega) he (by omega)
  rw [en_X12_dearest]
  refine (for_up (fun k => yb_X12_dearest (ycall (n + 15)) (5, [some (.ref 79), some (.int (ocd (bst (wN M 4096) k))), some (.int (nI k))], [], A)) (M 0 1) (fun k hk => ?_)).trans ?_
  · have h1 := wN_le hg (u := 4096) (Nat.le_refl _) k
    refine (bk_X12_dearest_5 ..).trans ?_
    rw [bst_s]
    cases hb : bst (wN M 4096) k with
    | none =>
      simp (disch := omega) only [mR, mV, qD hr.1, rS hr, rE hr, rW hr, rKd hr, rFg hr, rIn hr, rBy hr, rTp hr, rSz hr, rCt hr, rCo hr, en_X12_ofS, en_X12_ofE, l_lit, nI_add, nI_mul, yi_b, yv_b, yl_b, if_true, if_false, or_true, true_or, or_false, false_or, and_true, true_and, and_false, false_and, not_true_eq_false, not_false_eq_true, Nat.reduceEqDiff, ↓reduceIte, nI_leI, Nat.not_le.mpr hk, ocd, neg4]
    | some i =>
      have hi := bst_lt hb
      have h2 := wN_le hg (u := 4096) (Nat.le_refl _) i
      simp (disch := omega) only [mR, mV, qD hr.1, rS hr, rE hr, rW hr, rKd hr, rFg hr, rIn hr, rBy hr, rTp hr, rSz hr, rCt hr, rCo hr, en_X12_ofS, en_X12_ofE, l_lit, nI_add, nI_mul, yi_b, yv_b, yl_b, if_true, if_false, or_true, true_or, or_false, false_or, and_true, true_and, and_false, false_and, not_true_eq_false, not_false_eq_true, Nat.reduceEqDiff, ↓reduceIte, nI_leI, nI_ltI, Nat.not_lt_zero, Nat.not_le.mpr hk, ocd, wo k hk, wo i (by omega), lgc_le]
      by_cases h : wN M 4096 i < wN M 4096 k
      · rw [if_neg (Nat.not_le.mpr h), if_pos h]
      · rw [if_pos (Nat.not_lt.mp h), if_neg h]
  · refine (bk_X12_dearest_5 ..).trans ?_
    simp (disch := omega) only [mR, mV, qD hr.1, rS hr, rE hr, rW hr, rKd hr, rFg hr, rIn hr, rBy hr, rTp hr, rSz hr, rCt hr, rCo hr, en_X12_ofS, en_X12_ofE, l_lit, nI_add, nI_mul, yi_b, yv_b, yl_b, if_true, if_false, or_true, true_or, or_false, false_or, and_true, true_and, and_false, false_and, not_true_eq_false, not_false_eq_true, Nat.reduceEqDiff, ↓reduceIte, nI_leI, Nat.le_refl]
theorem bst_two {f h : Nat → Nat} : ∀ {n : Nat}, (∀ k, k < n → h k = 2 * f k) → bst h n = bst f n := by
  intro n
  induction n with
  | zero => intro _; rfl
  | succ n ih =>
    intro hh
    rw [bst_s, bst_s, ih (fun k hk => hh k (by omega))]
    cases hb : bst f n with
    | none => rfl
    | some q =>
      have := bst_lt hb
      dsimp only
      rw [hh q (by omega), hh n (by omega)]
      by_cases hc : f q < f n
      · rw [if_pos hc, if_pos (by omega)]
      · rw [if_neg hc, if_neg (by omega)]
theorem api_nets (hi : InvX A M I hI T c g) (w : Int32) : Api 94 199 [.int w] A g := by
  have hc := iC hi
  have hg := iG hi
  have hE := gE hg
  by_cases hw : okI w 4 = true
  · obtain ⟨j, hj, rfl⟩ := okI_of (by omega) hw
    have : j = 0 ∨ j = 1 ∨ j = 2 ∨ j = 3 := by omega
    rcases this with rfl | rfl | rfl | rfl
    · refine api_read hi (.int (ocd (bst (wN M 2048) (M 0 1)))) ⟨yro A 76 (M 0 1) (fun e => nI (wN M 2048 e)), ?_, Sc_ro (by unfold scr; omega) (by omega)⟩ (fun A1 hi => ⟨_, ?_, Sc_r A1⟩)
      · have hc' : Col (yro A 76 (M 0 1) (fun e => nI (wN M 2048 e))) 2 M := Col_ro hc (by omega)
        have fm := X11_firstOfMost_ok (n := 18) (A := yro A 76 (M 0 1) (fun e => nI (wN M 2048 e))) (a := 76) (L := 12) (c := M 0 1) (f := wN M 2048) (by omega) rfl (by omega) hE (fun i hi => ⟨yro_at hi, by have := wN_le hg (u := 2048) (by omega) i; omega⟩)
        simp (disch := omega) only [en_X11_nets, xV, en_X11_dearest, xR, cV hc.1, cgI hc.1, cE hc', X0_tellWorths_ok _ hc hg, l_lit, nI_add, nI_mul, yi_b, yv_b, yl_b, if_true, if_false, or_true, true_or, or_false, false_or, and_true, true_and, and_false, false_and, not_true_eq_false, not_false_eq_true, Nat.reduceEqDiff, ↓reduceIte, nI_eq, nI_leI, nI_ltI, fm]
      · have hr := iR hi
        have h2 : ∀ k, k < M 0 1 → wN M 4096 k = 2 * wN M 2048 k := fun k _ => wT_two hE (M 0 1) k (Nat.le_refl _)
        simp (disch := omega) only [en_X12_nets, mV, X12_dearest_ok _ hr hg, l_lit, nI_add, nI_mul, yi_b, yv_b, yl_b, if_true, if_false, or_true, true_or, or_false, false_or, and_true, true_and, and_false, false_and, not_true_eq_false, not_false_eq_true, Nat.reduceEqDiff, ↓reduceIte, nI_eq, nI_leI, nI_ltI]
        rw [bst_two h2]
    · refine api_read hi (.int (nI (mxN (dpN M) (M 0 1)))) ⟨_, ?_, Sc_r A⟩ (fun A1 hi => ⟨_, ?_, Sc_r A1⟩)
      · simp (disch := omega) only [en_X11_nets, xV, X11_longest_ok _ hc hg, l_lit, nI_add, nI_mul, yi_b, yv_b, yl_b, if_true, if_false, or_true, true_or, or_false, false_or, and_true, true_and, and_false, false_and, not_true_eq_false, not_false_eq_true, Nat.reduceEqDiff, ↓reduceIte, nI_eq, nI_leI, nI_ltI, Nat.one_ne_zero]
      · have hr := iR hi
        by_cases h0 : M 0 1 = 0
        · simp (disch := omega) only [en_X12_nets, mV, mR, mV, qD hr.1, rS hr, rE hr, rW hr, rKd hr, rFg hr, rIn hr, rBy hr, rTp hr, rSz hr, rCt hr, rCo hr, en_X12_ofS, en_X12_ofE, h0, l_lit, nI_add, nI_mul, yi_b, yv_b, yl_b, if_true, if_false, or_true, true_or, or_false, false_or, and_true, true_and, and_false, false_and, not_true_eq_false, not_false_eq_true, Nat.reduceEqDiff, ↓reduceIte, nI_eq, nI_leI, nI_ltI, Nat.one_ne_zero]
          rfl
        · obtain ⟨q, hq⟩ := bst_some (dpN M) (M 0 1 - 1)
          rw [show M 0 1 - 1 + 1 = M 0 1 by omega] at hq
          have hq2 := bst_lt hq
          have hq3 := (bst_mx hq).1
          simp (disch := omega) only [en_X12_nets, mV, mR, mV, qD hr.1, rS hr, rE hr, rW hr, rKd hr, rFg hr, rIn hr, rBy hr, rTp hr, rSz hr, rCt hr, rCo hr, en_X12_ofS, en_X12_ofE, h0, l_lit, nI_add, nI_mul, yi_b, yv_b, yl_b, if_true, if_false, or_true, true_or, or_false, false_or, and_true, true_and, and_false, false_and, not_true_eq_false, not_false_eq_true, Nat.reduceEqDiff, ↓reduceIte, nI_eq, nI_leI, nI_ltI, Nat.one_ne_zero, X12_deepest_ok _ hr hg, hq, ocd, X12_depthOf_ok _ hr hg hq2, hq3]
    · refine api_read hi (.int (ocd (bst (dpN M) (M 0 1)))) ⟨_, ?_, Sc_r A⟩ (fun A1 hi => ⟨_, ?_, Sc_r A1⟩)
      · have hm : mxN (dpN M) (M 0 1) ≤ 20 := fo_inv (fun m => m ≤ 20) (by omega) (fun e m he hm => by have := dpN_le M (e + 1) e (by omega); show max m (dpN M e) ≤ 20; omega)
        simp (disch := omega) only [en_X11_nets, xV, xR, cV hc.1, X11_longest_ok _ hc hg, X0_firstOfDepth_ok _ hc hg, l_lit, nI_add, nI_mul, yi_b, yv_b, yl_b, if_true, if_false, or_true, true_or, or_false, false_or, and_true, true_and, and_false, false_and, not_true_eq_false, not_false_eq_true, Nat.reduceEqDiff, ↓reduceIte, nI_eq, nI_leI, nI_ltI]
        rw [bst_fst]
      · have hr := iR hi
        simp (disch := omega) only [en_X12_nets, mV, X12_deepest_ok _ hr hg, l_lit, nI_add, nI_mul, yi_b, yv_b, yl_b, if_true, if_false, or_true, true_or, or_false, false_or, and_true, true_and, and_false, false_and, not_true_eq_false, not_false_eq_true, Nat.reduceEqDiff, ↓reduceIte, nI_eq, nI_leI, nI_ltI]
    · refine api_read hi (.int (nI (bts (fun e => if citN M e = 0 ∧ M 7 e = 99 then 1 else 0) (M 0 1)))) ⟨_, ?_, Sc_r A⟩ (fun A1 hi => ⟨_, ?_, Sc_r A1⟩)
      · simp (disch := omega) only [en_X11_nets, xR, cV hc.1, X0_aloneOnes_ok _ hc hg, l_lit, nI_add, nI_mul, yi_b, yv_b, yl_b, if_true, if_false, or_true, true_or, or_false, false_or, and_true, true_and, and_false, false_and, not_true_eq_false, not_false_eq_true, Nat.reduceEqDiff, ↓reduceIte, nI_eq, nI_leI, nI_ltI]
      · have hr := iR hi
        simp (disch := omega) only [en_X12_nets, mV, X12_alone_ok _ hr hg, l_lit, nI_add, nI_mul, yi_b, yv_b, yl_b, if_true, if_false, or_true, true_or, or_false, false_or, and_true, true_and, and_false, false_and, not_true_eq_false, not_false_eq_true, Nat.reduceEqDiff, ↓reduceIte, nI_eq, nI_leI, nI_ltI]
  · have hw := okI_f hw
    have hk := ok_cases (by omega) hw
    refine api_read hi (.int (-1)) ⟨_, ?_, Sc_r A⟩ (fun A1 hi => ⟨_, ?_, Sc_r A1⟩)
    · rw [en_X11_nets]
      simp (disch := omega) only [l_lit, ↓reduceIte, if_false, hk]
    · rw [en_X12_nets]
      simp (disch := omega) only [l_lit, ↓reduceIte, if_false, hk]
end A9
