/-! topics, votes, slips -/
theorem bsf_bst {f : Nat → Nat} : ∀ (n : Nat), (bsf (fun t => decide (f t ≠ 0)) f n = none ∧ ∀ i, i < n → f i = 0) ∨ ∃ q, bsf (fun t => decide (f t ≠ 0)) f n = some q ∧ bst f n = some q ∧ f q ≠ 0 := by
  intro n
  induction n with
  | zero => exact Or.inl ⟨rfl, fun i hi => by omega⟩
  | succ n ih =>
    rcases ih with ⟨h1, h2⟩ | ⟨q, h1, h2, h3⟩
    · by_cases h0 : f n = 0
      · refine Or.inl ⟨?_, fun i hi => ?_⟩
        · rw [bsf_s, h1]; simp [h0]
        · by_cases hin : i = n
          · subst hin; exact h0
          · exact h2 i (by omega)
      · refine Or.inr ⟨n, ?_, ?_, h0⟩
        · rw [bsf_s, h1]; simp [h0]
        · rw [bst_s]
          cases hb : bst f n with
          | none => rfl
          | some r =>
            have := h2 r (bst_lt hb)
            show (if f r < f n then some n else some r) = some n
            rw [if_pos (by omega)]
    · right
      by_cases h0 : f n = 0
      · refine ⟨q, ?_, ?_, h3⟩
        · rw [bsf_s, h1]; simp [h0]
        · rw [bst_s, h2]
          show (if f q < f n then some n else some q) = some q
          rw [if_neg (by omega)]
      · by_cases h4 : f q < f n
        · refine ⟨n, ?_, ?_, h0⟩
          · rw [bsf_s, h1]; simp [h0, h4]
          · rw [bst_s, h2]; simp [h4]
        · refine ⟨q, ?_, ?_, h3⟩
          · rw [bsf_s, h1]; simp [h4]
          · rw [bst_s, h2]; simp [h4]
def tpN (M : Mt) (k t : Nat) : Nat := sm (fun e => if M 5 e = t then 1 else 0) k
def b01 (x : Nat) : Nat := if x = 0 then 0 else 1
theorem b01_2 (x : Nat) : b01 x < 2 := by unfold b01; split <;> omega
theorem bts_z {f : Nat → Nat} {n : Nat} (h : ∀ k, k < n → f k = 0) : bts f n = 0 := by
  have := sm_le (f := fun k => f k * 2 ^ k) (c := 0) (n := n) (fun k hk => by rw [h k hk]; simp)
  unfold bts
  omega
theorem bts_nz {f : Nat → Nat} {n q : Nat} (h : ∀ k, k < n → f k < 2) (hq : q < n) (hf : f q ≠ 0) : bts f n ≠ 0 := by
  intro h0
  have := bts_bit h hq
  rw [h0] at this
  simp at this
  omega
section B1
variable {A : yM} {M I : Mt} {hI : Nat} {T : Nat → Nat → Nat} {c : Nat → Nat → Int32} {g : Nat} {n q : Nat}
theorem X12_errorsIn_ok (hn : 2 ≤ n) (hr : Row A 80 M) (hg : Good M) {t : Nat} (ht : t < 1000) : ycall n 200 [.ref 79, .int (nI t)] A = some (some (.int (nI (tpN M (M 0 1) t))), A) := by
  obtain ⟨n, rfl⟩ := Nat.exists_eq_add_of_le' hn
  have hE := gE hg
  rw [en_X12_errorsIn]
  refine (for_up (fun k => yb_X12_errorsIn (ycall (n + 1)) (4, [some (.ref 79), some (.int (nI t)), some (.int (nI (tpN M k t))), some (.int (nI k))], [], A)) (M 0 1) (fun k hk => ?_)).trans ?_
  · have h1 := gEr hg hk
    have h6 : tpN M (k + 1) t = tpN M k t + (if M 5 k = t then 1 else 0) := rfl
    refine (bk_X12_errorsIn_4 ..).trans ?_
    simp (disch := omega) only [mR, mV, qD hr.1, rS hr, rE hr, rW hr, rKd hr, rFg hr, rIn hr, rBy hr, rTp hr, rSz hr, rCt hr, rCo hr, en_X12_ofS, en_X12_ofE, l_lit, nI_add, nI_mul, yi_b, yv_b, yl_b, if_true, if_false, or_true, true_or, or_false, false_or, and_true, true_and, and_false, false_and, not_true_eq_false, not_false_eq_true, Nat.reduceEqDiff, ↓reduceIte, nI_eq, nI_leI, nI_ltI, Nat.not_le.mpr hk, h6]
    by_cases h : M 5 k = t
    · rw [if_pos h, if_pos h]
    · rw [if_neg h, if_neg h, Nat.add_zero]
  · refine (bk_X12_errorsIn_4 ..).trans ?_
    simp (disch := omega) only [mR, mV, qD hr.1, rS hr, rE hr, rW hr, rKd hr, rFg hr, rIn hr, rBy hr, rTp hr, rSz hr, rCt hr, rCo hr, en_X12_ofS, en_X12_ofE, l_lit, nI_add, nI_mul, yi_b, yv_b, yl_b, if_true, if_false, or_true, true_or, or_false, false_or, and_true, true_and, and_false, false_and, not_true_eq_false, not_false_eq_true, Nat.reduceEqDiff, ↓reduceIte, nI_eq, nI_leI, nI_ltI, Nat.le_refl]
theorem tpN_le (M : Mt) (k t : Nat) : tpN M k t ≤ k := by
  have := sm_le (f := fun e => if M 5 e = t then 1 else 0) (c := 1) (n := k) (fun e _ => by split <;> omega)
  unfold tpN
  omega
theorem X11_topics_mid (hn : 2 ≤ n) (hc : Col A 2 M) (hg : Good M) (w : Int32) : yb_X11_topics (ycall n) (13, [some (.ref 1), some (.int w), some (.int (nI 0)), none], [], A) = yb_X11_topics (ycall n) (36, [some (.ref 1), some (.int w), some (.int (nI (bts (fun t => b01 (tpN M (M 0 1) t)) 6))), some (.int (nI (M 0 1)))], [], yro A 76 6 (fun t => nI (tpN M (M 0 1) t))) := by
  have hE := gE hg
  have w76 : ∀ (A : yM) (k : Nat) (v : Int32) (K : yM → Option yR), k < 12 → ywr A 76 (nI k) v K = K (yup A 76 k v) := fun A k v K h => ywr_at (n := 12) rfl (by omega) h
  have r76 : ∀ (A : yM) (k : Nat) (K : Int32 → Option yR), k < 12 → yrd A 76 (nI k) K = K (A 76 k) := fun A k K h => yrd_at (n := 12) rfl (by omega) h
  have h0 := for_up (fun k => yb_X11_topics (ycall n) (13, [some (.ref 1), some (.int w), some (.int (nI k)), none], [], yro A 76 k (fun _ => nI 0))) 6 (fun k hk => by
    refine (bk_X11_topics_13 ..).trans ?_
    simp (disch := omega) only [xR, l_lit, nI_add, nI_mul, yi_b, yv_b, yl_b, if_true, if_false, or_true, true_or, or_false, false_or, and_true, true_and, and_false, false_and, not_true_eq_false, not_false_eq_true, Nat.reduceEqDiff, ↓reduceIte, nI_leI, Nat.not_le.mpr hk, w76]
    rw [yup_grow (f := fun _ => nI 0) (g := fun _ => nI 0) (fun _ _ => rfl)])
  rw [yro_0] at h0
  refine h0.trans ?_
  refine (bk_X11_topics_13 ..).trans ?_
  simp (disch := omega) only [l_lit, nI_leI, Nat.le_refl, if_true]
  refine Eq.trans ?_ (for_up (fun k => yb_X11_topics (ycall n) (36, [some (.ref 1), some (.int w), some (.int (nI (bts (fun t => b01 (tpN M k t)) 6))), some (.int (nI k))], [], yro A 76 6 (fun t => nI (tpN M k t)))) (M 0 1) (fun k hk => ?_))
  · rfl
  · have h1 := gEr hg hk
    have hc' : Col (yro A 76 6 (fun t => nI (tpN M k t))) 2 M := Col_ro hc (by omega)
    refine (bk_X11_topics_36 ..).trans ?_
    simp (disch := omega) only [xR, cgI hc.1, cE hc', cR hc.1, cD12 hc.1, cTp hc', l_lit, nI_add, nI_mul, yi_b, yv_b, yl_b, if_true, if_false, or_true, true_or, or_false, false_or, and_true, true_and, and_false, false_and, not_true_eq_false, not_false_eq_true, Nat.reduceEqDiff, ↓reduceIte, nI_leI, Nat.not_le.mpr hk, r76, w76, yro_at, nI_bitat]
    have h6 : ∀ j, tpN M (k + 1) j = tpN M k j + (if M 5 k = j then 1 else 0) := fun _ => rfl
    have hb : bts (fun j => if j = M 5 k then 1 else b01 (tpN M k j)) 6 = bts (fun t => b01 (tpN M (k + 1) t)) 6 := by
      refine bts_congr (fun j hj => ?_)
      rw [h6]
      unfold b01
      by_cases hj2 : j = M 5 k
      · rw [if_pos hj2, if_pos hj2.symm, if_neg (by omega)]
      · rw [if_neg (fun q => hj2 q.symm : ¬ M 5 k = j), Nat.add_zero, if_neg hj2]
    rw [bts_or (fun k _ => b01_2 _) (show M 5 k < 6 by omega) (by omega), hb]
    rw [yup_yro (f := fun t => nI (tpN M k t)) (g := fun t => nI (tpN M (k + 1) t)) (by omega) (fun j hj => ?_)]
    show _ = nI (tpN M (k + 1) j)
    rw [h6]
    by_cases hj2 : j = M 5 k
    · rw [if_pos hj2, if_pos hj2.symm, hj2]
    · rw [if_neg hj2, if_neg (fun q => hj2 q.symm), Nat.add_zero]
theorem X12_topics_mid (hn : 2 ≤ n) (hr : Row A 80 M) (hg : Good M) (w : Int32) : yb_X12_topics (ycall n) (19, [some (.ref 79), some (.int w), some (.int (nI 0)), some (.int (-nI 4)), some (.int (nI 0))], [], A) = yb_X12_topics (ycall n) (19, [some (.ref 79), some (.int w), some (.int (nI (bts (fun t => b01 (tpN M (M 0 1) t)) 6))), some (.int (ocd (bsf (fun t => decide (tpN M (M 0 1) t ≠ 0)) (tpN M (M 0 1)) 6))), some (.int (nI 6))], [], A) := by
  have hE := gE hg
  refine for_up (fun k => yb_X12_topics (ycall n) (19, [some (.ref 79), some (.int w), some (.int (nI (bts (fun t => b01 (tpN M (M 0 1) t)) k))), some (.int (ocd (bsf (fun t => decide (tpN M (M 0 1) t ≠ 0)) (tpN M (M 0 1)) k))), some (.int (nI k))], [], A)) 6 (fun k hk => ?_)
  have h4 : bts (fun t => b01 (tpN M (M 0 1) t)) k < 2 ^ k := bts_lt (fun j _ => b01_2 _)
  have h6 : bts (fun t => b01 (tpN M (M 0 1) t)) (k + 1) = bts (fun t => b01 (tpN M (M 0 1) t)) k + b01 (tpN M (M 0 1) k) * 2 ^ k := rfl
  have m1 := tpN_le M (M 0 1) k
  refine (bk_X12_topics_19 ..).trans ?_
  rw [bsf_s, h6]
  by_cases h0 : tpN M (M 0 1) k = 0
  · simp (disch := omega) only [mV, X12_errorsIn_ok _ hr hg, l_lit, nI_add, nI_mul, yi_b, yv_b, yl_b, if_true, if_false, or_true, true_or, or_false, false_or, and_true, true_and, and_false, false_and, not_true_eq_false, not_false_eq_true, Nat.reduceEqDiff, ↓reduceIte, nI_eq, nI_leI, nI_ltI, Nat.not_le.mpr hk, h0]
    simp [b01]
  · have hb1 : b01 (tpN M (M 0 1) k) = 1 := if_neg h0
    have hd : decide (tpN M (M 0 1) k ≠ 0) = true := decide_eq_true h0
    cases hb : bsf (fun t => decide (tpN M (M 0 1) t ≠ 0)) (tpN M (M 0 1)) k with
    | none =>
      simp (disch := omega) only [mV, X12_errorsIn_ok _ hr hg, l_lit, nI_add, nI_mul, yi_b, yv_b, yl_b, if_true, if_false, or_true, true_or, or_false, false_or, and_true, true_and, and_false, false_and, not_true_eq_false, not_false_eq_true, Nat.reduceEqDiff, ↓reduceIte, nI_eq, nI_leI, nI_ltI, Nat.not_le.mpr hk, h0, ocd, neg4, nI_orbit _ h4, hb1, hd, Nat.one_mul]
    | some i =>
      have hi := (bsf_lt hb).1
      have m2 := tpN_le M (M 0 1) i
      simp (disch := omega) only [mV, X12_errorsIn_ok _ hr hg, l_lit, nI_add, nI_mul, yi_b, yv_b, yl_b, if_true, if_false, or_true, true_or, or_false, false_or, and_true, true_and, and_false, false_and, not_true_eq_false, not_false_eq_true, Nat.reduceEqDiff, ↓reduceIte, nI_eq, nI_leI, nI_ltI, Nat.not_le.mpr hk, h0, ocd, Nat.not_lt_zero, nI_orbit _ h4, hb1, hd, Nat.one_mul]
      by_cases h5 : tpN M (M 0 1) i < tpN M (M 0 1) k
      · rw [if_neg (Nat.not_le.mpr h5), if_pos h5]
      · rw [if_pos (Nat.not_lt.mp h5), if_neg h5]
theorem api_topics (hi : InvX A M I hI T c g) (w : Int32) : Api 97 201 [.int w] A g := by
  have hc := iC hi
  have hg := iG hi
  have hE := gE hg
  have hSc : Sc A (yro A 76 6 (fun t => nI (tpN M (M 0 1) t))) := Sc_ro (by unfold scr; omega) (by omega)
  have hc' : Col (yro A 76 6 (fun t => nI (tpN M (M 0 1) t))) 2 M := Col_ro hc (by omega)
  by_cases hw : okI w 2 = true
  · obtain ⟨j, hj, rfl⟩ := okI_of (by omega) hw
    have : j = 0 ∨ j = 1 := by omega
    rcases this with rfl | rfl
    · refine api_read hi (.int (nI (bts (fun t => b01 (tpN M (M 0 1) t)) 6))) ⟨_, ?_, hSc⟩ (fun A1 hi => ⟨_, ?_, Sc_r A1⟩)
      · rw [en_X11_topics]
        simp (disch := omega) only [l_lit, nI_ltI, nI_leI, Nat.not_lt_zero, if_false, Nat.zero_le, if_true, X11_topics_mid _ hc hg]
        refine (bk_X11_topics_36 ..).trans ?_
        simp (disch := omega) only [xR, cgI hc.1, cE hc', l_lit, nI_add, nI_mul, yi_b, yv_b, yl_b, if_true, if_false, or_true, true_or, or_false, false_or, and_true, true_and, and_false, false_and, not_true_eq_false, not_false_eq_true, Nat.reduceEqDiff, ↓reduceIte, nI_leI, Nat.le_refl]
      · have hr := iR hi
        rw [en_X12_topics]
        simp (disch := omega) only [l_lit, nI_add, nI_mul, yi_b, yv_b, yl_b, if_true, if_false, or_true, true_or, or_false, false_or, and_true, true_and, and_false, false_and, not_true_eq_false, not_false_eq_true, Nat.reduceEqDiff, ↓reduceIte, X12_in0, Nat.reduceAdd, hw, bI_t, nI_eq, Nat.one_ne_zero, X12_topics_mid _ hr hg]
        refine (bk_X12_topics_19 ..).trans ?_
        simp (disch := omega) only [l_lit, nI_add, nI_mul, yi_b, yv_b, yl_b, if_true, if_false, or_true, true_or, or_false, false_or, and_true, true_and, and_false, false_and, not_true_eq_false, not_false_eq_true, Nat.reduceEqDiff, ↓reduceIte, nI_leI, nI_eq, Nat.le_refl]
    · have hfm := X11_firstOfMost_ok (n := 19) (A := yro A 76 6 (fun t => nI (tpN M (M 0 1) t))) (a := 76) (L := 12) (c := 6) (f := tpN M (M 0 1)) (by omega) rfl (by omega) (by omega) (fun i hi => ⟨yro_at hi, by have := tpN_le M (M 0 1) i; omega⟩)
      have hbl : bts (fun t => b01 (tpN M (M 0 1) t)) 6 < 2 ^ 6 := bts_lt (fun j _ => b01_2 _)
      refine api_read hi (.int (ocd (bsf (fun t => decide (tpN M (M 0 1) t ≠ 0)) (tpN M (M 0 1)) 6))) ⟨_, ?_, hSc⟩ (fun A1 hi => ⟨_, ?_, Sc_r A1⟩)
      · rw [en_X11_topics]
        simp (disch := omega) only [l_lit, nI_ltI, nI_leI, Nat.not_lt_zero, if_false, Nat.le_refl, if_true, X11_topics_mid _ hc hg]
        refine (bk_X11_topics_36 ..).trans ?_
        rcases bsf_bst (f := tpN M (M 0 1)) 6 with ⟨h1, h2⟩ | ⟨r, h1, h2, h3⟩
        · have hz : bts (fun t => b01 (tpN M (M 0 1) t)) 6 = 0 := bts_z (fun k hk => by unfold b01; rw [h2 k hk]; rfl)
          simp (disch := omega) only [xR, cgI hc.1, cE hc', l_lit, nI_add, nI_mul, yi_b, yv_b, yl_b, if_true, if_false, or_true, true_or, or_false, false_or, and_true, true_and, and_false, false_and, not_true_eq_false, not_false_eq_true, Nat.reduceEqDiff, ↓reduceIte, nI_leI, nI_eq, Nat.le_refl, hz, h1, Nat.one_ne_zero, ocd]
        · have hr2 := bst_lt h2
          have hz : bts (fun t => b01 (tpN M (M 0 1) t)) 6 ≠ 0 := bts_nz (fun k _ => b01_2 _) hr2 (by show b01 _ ≠ 0; unfold b01; rw [if_neg h3]; omega)
          simp (disch := omega) only [xR, cgI hc.1, cE hc', l_lit, nI_add, nI_mul, yi_b, yv_b, yl_b, if_true, if_false, or_true, true_or, or_false, false_or, and_true, true_and, and_false, false_and, not_true_eq_false, not_false_eq_true, Nat.reduceEqDiff, ↓reduceIte, nI_leI, nI_eq, Nat.le_refl, hz, h1, Nat.one_ne_zero, hfm, h2]
      · have hr := iR hi
        rw [en_X12_topics]
        simp (disch := omega) only [l_lit, nI_add, nI_mul, yi_b, yv_b, yl_b, if_true, if_false, or_true, true_or, or_false, false_or, and_true, true_and, and_false, false_and, not_true_eq_false, not_false_eq_true, Nat.reduceEqDiff, ↓reduceIte, X12_in0, Nat.reduceAdd, hw, bI_t, nI_eq, Nat.one_ne_zero, X12_topics_mid _ hr hg]
        refine (bk_X12_topics_19 ..).trans ?_
        simp (disch := omega) only [l_lit, nI_add, nI_mul, yi_b, yv_b, yl_b, if_true, if_false, or_true, true_or, or_false, false_or, and_true, true_and, and_false, false_and, not_true_eq_false, not_false_eq_true, Nat.reduceEqDiff, ↓reduceIte, nI_leI, nI_eq, Nat.le_refl, Nat.one_ne_zero]
  · have hw := okI_f hw
    refine api_read hi (.int (-1)) ⟨_, ?_, Sc_r A⟩ (fun A1 hi => ⟨_, ?_, Sc_r A1⟩)
    · rw [en_X11_topics]
      rcases okI_no2 (k := 1) (by omega) hw with h | ⟨h1, h2, h3⟩
      · simp only [l_lit, h, if_true]
      · simp only [l_lit, h1, h3, if_false]
    · rw [en_X12_topics]
      simp (disch := omega) only [l_lit, yi_b, X12_in0, Nat.reduceAdd, hw, bI_f, if_true]
theorem X12_voteOf_ok (hn : 5 ≤ n) (hr : Row A q M) (hg : Good M) {v : Nat} (hv : v < 1000) : ycall n 202 [.ref q, .int (nI v)] A = some (some (.int (ocd (chN M v))), A) := by
  obtain ⟨n, rfl⟩ := Nat.exists_eq_add_of_le' hn
  have hS := gS hg
  rw [en_X12_voteOf]
  refine (for_up (fun k => yb_X12_voteOf (ycall (n + 4)) (5, [some (.ref q), some (.int (nI v)), some (.int (ocd (bsf (fun s => decide (s ≠ v ∧ M 3 s = 1)) (marksN M) k))), some (.int (nI k))], [], A)) (M 0 0) (fun k hk => ?_)).trans ?_
  · have h3 := gP hg hk
    have h31 : M 3 k = 0 ∨ M 3 k = 1 := by omega
    refine (bk_X12_voteOf_5 ..).trans ?_
    rw [bsf_s]
    by_cases q1 : k = v
    · subst q1
      simp (disch := omega) only [qD hr.1, rS hr, rE hr, rW hr, rKd hr, rFg hr, rIn hr, rBy hr, rTp hr, rSz hr, rCt hr, rCo hr, en_X12_ofS, en_X12_ofE, l_lit, nI_add, nI_mul, yi_b, yv_b, yl_b, if_true, if_false, or_true, true_or, or_false, false_or, and_true, true_and, and_false, false_and, not_true_eq_false, not_false_eq_true, Nat.reduceEqDiff, ↓reduceIte, nI_eq, nI_leI, nI_ltI, Nat.not_le.mpr hk]
      simp
    · rcases h31 with h31 | h31
      · simp (disch := omega) only [qD hr.1, rS hr, rE hr, rW hr, rKd hr, rFg hr, rIn hr, rBy hr, rTp hr, rSz hr, rCt hr, rCo hr, en_X12_ofS, en_X12_ofE, X12_isThere_ok _ hr hg hk, h31, q1, l_lit, nI_add, nI_mul, yi_b, yv_b, yl_b, if_true, if_false, or_true, true_or, or_false, false_or, and_true, true_and, and_false, false_and, not_true_eq_false, not_false_eq_true, Nat.reduceEqDiff, ↓reduceIte, nI_eq, nI_leI, nI_ltI, Nat.not_le.mpr hk]
        simp
      · have hd : decide (k ≠ v ∧ M 3 k = 1) = true := decide_eq_true ⟨q1, h31⟩
        have m1 := marksN_le hg k
        cases hb : bsf (fun s => decide (s ≠ v ∧ M 3 s = 1)) (marksN M) k with
        | none =>
          simp (disch := omega) only [qD hr.1, rS hr, rE hr, rW hr, rKd hr, rFg hr, rIn hr, rBy hr, rTp hr, rSz hr, rCt hr, rCo hr, en_X12_ofS, en_X12_ofE, X12_isThere_ok _ hr hg hk, h31, q1, l_lit, nI_add, nI_mul, yi_b, yv_b, yl_b, if_true, if_false, or_true, true_or, or_false, false_or, and_true, true_and, and_false, false_and, not_true_eq_false, not_false_eq_true, Nat.reduceEqDiff, ↓reduceIte, nI_eq, nI_leI, nI_ltI, Nat.not_le.mpr hk, ocd, neg4, Nat.one_ne_zero, ne_eq, decide_true]
        | some i =>
          have hi := (bsf_lt hb).1
          have m2 := marksN_le hg i
          simp (disch := omega) only [qD hr.1, rS hr, rE hr, rW hr, rKd hr, rFg hr, rIn hr, rBy hr, rTp hr, rSz hr, rCt hr, rCo hr, en_X12_ofS, en_X12_ofE, X12_isThere_ok _ hr hg hk, h31, q1, l_lit, nI_add, nI_mul, yi_b, yv_b, yl_b, if_true, if_false, or_true, true_or, or_false, false_or, and_true, true_and, and_false, false_and, not_true_eq_false, not_false_eq_true, Nat.reduceEqDiff, ↓reduceIte, nI_eq, nI_leI, nI_ltI, Nat.not_le.mpr hk, ocd, Nat.not_lt_zero, Nat.one_ne_zero, X12_marksOf_ok _ hr hg, hd]
          by_cases h5 : marksN M i < marksN M k
          · simp [h5, Nat.not_le.mpr h5, q1, ocd]
          · simp [h5, Nat.not_lt.mp h5, q1, ocd]
  · refine (bk_X12_voteOf_5 ..).trans ?_
    simp (disch := omega) only [qD hr.1, rS hr, rE hr, rW hr, rKd hr, rFg hr, rIn hr, rBy hr, rTp hr, rSz hr, rCt hr, rCo hr, en_X12_ofS, en_X12_ofE, l_lit, nI_add, nI_mul, yi_b, yv_b, yl_b, if_true, if_false, or_true, true_or, or_false, false_or, and_true, true_and, and_false, false_and, not_true_eq_false, not_false_eq_true, Nat.reduceEqDiff, ↓reduceIte, nI_eq, nI_leI, nI_ltI, Nat.le_refl]
    rfl
theorem ocd_eq3 {o : Option Nat} {p : Nat} (hp : p < 1000) (ho : ∀ i, o = some i → i < 1000) : (ocd o = nI p) = (o = some p) := by
  cases o with
  | none => exact (eq_false (fun e => nI_pos (n := p) (by omega) (by rw [← e]; decide +kernel))).trans (eq_false (by simp)).symm
  | some i =>
    have := ho i rfl
    simp (disch := omega) only [ocd, nI_eq]
    simp
theorem chN_lt (hg : Good M) {v i : Nat} (h : chN M v = some i) : i < 1000 := by
  have := (bsf_lt h).1
  have := gS hg
  omega
theorem X12_votesFor_ok (hn : 6 ≤ n) (hr : Row A q M) (hg : Good M) {p : Nat} (hp : p < 1000) : ycall n 203 [.ref q, .int (nI p)] A = some (some (.int (nI (voN M p))), A) := by
  obtain ⟨n, rfl⟩ := Nat.exists_eq_add_of_le' hn
  have hS := gS hg
  rw [en_X12_votesFor]
  refine (for_up (fun k => yb_X12_votesFor (ycall (n + 5)) (4, [some (.ref q), some (.int (nI p)), some (.int (nI (sm (fun s => if M 3 s = 1 ∧ chN M s = some p then 1 else 0) k))), some (.int (nI k))], [], A)) (M 0 0) (fun k hk => ?_)).trans ?_
  · have h3 := gP hg hk
    have h31 : M 3 k = 0 ∨ M 3 k = 1 := by omega
    have h6 : sm (fun s => if M 3 s = 1 ∧ chN M s = some p then 1 else 0) (k + 1) = sm (fun s => if M 3 s = 1 ∧ chN M s = some p then 1 else 0) k + (if M 3 k = 1 ∧ chN M k = some p then 1 else 0) := rfl
    refine (bk_X12_votesFor_4 ..).trans ?_
    rw [h6]
    rcases h31 with h31 | h31
    · simp (disch := omega) only [qD hr.1, rS hr, rE hr, rW hr, rKd hr, rFg hr, rIn hr, rBy hr, rTp hr, rSz hr, rCt hr, rCo hr, en_X12_ofS, en_X12_ofE, X12_isThere_ok _ hr hg hk, h31, l_lit, nI_add, nI_mul, yi_b, yv_b, yl_b, if_true, if_false, or_true, true_or, or_false, false_or, and_true, true_and, and_false, false_and, not_true_eq_false, not_false_eq_true, Nat.reduceEqDiff, ↓reduceIte, nI_eq, nI_leI, nI_ltI, Nat.not_le.mpr hk]
    · simp (disch := omega) only [qD hr.1, rS hr, rE hr, rW hr, rKd hr, rFg hr, rIn hr, rBy hr, rTp hr, rSz hr, rCt hr, rCo hr, en_X12_ofS, en_X12_ofE, X12_isThere_ok _ hr hg hk, h31, l_lit, nI_add, nI_mul, yi_b, yv_b, yl_b, if_true, if_false, or_true, true_or, or_false, false_or, and_true, true_and, and_false, false_and, not_true_eq_false, not_false_eq_true, Nat.reduceEqDiff, ↓reduceIte, nI_eq, nI_leI, nI_ltI, Nat.not_le.mpr hk, Nat.one_ne_zero, X12_voteOf_ok _ hr hg, ocd_eq3 hp (fun i hi => chN_lt hg hi)]
      by_cases h : chN M k = some p <;> simp [h]
  · refine (bk_X12_votesFor_4 ..).trans ?_
    simp (disch := omega) only [qD hr.1, rS hr, rE hr, rW hr, rKd hr, rFg hr, rIn hr, rBy hr, rTp hr, rSz hr, rCt hr, rCo hr, en_X12_ofS, en_X12_ofE, l_lit, nI_add, nI_mul, yi_b, yv_b, yl_b, if_true, if_false, or_true, true_or, or_false, false_or, and_true, true_and, and_false, false_and, not_true_eq_false, not_false_eq_true, Nat.reduceEqDiff, ↓reduceIte, nI_eq, nI_leI, nI_ltI, Nat.le_refl]
    rfl
theorem X12_elected_ok (hn : 7 ≤ n) (hr : Row A q M) (hg : Good M) : ycall n 204 [.ref q] A = some (some (.int (ocd (elN M))), A) := by
  obtain ⟨n, rfl⟩ := Nat.exists_eq_add_of_le' hn
  have hS := gS hg
  rw [en_X12_elected]
  refine (for_up (fun k => yb_X12_elected (ycall (n + 6)) (7, [some (.ref q), some (.int (ocd (bsf (fun s => decide (M 3 s = 1)) (voN M) k))), some (.int (obd (voN M) (bsf (fun s => decide (M 3 s = 1)) (voN M) k))), some (.int (nI k)), none], [], A)) (M 0 0) (fun k hk => ?_)).trans ?_
  · have m2 := voN_le hg k
    have h3 := gP hg hk
    have h31 : M 3 k = 0 ∨ M 3 k = 1 := by omega
    refine (bk_X12_elected_7 ..).trans ?_
    rw [bsf_s]
    rcases h31 with h31 | h31
    · have hlt : ∀ o : Option Nat, (∀ i, o = some i → voN M i ≤ 6) → ((obd (voN M) o < -nI 1) = False) := fun o ho => by
        cases o with
        | none => exact eq_false (Int32.lt_irrefl)
        | some i =>
          have := ho i rfl
          exact eq_false (fun h => absurd (Int32.lt_trans h (of_eq_true (neg1 (show voN M i < 2 ^ 31 by omega)))) Int32.lt_irrefl)
      simp (disch := omega) only [qD hr.1, rS hr, rE hr, rW hr, rKd hr, rFg hr, rIn hr, rBy hr, rTp hr, rSz hr, rCt hr, rCo hr, en_X12_ofS, en_X12_ofE, X12_isThere_ok _ hr hg hk, h31, l_lit, nI_add, nI_mul, yi_b, yv_b, yl_b, if_true, if_false, or_true, true_or, or_false, false_or, and_true, true_and, and_false, false_and, not_true_eq_false, not_false_eq_true, Nat.reduceEqDiff, ↓reduceIte, nI_eq, nI_leI, nI_ltI, Nat.not_le.mpr hk, hlt _ (fun i _ => voN_le hg i)]
      simp
    · cases hb : bsf (fun s => decide (M 3 s = 1)) (voN M) k with
      | none =>
        simp (disch := omega) only [qD hr.1, rS hr, rE hr, rW hr, rKd hr, rFg hr, rIn hr, rBy hr, rTp hr, rSz hr, rCt hr, rCo hr, en_X12_ofS, en_X12_ofE, X12_isThere_ok _ hr hg hk, h31, l_lit, nI_add, nI_mul, yi_b, yv_b, yl_b, if_true, if_false, or_true, true_or, or_false, false_or, and_true, true_and, and_false, false_and, not_true_eq_false, not_false_eq_true, Nat.reduceEqDiff, ↓reduceIte, nI_eq, nI_leI, nI_ltI, Nat.not_le.mpr hk, Nat.one_ne_zero, X12_votesFor_ok _ hr hg, obd, ocd, neg1, decide_true]
      | some i =>
        have m1 := voN_le hg i
        simp (disch := omega) only [qD hr.1, rS hr, rE hr, rW hr, rKd hr, rFg hr, rIn hr, rBy hr, rTp hr, rSz hr, rCt hr, rCo hr, en_X12_ofS, en_X12_ofE, X12_isThere_ok _ hr hg hk, h31, l_lit, nI_add, nI_mul, yi_b, yv_b, yl_b, if_true, if_false, or_true, true_or, or_false, false_or, and_true, true_and, and_false, false_and, not_true_eq_false, not_false_eq_true, Nat.reduceEqDiff, ↓reduceIte, nI_eq, nI_leI, nI_ltI, Nat.not_le.mpr hk, Nat.one_ne_zero, X12_votesFor_ok _ hr hg, obd, ocd, decide_true]
        by_cases h : voN M i < voN M k
        · simp [h, obd, ocd]
        · simp [h, obd, ocd]
  · refine (bk_X12_elected_7 ..).trans ?_
    simp (disch := omega) only [qD hr.1, rS hr, rE hr, rW hr, rKd hr, rFg hr, rIn hr, rBy hr, rTp hr, rSz hr, rCt hr, rCo hr, en_X12_ofS, en_X12_ofE, l_lit, nI_add, nI_mul, yi_b, yv_b, yl_b, if_true, if_false, or_true, true_or, or_false, false_or, and_true, true_and, and_false, false_and, not_true_eq_false, not_false_eq_true, Nat.reduceEqDiff, ↓reduceIte, nI_eq, nI_leI, nI_ltI, Nat.le_refl]
    rfl
theorem api_votes (hi : InvX A M I hI T c g) (w : Int32) : Api 103 205 [.int w] A g := by
  have hc := iC hi
  have hg := iG hi
  have hS := gS hg
  by_cases h1 : w = -nI 1
  · subst h1
    refine api_read hi (.int (ocd (elN M))) ⟨_, ?_, Sc_tVt (M := M) (Or.inl rfl)⟩ (fun A1 hi => ⟨_, ?_, Sc_r A1⟩)
    · simp (disch := omega) only [en_X11_votes, xR, cV hc.1, X0_electedOne_ok _ hc hg, yi_b, l_lit, if_true]
    · have hr := iR hi
      simp (disch := omega) only [en_X12_votes, mR, mV, qD hr.1, rS hr, rE hr, rW hr, rKd hr, rFg hr, rIn hr, rBy hr, rTp hr, rSz hr, rCt hr, rCo hr, en_X12_ofS, en_X12_ofE, X12_elected_ok _ hr hg, yi_b, l_lit, if_true]
  · by_cases hs : okI w (M 0 0) = true
    · obtain ⟨p, hp, rfl⟩ := okI_of (by omega) hs
      refine api_read hi (.int (nI (voN M p))) ⟨_, ?_, Sc_tVt (M := M) (Or.inl rfl)⟩ (fun A1 hi => ⟨_, ?_, Sc_r A1⟩)
      · simp (disch := omega) only [en_X11_votes, xR, cV hc.1, X0_hasStudent_ok _ hc, X0_countVotes_ok _ hc hg, yi_b, yv_b, l_lit, h1, hs, bI_t, nI_eq, Nat.one_ne_zero, if_false, cR hc.1]
        rw [cD6 hc.1 (by omega) (by omega), show tVt A 2 M (2 + 18) p = nI (voN M p) from yro_at hp]
      · have hr := iR hi
        simp (disch := omega) only [en_X12_votes, mR, mV, qD hr.1, rS hr, rE hr, rW hr, rKd hr, rFg hr, rIn hr, rBy hr, rTp hr, rSz hr, rCt hr, rCo hr, en_X12_ofS, en_X12_ofE, X12_isStudent_ok _ hr hg, X12_votesFor_ok _ hr hg, yi_b, l_lit, h1, hs, bI_t, nI_eq, Nat.one_ne_zero, if_false]
    · have hs := okI_f hs
      refine api_read hi (.int (-1)) ⟨_, ?_, Sc_r A⟩ (fun A1 hi => ⟨_, ?_, Sc_r A1⟩)
      · rw [en_X11_votes, if_neg (show ¬ w = -1 from h1), (xR _ _).1, cV hc.1, X0_hasStudent_ok (by omega) hc, yi_b, hs, bI_f]
        exact if_pos rfl
      · have hr := iR hi
        rw [en_X12_votes, if_neg (show ¬ w = -1 from h1), mV, X12_isStudent_ok (by omega) hr hg, yi_b, hs, bI_f]
        exact if_pos rfl
end B1
theorem bsf_mx {P : Nat → Bool} {f : Nat → Nat} : ∀ {n q : Nat}, bsf P f n = some q → (∀ i, i < n → P i = true → f i ≤ f q ∧ (i < q → f i < f q)) := by
  intro n
  induction n with
  | zero => intro q h; cases h
  | succ n ih =>
    intro q h i hi hp
    rw [bsf_s] at h
    by_cases hpn : P n = true
    · rw [if_pos hpn] at h
      cases hb : bsf P f n with
      | none =>
        rw [hb] at h
        cases h
        by_cases hin : i = n
        · subst hin; exact ⟨Nat.le_refl _, fun h => by omega⟩
        · exfalso
          have key : ∀ m, bsf P f m = none → ∀ i, i < m → P i = true → False := by
            intro m
            induction m with
            | zero => intro _ i hi; omega
            | succ m ihm =>
              intro hm i hi hp
              rw [bsf_s] at hm
              by_cases hpm : P m = true
              · rw [if_pos hpm] at hm
                split at hm
                · cases hm
                · split at hm <;> cases hm
              · rw [if_neg hpm] at hm
                by_cases him : i = m
                · subst him; exact hpm hp
                · exact ihm hm i (by omega) hp
          exact key n hb i (by omega) hp
      | some r =>
        rw [hb] at h
        dsimp only at h
        have hr := bsf_lt hb
        by_cases hc : f r < f n
        · rw [if_pos hc] at h
          cases h
          by_cases hin : i = n
          · subst hin; exact ⟨Nat.le_refl _, fun h => by omega⟩
          · have := ih hb i (by omega) hp
            omega
        · rw [if_neg hc] at h
          cases h
          by_cases hin : i = n
          · subst hin; omega
          · exact ih hb i (by omega) hp
    · rw [if_neg hpn] at h
      by_cases hin : i = n
      · subst hin; exact absurd hp hpn
      · exact ih h i (by omega) hp
theorem bsf_ex {P : Nat → Bool} {f : Nat → Nat} : ∀ {n i : Nat}, i < n → P i = true → ∃ q, bsf P f n = some q := by
  intro n
  induction n with
  | zero => intro i hi; omega
  | succ n ih =>
    intro i hi hp
    rw [bsf_s]
    by_cases hpn : P n = true
    · rw [if_pos hpn]
      cases bsf P f n with
      | none => exact ⟨n, rfl⟩
      | some r =>
        dsimp only
        split
        · exact ⟨n, rfl⟩
        · exact ⟨r, rfl⟩
    · rw [if_neg hpn]
      have : i ≠ n := fun e => hpn (e ▸ hp)
      exact ih (show i < n by omega) hp
theorem sm_mono {f h : Nat → Nat} : ∀ {n : Nat}, (∀ k, k < n → f k ≤ h k) → sm f n ≤ sm h n := by
  intro n
  induction n with
  | zero => intro _; exact Nat.le_refl _
  | succ n ih =>
    intro hh
    have h1 := ih (fun k hk => hh k (by omega))
    have h2 := hh n (by omega)
    show sm f n + f n ≤ sm h n + h n
    omega
theorem sm_ge {f : Nat → Nat} : ∀ {n i : Nat}, i < n → f i ≤ sm f n := by
  intro n
  induction n with
  | zero => intro i hi; omega
  | succ n ih =>
    intro i hi
    show f i ≤ sm f n + f n
    by_cases hin : i = n
    · subst hin; omega
    · have := ih (show i < n by omega)
      omega
theorem ff_none {P : Nat → Bool} : ∀ (j k : Nat), (∀ i, k ≤ i → i < k + j → P i = false) → ff P k j = none := by
  intro j
  induction j with
  | zero => intro k h; rfl
  | succ j ih =>
    intro k h
    unfold ff
    rw [h k (Nat.le_refl k) (by omega), if_neg (by simp)]
    exact ih (k + 1) (fun i h1 h2 => h i (by omega) (by omega))
theorem fst_none {P : Nat → Bool} {n : Nat} (h : ∀ i, i < n → P i = false) : fst P n = none := ff_none n 0 (fun i _ h2 => h i (by omega))
theorem least_ex {P : Nat → Bool} : ∀ {n : Nat}, P n = true → ∃ q, q ≤ n ∧ P q = true ∧ ∀ i, i < q → P i = false := by
  intro n
  induction n using Nat.strongRecOn with
  | ind n ih =>
    intro h
    by_cases hx : ∃ i, i < n ∧ P i = true
    · obtain ⟨i, h1, h2⟩ := hx
      obtain ⟨q, a, b, c⟩ := ih i h1 h2
      exact ⟨q, by omega, b, c⟩
    · refine ⟨n, Nat.le_refl n, h, fun i hi => ?_⟩
      cases hp : P i
      · rfl
      · exact absurd ⟨i, hi, hp⟩ hx
section B2
variable {A : yM} {M I : Mt} {hI : Nat} {T : Nat → Nat → Nat} {c : Nat → Nat → Int32} {g : Nat} {n q s : Nat}
def otN (M : Mt) (s : Nat) : Nat := sm (fun o => if o = s then 0 else voN M o) (M 0 0)
theorem slips_none (hg : Good M) (hs : s < M 0 0) (hin : M 3 s = 1) (hel : elN M = some s) : tmN M s 0 = 0 := by
  have := sm_le (f := fun o => if o ≠ s ∧ M 3 o = 1 then voN M o + (if o < s then 1 else 0) - (voN M s + 0) else 0) (c := 0) (n := M 0 0) (fun o ho => by
    by_cases h : o ≠ s ∧ M 3 o = 1
    · rw [if_pos h]
      have := bsf_mx hel o ho (decide_eq_true h.2)
      split <;> omega
    · rw [if_neg h]; exact Nat.le_refl 0)
  unfold tmN
  omega
theorem slips_some (hg : Good M) (hs : s < M 0 0) (hin : M 3 s = 1) (hel : elN M ≠ some s) : tmN M s 0 ≠ 0 ∧ 1 ≤ otN M s ∧ tmN M s (otN M s) ≤ otN M s ∧ tmN M s 6 ≤ 6 := by
  have hS := gS hg
  obtain ⟨r, hr⟩ : ∃ r, elN M = some r := bsf_ex hs (decide_eq_true hin)
  have hrs : r ≠ s := fun e => hel (by rw [hr, e])
  have hr1 := bsf_lt hr
  have hri : M 3 r = 1 := of_decide_eq_true hr1.2
  have hmx := bsf_mx hr s hs (decide_eq_true hin)
  have g0 : voN M r + (if r < s then 1 else 0) - (voN M s + 0) ≤ tmN M s 0 := by
    have h := sm_ge (f := fun o => if o ≠ s ∧ M 3 o = 1 then voN M o + (if o < s then 1 else 0) - (voN M s + 0) else 0) hr1.1
    rw [if_pos ⟨hrs, hri⟩] at h
    exact h
  have g1 : voN M r ≤ otN M s := by
    have h := sm_ge (f := fun o => if o = s then 0 else voN M o) hr1.1
    rw [if_neg hrs] at h
    exact h
  have g2 : 1 ≤ otN M s := by
    have hp : decide (s ≠ r ∧ M 3 s = 1) = true := decide_eq_true ⟨fun e => hrs e.symm, hin⟩
    obtain ⟨x, hx⟩ : ∃ x, chN M r = some x := bsf_ex (P := fun s => decide (s ≠ r ∧ M 3 s = 1)) hs hp
    have hx1 := (bsf_lt hx).1
    have hv : 1 ≤ voN M x := by
      have h := sm_ge (f := fun s => if M 3 s = 1 ∧ chN M s = some x then 1 else 0) hr1.1
      rw [if_pos ⟨hri, hx⟩] at h
      exact h
    by_cases hxs : x = s
    · subst hxs
      omega
    · have h := sm_ge (f := fun o => if o = s then 0 else voN M o) hx1
      rw [if_neg hxs] at h
      unfold otN
      omega
  refine ⟨?_, g2, ?_, ?_⟩
  · intro h0
    by_cases hlt : r < s
    · rw [if_pos hlt] at g0; omega
    · rw [if_neg hlt] at g0
      have := hmx.2 (by omega)
      omega
  · refine sm_mono (fun o ho => ?_)
    by_cases h1 : o = s
    · rw [if_neg (fun h => h.1 h1)]; exact Nat.zero_le _
    · rw [if_neg h1]
      split
      · split <;> omega
      · exact Nat.zero_le _
  · have h := sm_le (f := fun o => if o ≠ s ∧ M 3 o = 1 then voN M o + (if o < s then 1 else 0) - (voN M s + 6) else 0) (c := 1) (n := M 0 0) (fun o ho => by
      have := voN_le hg o
      split
      · split <;> omega
      · exact Nat.zero_le _)
    unfold tmN
    omega
theorem X12_toTake_ok (hn : 7 ≤ n) (hr : Row A 80 M) (hg : Good M) (hs : s < M 0 0) {v : Nat} (hv : 1 ≤ v) (hv2 : v < 1000) : ycall n 206 [.ref 79, .int (nI s), .int (nI v)] A = some (some (.int (nI (sm (fun o => if o ≠ s ∧ M 3 o = 1 then voN M o + (if o < s then 1 else 0) - v else 0) (M 0 0)))), A) := by
  obtain ⟨n, rfl⟩ := Nat.exists_eq_add_of_le' hn
  have hS := gS hg
  rw [en_X12_toTake]
  refine (for_up (fun k => yb_X12_toTake (ycall (n + 6)) (5, [some (.ref 79), some (.int (nI s)), some (.int (nI v)), some (.int (nI (sm (fun o => if o ≠ s ∧ M 3 o = 1 then voN M o + (if o < s then 1 else 0) - v else 0) k))), some (.int (nI k)), none], [], A)) (M 0 0) (fun k hk => ?_)).trans ?_
  · have h3 := gP hg hk
    have h31 : M 3 k = 0 ∨ M 3 k = 1 := by omega
    have m1 := voN_le hg k
    have h6 : sm (fun o => if o ≠ s ∧ M 3 o = 1 then voN M o + (if o < s then 1 else 0) - v else 0) (k + 1) = sm (fun o => if o ≠ s ∧ M 3 o = 1 then voN M o + (if o < s then 1 else 0) - v else 0) k + (if k ≠ s ∧ M 3 k = 1 then voN M k + (if k < s then 1 else 0) - v else 0) := rfl
    refine (bk_X12_toTake_5 ..).trans ?_
    rw [h6]
    by_cases q1 : k = s
    · subst q1
      simp (disch := omega) only [mR, mV, qD hr.1, rS hr, rE hr, rW hr, rKd hr, rFg hr, rIn hr, rBy hr, rTp hr, rSz hr, rCt hr, rCo hr, en_X12_ofS, en_X12_ofE, l_lit, nI_add, nI_mul, yi_b, yv_b, yl_b, if_true, if_false, or_true, true_or, or_false, false_or, and_true, true_and, and_false, false_and, not_true_eq_false, not_false_eq_true, Nat.reduceEqDiff, ↓reduceIte, nI_eq, nI_leI, nI_ltI, Nat.not_le.mpr hk, Nat.le_refl]
      simp
    · rcases h31 with h31 | h31
      · by_cases q2 : s ≤ k
        · simp (disch := omega) only [mR, mV, qD hr.1, rS hr, rE hr, rW hr, rKd hr, rFg hr, rIn hr, rBy hr, rTp hr, rSz hr, rCt hr, rCo hr, en_X12_ofS, en_X12_ofE, X12_isThere_ok _ hr hg hk, h31, q1, q2, l_lit, nI_add, nI_mul, yi_b, yv_b, yl_b, if_true, if_false, or_true, true_or, or_false, false_or, and_true, true_and, and_false, false_and, not_true_eq_false, not_false_eq_true, Nat.reduceEqDiff, ↓reduceIte, nI_eq, nI_leI, nI_ltI, Nat.not_le.mpr hk]
          simp
        · simp (disch := omega) only [mR, mV, qD hr.1, rS hr, rE hr, rW hr, rKd hr, rFg hr, rIn hr, rBy hr, rTp hr, rSz hr, rCt hr, rCo hr, en_X12_ofS, en_X12_ofE, X12_isThere_ok _ hr hg hk, h31, q1, q2, l_lit, nI_add, nI_mul, yi_b, yv_b, yl_b, if_true, if_false, or_true, true_or, or_false, false_or, and_true, true_and, and_false, false_and, not_true_eq_false, not_false_eq_true, Nat.reduceEqDiff, ↓reduceIte, nI_eq, nI_leI, nI_ltI, Nat.not_le.mpr hk]
          simp
      · have e1 : (if k ≠ s ∧ M 3 k = 1 then voN M k + (if k < s then 1 else 0) - v else 0) = voN M k + (if k < s then 1 else 0) - v := if_pos ⟨q1, h31⟩
        rw [e1]
        by_cases q2 : s ≤ k
        · rw [if_neg (show ¬ k < s by omega)]
          by_cases q3 : voN M k ≤ v
          · simp (disch := omega) only [mR, mV, qD hr.1, rS hr, rE hr, rW hr, rKd hr, rFg hr, rIn hr, rBy hr, rTp hr, rSz hr, rCt hr, rCo hr, en_X12_ofS, en_X12_ofE, X12_isThere_ok _ hr hg hk, X12_votesFor_ok _ hr hg, h31, q1, q2, q3, l_lit, nI_add, nI_mul, yi_b, yv_b, yl_b, if_true, if_false, or_true, true_or, or_false, false_or, and_true, true_and, and_false, false_and, not_true_eq_false, not_false_eq_true, Nat.reduceEqDiff, ↓reduceIte, nI_eq, nI_leI, nI_ltI, Nat.not_le.mpr hk, Nat.one_ne_zero]
            simp only [Nat.add_zero, Nat.sub_eq_zero_of_le q3]
          · simp (disch := omega) only [mR, mV, qD hr.1, rS hr, rE hr, rW hr, rKd hr, rFg hr, rIn hr, rBy hr, rTp hr, rSz hr, rCt hr, rCo hr, en_X12_ofS, en_X12_ofE, X12_isThere_ok _ hr hg hk, X12_votesFor_ok _ hr hg, h31, q1, q2, q3, l_lit, nI_add, nI_mul, yi_b, yv_b, yl_b, if_true, if_false, or_true, true_or, or_false, false_or, and_true, true_and, and_false, false_and, not_true_eq_false, not_false_eq_true, Nat.reduceEqDiff, ↓reduceIte, nI_eq, nI_leI, nI_ltI, Nat.not_le.mpr hk, Nat.one_ne_zero, nI_sub, Nat.add_zero]
        · rw [if_pos (show k < s by omega)]
          by_cases q3 : voN M k ≤ v - 1
          · simp (disch := omega) only [mR, mV, qD hr.1, rS hr, rE hr, rW hr, rKd hr, rFg hr, rIn hr, rBy hr, rTp hr, rSz hr, rCt hr, rCo hr, en_X12_ofS, en_X12_ofE, X12_isThere_ok _ hr hg hk, X12_votesFor_ok _ hr hg, h31, q1, q2, q3, l_lit, nI_add, nI_mul, yi_b, yv_b, yl_b, if_true, if_false, or_true, true_or, or_false, false_or, and_true, true_and, and_false, false_and, not_true_eq_false, not_false_eq_true, Nat.reduceEqDiff, ↓reduceIte, nI_eq, nI_leI, nI_ltI, Nat.not_le.mpr hk, Nat.one_ne_zero, nI_sub]
            simp only [show voN M k + 1 - v = 0 by omega, Nat.add_zero]
          · simp (disch := omega) only [mR, mV, qD hr.1, rS hr, rE hr, rW hr, rKd hr, rFg hr, rIn hr, rBy hr, rTp hr, rSz hr, rCt hr, rCo hr, en_X12_ofS, en_X12_ofE, X12_isThere_ok _ hr hg hk, X12_votesFor_ok _ hr hg, h31, q1, q2, q3, l_lit, nI_add, nI_mul, yi_b, yv_b, yl_b, if_true, if_false, or_true, true_or, or_false, false_or, and_true, true_and, and_false, false_and, not_true_eq_false, not_false_eq_true, Nat.reduceEqDiff, ↓reduceIte, nI_eq, nI_leI, nI_ltI, Nat.not_le.mpr hk, Nat.one_ne_zero, nI_sub]
            rw [show voN M k + 1 - v = voN M k - (v - 1) by omega]
  · refine (bk_X12_toTake_5 ..).trans ?_
    have e : ∀ K : Int32 → Option yR, yrd A 80 (0 : Int32) K = K (nI (M 0 0)) := fun K => (qD (k := 0) hr.1 (by omega)).trans (by rw [rS hr])
    rw [(mR _ _).1, e, if_pos (nI_le (Nat.le_refl _) (by omega))]
theorem X11_slips_end (hn : 2 ≤ n) (hc : Col A 2 M) (hg : Good M) (hs : s < M 0 0) (hv : ∀ p, p < M 0 0 → A 20 p = nI (voN M p)) {k : Nat} (hk : k ≤ 6) (h1 : k = 6 ∨ tmN M s k ≤ k) (h2 : ∀ i, i < k → ¬ tmN M s i ≤ i) : yb_X11_slips (ycall n) (36, [some (.ref 1), some (.int (nI s)), some (.int (nI 0))], [], A) = some (some (.int (nI k)), A) := by
  have hS := gS hg
  have hlt : ∀ k, tmN M s k < 1000 := fun k => by
    have h := sm_le (f := fun o => if o ≠ s ∧ M 3 o = 1 then voN M o + (if o < s then 1 else 0) - (voN M s + k) else 0) (c := 7) (n := M 0 0) (fun o ho => by
      have := voN_le hg o
      split
      · split <;> omega
      · exact Nat.zero_le _)
    unfold tmN
    omega
  refine (for_up (fun k => yb_X11_slips (ycall n) (36, [some (.ref 1), some (.int (nI s)), some (.int (nI k))], [], A)) k (fun i hi => ?_)).trans ?_
  · have := h2 i hi
    have := hlt i
    refine (bk_X11_slips_36 ..).trans ?_
    simp (disch := omega) only [xR, cV hc.1, X0_votesTooMany_ok _ hc hg hs _ hv, l_lit, nI_add, nI_mul, yi_b, yv_b, yl_b, if_true, if_false, or_true, true_or, or_false, false_or, and_true, true_and, and_false, false_and, not_true_eq_false, not_false_eq_true, Nat.reduceEqDiff, ↓reduceIte, nI_eq, nI_leI, nI_ltI, show ¬ 6 ≤ i by omega, h2 i hi]
  · refine (bk_X11_slips_36 ..).trans ?_
    by_cases h6 : k = 6
    · subst h6
      simp (disch := omega) only [l_lit, nI_add, nI_mul, yi_b, yv_b, yl_b, if_true, if_false, or_true, true_or, or_false, false_or, and_true, true_and, and_false, false_and, not_true_eq_false, not_false_eq_true, Nat.reduceEqDiff, ↓reduceIte, nI_eq, nI_leI, nI_ltI, Nat.le_refl]
    · have h1 : tmN M s k ≤ k := by omega
      have := hlt k
      simp (disch := omega) only [xR, cV hc.1, X0_votesTooMany_ok _ hc hg hs _ hv, l_lit, nI_add, nI_mul, yi_b, yv_b, yl_b, if_true, if_false, or_true, true_or, or_false, false_or, and_true, true_and, and_false, false_and, not_true_eq_false, not_false_eq_true, Nat.reduceEqDiff, ↓reduceIte, nI_eq, nI_leI, nI_ltI, show ¬ 6 ≤ k by omega, h1]
theorem X12_slips_end (hn : 8 ≤ n) (hr : Row A 80 M) (hg : Good M) (hs : s < M 0 0) {k : Nat} (hk1 : 1 ≤ k) (hko : k ≤ otN M s) (h1 : tmN M s k ≤ k) (h2 : ∀ i, i < k → ¬ tmN M s i ≤ i) : yb_X12_slips (ycall n) (41, [some (.ref 79), some (.int (nI s)), some (.int (nI 0)), some (.int (nI 0))], [], A) = some (some (.int (nI k)), A) := by
  have hS := gS hg
  have hot : otN M s ≤ 36 := by
    have h := sm_le (f := fun o => if o = s then 0 else voN M o) (c := 6) (n := M 0 0) (fun o ho => by
      have := voN_le hg o
      split <;> omega)
    unfold otN
    omega
  have hlt : ∀ k, tmN M s k < 1000 := fun k => by
    have h := sm_le (f := fun o => if o ≠ s ∧ M 3 o = 1 then voN M o + (if o < s then 1 else 0) - (voN M s + k) else 0) (c := 7) (n := M 0 0) (fun o ho => by
      have := voN_le hg o
      split
      · split <;> omega
      · exact Nat.zero_le _)
    unfold tmN
    omega
  have m1 := voN_le hg s
  refine (for_up (fun k => yb_X12_slips (ycall n) (41, [some (.ref 79), some (.int (nI s)), some (.int (nI (sm (fun o => if o = s then 0 else voN M o) k))), some (.int (nI k))], [], A)) (M 0 0) (fun k hk => ?_)).trans ?_
  · have h6 : sm (fun o => if o = s then 0 else voN M o) (k + 1) = sm (fun o => if o = s then 0 else voN M o) k + (if k = s then 0 else voN M k) := rfl
    refine (bk_X12_slips_41 ..).trans ?_
    rw [h6]
    by_cases q1 : k = s
    · subst q1
      simp (disch := omega) only [mR, mV, qD hr.1, rS hr, rE hr, rW hr, rKd hr, rFg hr, rIn hr, rBy hr, rTp hr, rSz hr, rCt hr, rCo hr, en_X12_ofS, en_X12_ofE, l_lit, nI_add, nI_mul, yi_b, yv_b, yl_b, if_true, if_false, or_true, true_or, or_false, false_or, and_true, true_and, and_false, false_and, not_true_eq_false, not_false_eq_true, Nat.reduceEqDiff, ↓reduceIte, nI_eq, nI_leI, nI_ltI, Nat.not_le.mpr hk]
    · simp (disch := omega) only [mR, mV, qD hr.1, rS hr, rE hr, rW hr, rKd hr, rFg hr, rIn hr, rBy hr, rTp hr, rSz hr, rCt hr, rCo hr, en_X12_ofS, en_X12_ofE, X12_votesFor_ok _ hr hg, q1, l_lit, nI_add, nI_mul, yi_b, yv_b, yl_b, if_true, if_false, or_true, true_or, or_false, false_or, and_true, true_and, and_false, false_and, not_true_eq_false, not_false_eq_true, Nat.reduceEqDiff, ↓reduceIte, nI_eq, nI_leI, nI_ltI, Nat.not_le.mpr hk]
  · refine (bk_X12_slips_41 ..).trans ?_
    simp (disch := omega) only [mR, mV, qD hr.1, rS hr, rE hr, rW hr, rKd hr, rFg hr, rIn hr, rBy hr, rTp hr, rSz hr, rCt hr, rCo hr, en_X12_ofS, en_X12_ofE, l_lit, nI_add, nI_mul, yi_b, yv_b, yl_b, if_true, if_false, or_true, true_or, or_false, false_or, and_true, true_and, and_false, false_and, not_true_eq_false, not_false_eq_true, Nat.reduceEqDiff, ↓reduceIte, nI_eq, nI_leI, nI_ltI, Nat.le_refl]
    show yb_X12_slips (ycall n) (79, [some (.ref 79), some (.int (nI s)), some (.int (nI (otN M s))), some (.int (nI 0))], [], A) = _
    refine (for_up (fun k => yb_X12_slips (ycall n) (79, [some (.ref 79), some (.int (nI s)), some (.int (nI (otN M s))), some (.int (nI k))], [], A)) k (fun i hi => ?_)).trans ?_
    · have q2 := h2 i hi
      have := hlt i
      refine (bk_X12_slips_79 ..).trans ?_
      by_cases q0 : voN M s + i ≤ 0
      · simp (disch := omega) only [mR, mV, qD hr.1, rS hr, rE hr, rW hr, rKd hr, rFg hr, rIn hr, rBy hr, rTp hr, rSz hr, rCt hr, rCo hr, en_X12_ofS, en_X12_ofE, X12_votesFor_ok _ hr hg, q0, l_lit, nI_add, nI_mul, yi_b, yv_b, yl_b, if_true, if_false, or_true, true_or, or_false, false_or, and_true, true_and, and_false, false_and, not_true_eq_false, not_false_eq_true, Nat.reduceEqDiff, ↓reduceIte, nI_eq, nI_leI, nI_ltI, show ¬ otN M s < i by omega]
      · have htt : ycall n 206 [.ref 79, .int (nI s), .int (nI (voN M s + i))] A = some (some (.int (nI (tmN M s i))), A) := X12_toTake_ok (by omega) hr hg hs (by omega) (by omega)
        simp (disch := omega) only [mR, mV, qD hr.1, rS hr, rE hr, rW hr, rKd hr, rFg hr, rIn hr, rBy hr, rTp hr, rSz hr, rCt hr, rCo hr, en_X12_ofS, en_X12_ofE, X12_votesFor_ok _ hr hg, q0, htt, l_lit, nI_add, nI_mul, yi_b, yv_b, yl_b, if_true, if_false, or_true, true_or, or_false, false_or, and_true, true_and, and_false, false_and, not_true_eq_false, not_false_eq_true, Nat.reduceEqDiff, ↓reduceIte, nI_eq, nI_leI, nI_ltI, show ¬ otN M s < i by omega, Nat.not_le.mp q2]
    · have := hlt k
      have htt : ycall n 206 [.ref 79, .int (nI s), .int (nI (voN M s + k))] A = some (some (.int (nI (tmN M s k))), A) := X12_toTake_ok (by omega) hr hg hs (by omega) (by omega)
      refine (bk_X12_slips_79 ..).trans ?_
      simp (disch := omega) only [mR, mV, qD hr.1, rS hr, rE hr, rW hr, rKd hr, rFg hr, rIn hr, rBy hr, rTp hr, rSz hr, rCt hr, rCo hr, en_X12_ofS, en_X12_ofE, X12_votesFor_ok _ hr hg, show ¬ voN M s + k ≤ 0 by omega, htt, l_lit, nI_add, nI_mul, yi_b, yv_b, yl_b, if_true, if_false, or_true, true_or, or_false, false_or, and_true, true_and, and_false, false_and, not_true_eq_false, not_false_eq_true, Nat.reduceEqDiff, ↓reduceIte, nI_eq, nI_leI, nI_ltI, show ¬ otN M s < k by omega, show ¬ k < tmN M s k by omega]
theorem api_slips (hi : InvX A M I hI T c g) (w : Int32) : Api 104 207 [.int w] A g := by
  have hc := iC hi
  have hg := iG hi
  have hS := gS hg
  have hcT := Col_tVt hc
  by_cases hs : okI w (M 0 0) = true
  · obtain ⟨p, hp, rfl⟩ := okI_of (by omega) hs
    have h3 := gP hg hp
    have h31 : M 3 p = 0 ∨ M 3 p = 1 := by omega
    rcases h31 with h31 | h31
    · refine api_read hi (.int (-4)) ⟨_, ?_, Sc_r A⟩ (fun A1 hi => ⟨_, ?_, Sc_r A1⟩)
      · simp (disch := omega) only [en_X11_slips, xR, cV hc.1, X0_hasStudent_ok _ hc, X0_isIn_ok _ hc hg hp, h31, yi_b, l_lit, hs, bI_t, nI_eq, Nat.one_ne_zero, if_false, if_true]
      · have hr := iR hi
        simp (disch := omega) only [en_X12_slips, mR, mV, qD hr.1, rS hr, rE hr, rW hr, rKd hr, rFg hr, rIn hr, rBy hr, rTp hr, rSz hr, rCt hr, rCo hr, en_X12_ofS, en_X12_ofE, X12_isStudent_ok _ hr hg, X12_isThere_ok _ hr hg hp, h31, yi_b, l_lit, hs, bI_t, nI_eq, Nat.one_ne_zero, if_false, if_true]
    · have hA : ∀ p, p < M 0 0 → tVt A 2 M 20 p = nI (voN M p) := fun p hp => yro_at hp
      have hcl : ∀ k, k ≤ 6 → (k = 6 ∨ tmN M p k ≤ k) → (∀ i, i < k → ¬ tmN M p i ≤ i) → ycall 20 104 [.ref 1, .int (nI p)] A = some (some (.int (nI k)), tVt A 2 M) := fun k h1 h2 h4 => by
        simp (disch := omega) only [en_X11_slips, xR, cV hc.1, X0_hasStudent_ok _ hc, X0_isIn_ok _ hc hg hp, X0_countVotes_ok _ hc hg, h31, yi_b, yv_b, l_lit, hs, bI_t, nI_eq, Nat.one_ne_zero, if_false, if_true]
        exact X11_slips_end (by omega) hcT hg hp hA h1 h2 h4
      by_cases hel : elN M = some p
      · have h0 := slips_none hg hp h31 hel
        refine api_read hi (.int (nI 0)) ⟨_, hcl 0 (by omega) (Or.inr (by omega)) (fun i hi => by omega), Sc_tVt (M := M) (Or.inl rfl)⟩ (fun A1 hi => ⟨_, ?_, Sc_r A1⟩)
        have hr := iR hi
        simp (disch := omega) only [en_X12_slips, mR, mV, qD hr.1, rS hr, rE hr, rW hr, rKd hr, rFg hr, rIn hr, rBy hr, rTp hr, rSz hr, rCt hr, rCo hr, en_X12_ofS, en_X12_ofE, X12_isStudent_ok _ hr hg, X12_isThere_ok _ hr hg hp, X12_elected_ok _ hr hg, hel, ocd, h31, yi_b, l_lit, hs, bI_t, nI_eq, Nat.one_ne_zero, if_false, if_true]
      · obtain ⟨a0, a1, a2, a3⟩ := slips_some hg hp h31 hel
        obtain ⟨k, k1, k2, k3⟩ := least_ex (P := fun k => decide (tmN M p k ≤ k)) (decide_eq_true a2)
        have k2 := of_decide_eq_true k2
        have k4 : ∀ i, i < k → ¬ tmN M p i ≤ i := fun i hi => of_decide_eq_false (k3 i hi)
        have k5 : k ≤ 6 := Nat.not_lt.mp (fun h => k4 6 h a3)
        have k6 : 1 ≤ k := Nat.pos_of_ne_zero (fun h => by subst h; omega)
        refine api_read hi (.int (nI k)) ⟨_, hcl k k5 (Or.inr k2) k4, Sc_tVt (M := M) (Or.inl rfl)⟩ (fun A1 hi => ⟨_, ?_, Sc_r A1⟩)
        have hr := iR hi
        have hne : ¬ ocd (elN M) = nI p := by
          rw [ocd_eq3 (by omega) (fun i h => by have := (bsf_lt h).1; omega)]
          exact hel
        simp (disch := omega) only [en_X12_slips, mR, mV, qD hr.1, rS hr, rE hr, rW hr, rKd hr, rFg hr, rIn hr, rBy hr, rTp hr, rSz hr, rCt hr, rCo hr, en_X12_ofS, en_X12_ofE, X12_isStudent_ok _ hr hg, X12_isThere_ok _ hr hg hp, X12_elected_ok _ hr hg, hne, h31, yi_b, l_lit, hs, bI_t, nI_eq, Nat.one_ne_zero, if_false]
        exact X12_slips_end (by omega) hr hg hp k6 k1 k2 k4
  · have hs := okI_f hs
    refine api_read hi (.int (-1)) ⟨_, ?_, Sc_r A⟩ (fun A1 hi => ⟨_, ?_, Sc_r A1⟩)
    · rw [en_X11_slips, (xR _ _).1, cV hc.1, X0_hasStudent_ok (by omega) hc, yi_b, hs, bI_f]
      exact if_pos rfl
    · have hr := iR hi
      rw [en_X12_slips, mV, X12_isStudent_ok (by omega) hr hg, yi_b, hs, bI_f]
      exact if_pos rfl
end B2
