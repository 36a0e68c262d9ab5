def mwF (M : Mt) (s t z e : Nat) : Nat := if M 4 e = s then (if M 8 e = 1 then 0 else mkN (M 1 (M 4 e)) (M 2 (M 4 e)) (M 6 e) (citN M e) (min (novN M e) (if M 5 e = t then ds (M 6 e) z else 99))) else 0
def mwN (M : Mt) (s t z : Nat) : Nat := sm (mwF M s t z) (M 0 1) + mkN (M 1 s) (M 2 s) z 0 (nearN M t z 99 (M 0 1))
theorem nearN_congr {M M' : Mt} {t z sk sk' k : Nat} (h : ∀ e, e < k → M' 5 e = M 5 e ∧ M' 6 e = M 6 e ∧ (e ≠ sk ↔ e ≠ sk')) : nearN M' t z sk k = nearN M t z sk' k := by
  refine fo_congr (fun e v he => ?_)
  obtain ⟨h1, h2, h3⟩ := h e he
  rw [h1, h2]
  by_cases q : e = sk
  · have q2 : e = sk' := Classical.byContradiction (fun w => (h3.mpr w) q)
    simp [q, ← q2]
  · have q2 : e ≠ sk' := h3.mp q
    simp [q, q2]
theorem mwN_eq {M : Mt} (hg : Good M) {s t z : Nat} (hs : s < M 0 0) (ht : t < 6) (hz : z < 100) (hE : M 0 1 < 12) : marksN (aeN M s t z 99) s = mwN M s t z := by
  have a4 : ∀ e, e < M 0 1 → aeN M s t z 99 4 e = M 4 e := fun e he => by unfold aeN; simp (disch := omega) only [mu_ne, mu_ne2]
  have a5 : ∀ e, e < M 0 1 → aeN M s t z 99 5 e = M 5 e := fun e he => by unfold aeN; simp (disch := omega) only [mu_ne, mu_ne2]
  have a6 : ∀ e, e < M 0 1 → aeN M s t z 99 6 e = M 6 e := fun e he => by unfold aeN; simp (disch := omega) only [mu_ne, mu_ne2]
  have a8 : ∀ e, e < M 0 1 → aeN M s t z 99 8 e = M 8 e := fun e he => by unfold aeN; simp (disch := omega) only [mu_ne, mu_ne2]
  have a1 : aeN M s t z 99 1 = M 1 := by unfold aeN; simp (disch := omega) only [mu_ne1]
  have a2 : aeN M s t z 99 2 = M 2 := by unfold aeN; simp (disch := omega) only [mu_ne1]
  have b4 : aeN M s t z 99 4 (M 0 1) = s := by unfold aeN; simp (disch := omega) only [mu_ne, mu_eq]
  have b5 : aeN M s t z 99 5 (M 0 1) = t := by unfold aeN; simp (disch := omega) only [mu_ne, mu_eq]
  have b6 : aeN M s t z 99 6 (M 0 1) = z := by unfold aeN; simp (disch := omega) only [mu_ne, mu_eq]
  have b8 : aeN M s t z 99 8 (M 0 1) = 0 := by unfold aeN; simp (disch := omega) only [mu_eq]
  have bE : aeN M s t z 99 0 1 = M 0 1 + 1 := by unfold aeN; simp (disch := omega) only [mu_ne, mu_eq]
  have hnov : ∀ e, e < M 0 1 → novN (aeN M s t z 99) e = min (novN M e) (if M 5 e = t then ds (M 6 e) z else 99) := by
    intro e he
    unfold novN
    rw [bE]
    have : nearN (aeN M s t z 99) (aeN M s t z 99 5 e) (aeN M s t z 99 6 e) e (M 0 1 + 1) = if M 0 1 ≠ e ∧ aeN M s t z 99 5 (M 0 1) = aeN M s t z 99 5 e then min (nearN (aeN M s t z 99) (aeN M s t z 99 5 e) (aeN M s t z 99 6 e) e (M 0 1)) (ds (aeN M s t z 99 6 (M 0 1)) (aeN M s t z 99 6 e)) else nearN (aeN M s t z 99) (aeN M s t z 99 5 e) (aeN M s t z 99 6 e) e (M 0 1) := rfl
    rw [this, b5, b6, a5 e he, a6 e he, nearN_congr (M := M) (sk' := e) (fun i hi => ⟨a5 i hi, a6 i hi, Iff.rfl⟩)]
    have h1 := nearN_le M (M 5 e) (M 6 e) e (M 0 1)
    by_cases hq : M 5 e = t
    · rw [if_pos ⟨by omega, hq.symm⟩, if_pos hq, ds_comm]
    · rw [if_neg (fun q => hq q.2.symm), if_neg hq, Nat.min_eq_left h1]
  have hnew : novN (aeN M s t z 99) (M 0 1) = nearN M t z 99 (M 0 1) := by
    unfold novN
    rw [bE, b5, b6]
    have : nearN (aeN M s t z 99) t z (M 0 1) (M 0 1 + 1) = if M 0 1 ≠ M 0 1 ∧ aeN M s t z 99 5 (M 0 1) = t then min (nearN (aeN M s t z 99) t z (M 0 1) (M 0 1)) (ds (aeN M s t z 99 6 (M 0 1)) z) else nearN (aeN M s t z 99) t z (M 0 1) (M 0 1) := rfl
    rw [this, if_neg (fun q => q.1 rfl)]
    exact nearN_congr (fun i hi => ⟨a5 i hi, a6 i hi, ⟨fun _ => by omega, fun _ => by omega⟩⟩)
  unfold marksN mwN
  rw [bE]
  show sm (fun e => if aeN M s t z 99 4 e = s then markN (aeN M s t z 99) e else 0) (M 0 1) + (if aeN M s t z 99 4 (M 0 1) = s then markN (aeN M s t z 99) (M 0 1) else 0) = _
  rw [b4, if_pos rfl]
  congr 1
  · refine sm_congr (fun e he => ?_)
    unfold mwF markN
    rw [a4 e he, a8 e he, a1, a2, a6 e he, hnov e he, citN_ae hg (Or.inl rfl) (by omega) hE, if_neg (show ¬ e = M 0 1 by omega), if_neg (show ¬ 99 = e by omega), Nat.add_zero]
  · unfold markN
    rw [b8, if_neg (by omega), b4, a1, a2, b6, hnew, citN_ae hg (Or.inl rfl) (Nat.le_refl _) hE, if_pos rfl]
section A7
variable {A : yM} {M I : Mt} {hI : Nat} {T : Nat → Nat → Nat} {c : Nat → Nat → Int32} {g : Nat} {n : Nat}
theorem X0_mw_ok (hn : 5 ≤ n) (hc : Col A 2 M) (hg : Good M) {s t z : Nat} (hs : s < M 0 0) (ht : t < 6) (hz : z < 100) (hta : ∀ e, e < M 0 1 → A 76 e = nI (novN M e)) : ycall n 17 [.ref 2, .int (nI s), .int (nI t), .int (nI z), .ref 76] A = some (some (.int (nI (mwN M s t z))), A) := by
  obtain ⟨n, rfl⟩ := Nat.exists_eq_add_of_le' hn
  have hE := gE hg
  have hS := gS hg
  have hps := gP hg hs
  rw [en_X0_marksWithOneMore]
  refine (for_up (fun k => yb_X0_marksWithOneMore (ycall (n + 4)) (10, [some (.ref 2), some (.int (nI s)), some (.int (nI t)), some (.int (nI z)), some (.ref 76), some (.int (nI (sm (mwF M s t z) k))), some (.int (nI (nearN M t z 99 k))), some (.int (nI k)), none], [], A)) (M 0 1) (fun k hk => ?_)).trans ?_
  · have h1 := gEr hg hk
    have m1 := nearN_le M t z 99 k
    have m2 := novN_le M k
    have h7 : ds (M 6 k) z < 1000 := ds_lt (by omega) (by omega)
    have e1 : nearN M t z 99 (k + 1) = if k ≠ 99 ∧ M 5 k = t then min (nearN M t z 99 k) (ds (M 6 k) z) else nearN M t z 99 k := rfl
    have e2 : sm (mwF M s t z) (k + 1) = sm (mwF M s t z) k + mwF M s t z k := rfl
    have mk : ∀ v, ycall (n + 4) 15 [.ref 2, .int (nI k), .int (nI v)] A = some (some (.int (nI (if M 8 k = 1 then 0 else mkN (M 1 (M 4 k)) (M 2 (M 4 k)) (M 6 k) (citN M k) v))), A) := fun v => X0_markedFor_ok (by omega) hc hg hk
    have r76 : ∀ K : Int32 → Option yR, yrd A 76 (nI k) K = K (A 76 k) := fun K => yrd_at (n := 12) rfl (by omega) (by omega)
    have h99 : k ≠ 99 := by omega
    refine (bk_X0_marksWithOneMore_10 ..).trans ?_
    by_cases q1 : M 5 k = t
    · have e1' := e1.trans (if_pos ⟨h99, q1⟩)
      by_cases q2 : M 4 k = s
      · have e3 : mwF M s t z k = if M 8 k = 1 then 0 else mkN (M 1 (M 4 k)) (M 2 (M 4 k)) (M 6 k) (citN M k) (min (novN M k) (ds (M 6 k) z)) := by unfold mwF; rw [if_pos q2, if_pos q1]
        rw [e1', e2, e3]
        simp (disch := omega) only [cgI hc.1, cE hc, cR hc.1, cD12 hc.1, cTp hc, cSz hc, cBy hc, cV hc.1, l_lit, nI_add, nI_mul, yi_b, yv_b, yl_b, if_true, if_false, or_true, true_or, or_false, false_or, and_true, true_and, and_false, false_and, not_true_eq_false, not_false_eq_true, Nat.reduceEqDiff, ↓reduceIte, nI_eq, nI_leI, Nat.not_le.mpr hk, q1, q2, nI_abs, r76, hta, nI_min, mk]
      · have e3 : mwF M s t z k = 0 := by unfold mwF; rw [if_neg q2]
        rw [e1', e2, e3]
        simp (disch := omega) only [cgI hc.1, cE hc, cR hc.1, cD12 hc.1, cTp hc, cSz hc, cBy hc, cV hc.1, l_lit, nI_add, nI_mul, yi_b, yv_b, yl_b, if_true, if_false, or_true, true_or, or_false, false_or, and_true, true_and, and_false, false_and, not_true_eq_false, not_false_eq_true, Nat.reduceEqDiff, ↓reduceIte, nI_eq, nI_leI, Nat.not_le.mpr hk, q1, q2, nI_abs, nI_min, Nat.add_zero]
    · have e1' := e1.trans (if_neg (fun q => q1 q.2))
      have e4 : min (nearN M t z 99 k) 99 = nearN M t z 99 k := Nat.min_eq_left m1
      by_cases q2 : M 4 k = s
      · have e3 : mwF M s t z k = if M 8 k = 1 then 0 else mkN (M 1 (M 4 k)) (M 2 (M 4 k)) (M 6 k) (citN M k) (min (novN M k) 99) := by unfold mwF; rw [if_pos q2, if_neg q1]
        rw [e1', e2, e3]
        simp (disch := omega) only [cgI hc.1, cE hc, cR hc.1, cD12 hc.1, cTp hc, cSz hc, cBy hc, cV hc.1, l_lit, nI_add, nI_mul, yi_b, yv_b, yl_b, if_true, if_false, or_true, true_or, or_false, false_or, and_true, true_and, and_false, false_and, not_true_eq_false, not_false_eq_true, Nat.reduceEqDiff, ↓reduceIte, nI_eq, nI_leI, Nat.not_le.mpr hk, q1, q2, r76, hta, nI_min, mk, e4]
      · have e3 : mwF M s t z k = 0 := by unfold mwF; rw [if_neg q2]
        rw [e1', e2, e3]
        simp (disch := omega) only [cgI hc.1, cE hc, cR hc.1, cD12 hc.1, cTp hc, cBy hc, cV hc.1, l_lit, nI_add, nI_mul, yi_b, yv_b, yl_b, if_true, if_false, or_true, true_or, or_false, false_or, and_true, true_and, and_false, false_and, not_true_eq_false, not_false_eq_true, Nat.reduceEqDiff, ↓reduceIte, nI_eq, nI_leI, Nat.not_le.mpr hk, q1, q2, nI_min, e4, Nat.add_zero]
  · have hkk : ycl A (2 + 2 + M 1 s) = some (kcl (M 1 s)) := ycl_k hc.1 hps.1
    refine (bk_X0_marksWithOneMore_10 ..).trans ?_
    simp (disch := omega) only [cgI hc.1, cE hc, cR hc.1, cD6 hc.1, cKd hc, cFg hc, cK hc.1, l_lit, nI_add, nI_mul, yi_b, yv_b, yl_b, if_true, if_false, or_true, true_or, or_false, false_or, and_true, true_and, and_false, false_and, not_true_eq_false, not_false_eq_true, Nat.reduceEqDiff, ↓reduceIte, nI_leI, Nat.le_refl, kv_marked _ hkk]
    rfl
def odm : Option Nat → Int32
  | none => -nI 1
  | some k => nI k
abbrev nxF (M : Mt) (s k : Nat) : Nat := marksN (aeN M s (k / 100) (k % 100) 99) s
theorem api_next (hi : InvX A M I hI T c g) (s : Int32) : Api 87 184 [.int s] A g := by
  have hc := iC hi
  have hg := iG hi
  have hS := gS hg
  have hE := gE hg
  by_cases hs : okI s (M 0 0) = true
  · obtain ⟨s, xs, rfl⟩ := okI_of (by omega) hs
    have h2 := gP hg xs
    have h3 : M 3 s = 0 ∨ M 3 s = 1 := by omega
    by_cases hno : M 3 s = 0 ∨ M 0 1 = 12
    · refine api_read hi (.int (-4)) ⟨_, ?_, Sc_r A⟩ (fun A1 hi => ⟨_, ?_, Sc_r A1⟩)
      · rcases h3 with h3 | h3
        · simp (disch := omega) only [en_X11_next, xR, cV hc.1, X0_hasStudent_ok _ hc, hs, bI_t, yi_b, l_lit, X0_isIn_ok _ hc hg xs, h3, nI_eq, Nat.one_ne_zero, if_true, if_false]
        · have h4 : M 0 1 = 12 := by omega
          simp (disch := omega) only [en_X11_next, xR, cV hc.1, X0_hasStudent_ok _ hc, hs, bI_t, yi_b, l_lit, X0_isIn_ok _ hc hg xs, h3, cgI hc.1, cE hc, h4, nI_eq, nI_ltI, Nat.lt_irrefl, Nat.one_ne_zero, if_true, if_false]
      · have hr := iR hi
        by_cases h4 : M 0 1 = 12
        · simp (disch := omega) only [en_X12_next, mV, mR, X12_isStudent_ok _ hr hg, hs, bI_t, yi_b, l_lit, qD hr.1, rE hr, h4, nI_eq, Nat.one_ne_zero, if_true, if_false]
        · have h3 : M 3 s = 0 := by omega
          simp (disch := omega) only [en_X12_next, mV, mR, X12_isStudent_ok _ hr hg, hs, bI_t, yi_b, l_lit, qD hr.1, rE hr, h4, X12_isThere_ok _ hr hg xs, h3, nI_eq, Nat.one_ne_zero, if_true, if_false]
    · have h31 : M 3 s = 1 := by omega
      have hE2 : M 0 1 < 12 := by omega
      have h12 : ¬ M 0 1 = 12 := by omega
      obtain ⟨q, hq⟩ := bst_some (nxF M s) 599
      have hgk : ∀ k, k < 600 → Good (aeN M s (k / 100) (k % 100) 99) := fun k hk => aeN_good hg xs (by omega) (by omega) (Or.inl rfl) hE2
      refine api_read hi (.int (nI q)) ⟨yro A 76 (M 0 1) (fun e => nI (novN M e)), ?_, Sc_ro (by unfold scr; omega) (by omega)⟩ (fun A1 hi => ?_)
      · have hc' : Col (yro A 76 (M 0 1) (fun e => nI (novN M e))) 2 M := Col_ro hc (by omega)
        have hta : ∀ e, e < M 0 1 → (yro A 76 (M 0 1) (fun e => nI (novN M e))) 76 e = nI (novN M e) := fun e he => yro_at he
        have e0 : ycall 20 87 [.ref 1, .int (nI s)] A = yb_X11_next (ycall 19) (57, [some (.ref 1), some (.int (nI s)), some (.int (-nI 1)), some (.int (-nI 1)), some (.int (nI 0)), none, none], [], yro A 76 (M 0 1) (fun e => nI (novN M e))) := by
          simp (disch := omega) only [en_X11_next, xR, cV hc.1, X0_hasStudent_ok _ hc, hs, bI_t, yi_b, yv_b, l_lit, X0_isIn_ok _ hc hg xs, h31, cgI hc.1, cE hc, hE2, nI_eq, nI_ltI, Nat.one_ne_zero, if_true, if_false, X0_tellNovelties_ok _ hc hg]
        rw [e0]
        refine (for_up (fun t => yb_X11_next (ycall 19) (57, [some (.ref 1), some (.int (nI s)), some (.int (odm (bst (nxF M s) (100 * t)))), some (.int (obd (nxF M s) (bst (nxF M s) (100 * t)))), some (.int (nI t)), none, none], [], yro A 76 (M 0 1) (fun e => nI (novN M e)))) 6 (fun t ht => ?_)).trans ?_
        · refine (bk_X11_next_57 ..).trans ?_
          simp (disch := omega) only [l_lit, nI_leI, show ¬ 6 ≤ t by omega, if_false]
          refine (for_up (fun z => yb_X11_next (ycall 19) (67, [some (.ref 1), some (.int (nI s)), some (.int (odm (bst (nxF M s) (100 * t + z)))), some (.int (obd (nxF M s) (bst (nxF M s) (100 * t + z)))), some (.int (nI t)), some (.int (nI z)), none], [], yro A 76 (M 0 1) (fun e => nI (novN M e)))) 100 (fun z hz => ?_)).trans ?_
          · refine (bk_X11_next_67 ..).trans ?_
            have ev : mwN M s t z = nxF M s (100 * t + z) := by
              show _ = marksN (aeN M s ((100 * t + z) / 100) ((100 * t + z) % 100) 99) s
              rw [show (100 * t + z) / 100 = t by omega, show (100 * t + z) % 100 = z by omega, mwN_eq hg xs ht hz hE2]
            have m1 := marksN_le (hgk (100 * t + z) (by omega)) s
            have m1' : nxF M s (100 * t + z) ≤ 3600 := m1
            rw [show 100 * t + (z + 1) = 100 * t + z + 1 by omega, bst_s]
            cases hb : bst (nxF M s) (100 * t + z) with
            | none =>
              simp (disch := omega) only [xR, cV hc'.1, l_lit, nI_add, nI_mul, yi_b, yv_b, yl_b, if_true, if_false, or_true, true_or, or_false, false_or, and_true, true_and, and_false, false_and, not_true_eq_false, not_false_eq_true, Nat.reduceEqDiff, ↓reduceIte, nI_ltI, nI_leI, show ¬ 99 < z by omega, X0_mw_ok _ hc' hg xs ht hz hta, ev, obd, odm, neg1le]
            | some i =>
              have hi := bst_lt hb
              have m2 : nxF M s i ≤ 3600 := marksN_le (hgk i (by omega)) s
              simp (disch := omega) only [xR, cV hc'.1, l_lit, nI_add, nI_mul, yi_b, yv_b, yl_b, if_true, if_false, or_true, true_or, or_false, false_or, and_true, true_and, and_false, false_and, not_true_eq_false, not_false_eq_true, Nat.reduceEqDiff, ↓reduceIte, nI_ltI, nI_leI, show ¬ 99 < z by omega, X0_mw_ok _ hc' hg xs ht hz hta, ev, obd, odm]
              by_cases h : nxF M s i < nxF M s (100 * t + z)
              · rw [if_neg (Nat.not_le.mpr h), if_pos h]
              · rw [if_pos (Nat.not_lt.mp h), if_neg h]
          · refine (bk_X11_next_67 ..).trans ?_
            simp (disch := omega) only [l_lit, nI_add, nI_mul, yi_b, yv_b, yl_b, if_true, if_false, or_true, true_or, or_false, false_or, and_true, true_and, and_false, false_and, not_true_eq_false, not_false_eq_true, Nat.reduceEqDiff, ↓reduceIte, nI_ltI, show 99 < 100 by omega]
            rw [show 100 * t + 100 = 100 * (t + 1) by omega]
        · refine (bk_X11_next_57 ..).trans ?_
          simp (disch := omega) only [l_lit, nI_leI, Nat.le_refl, if_true]
          rw [show 100 * 6 = 599 + 1 by rfl, hq]
          rfl
      · have hr := iR hi
        have e0 : ycall 20 184 [.ref 79, .int (nI s)] A1 = yb_X12_next (ycall 19) (43, [some (.ref 79), some (.int (nI s)), some (.int (-nI 4)), some (.int (-nI 1)), some (.int (nI 0)), none], [], A1) := by
          simp (disch := omega) only [en_X12_next, mV, mR, X12_isStudent_ok _ hr hg, hs, bI_t, yi_b, l_lit, qD hr.1, rE hr, h12, X12_isThere_ok _ hr hg xs, h31, nI_eq, Nat.one_ne_zero, if_true, if_false]
        rw [e0]
        have lp : ∀ (j k : Nat) (A : yM), k + j = 600 → Row A 80 M → ∃ A', yb_X12_next (ycall 19) (43, [some (.ref 79), some (.int (nI s)), some (.int (ocd (bst (nxF M s) k))), some (.int (obd (nxF M s) (bst (nxF M s) k))), some (.int (nI k)), none], [], A) = some (some (.int (nI q)), A') ∧ Sc A A' := by
          intro j
          induction j with
          | zero =>
            intro k A hk hr
            have : k = 599 + 1 := by omega
            subst this
            refine ⟨A, ?_, Sc_r A⟩
            refine (bk_X12_next_43 ..).trans ?_
            rw [hq]
            simp (disch := omega) only [l_lit, nI_leI, Nat.reduceAdd, Nat.le_refl, if_true, ocd]
          | succ j ih =>
            intro k A hk hr
            have hk6 : k < 600 := by omega
            obtain ⟨A1, a1, a2, a3⟩ := X12_copies_ok (n := 19) (by omega) hr hg (q2 := 81) (by omega) (by omega)
            obtain ⟨A2, b1, b2, b3⟩ := X12_errsIn_ok (n := 19) (by omega) a2 hg (s := s) (t := k / 100) (z := k % 100) (c := 99) hE2
            have hs2 : Sc A A2 := Sc_Fq (Or.inl rfl) (Fq_t a3 b3)
            obtain ⟨A3, c1, c2⟩ := ih (k + 1) A2 (by omega) (Row_Sc hr hs2)
            refine ⟨A3, ?_, Sc_t hs2 c2⟩
            rw [← c1]
            refine (bk_X12_next_43 ..).trans ?_
            have m1 := marksN_le (hgk k hk6) s
            have m1' : nxF M s k ≤ 3600 := m1
            have hrem : nI k - nI (k / 100 * 100) = nI (k % 100) := by
              rw [nI_sub (by omega)]
              exact congrArg nI (by omega)
            rw [bst_s]
            cases hb : bst (nxF M s) k with
            | none =>
              simp (disch := omega) only [mR, l_lit, nI_add, nI_mul, yi_b, yv_b, yl_b, if_true, if_false, or_true, true_or, or_false, false_or, and_true, true_and, and_false, false_and, not_true_eq_false, not_false_eq_true, Nat.reduceEqDiff, ↓reduceIte, nI_eq, nI_ltI, nI_leI, Nat.not_le.mpr hk6, a1, nI_div, hrem, b1, X12_marksOf_ok _ b2 (hgk k hk6), obd, ocd, neg1]
            | some i =>
              have hi := bst_lt hb
              have m2 : nxF M s i ≤ 3600 := marksN_le (hgk i (by omega)) s
              simp (disch := omega) only [mR, l_lit, nI_add, nI_mul, yi_b, yv_b, yl_b, if_true, if_false, or_true, true_or, or_false, false_or, and_true, true_and, and_false, false_and, not_true_eq_false, not_false_eq_true, Nat.reduceEqDiff, ↓reduceIte, nI_eq, nI_ltI, nI_leI, Nat.not_le.mpr hk6, a1, nI_div, hrem, b1, X12_marksOf_ok _ b2 (hgk k hk6), obd, ocd]
              by_cases h : nxF M s i < nxF M s k
              · rw [if_pos h, if_pos h]
              · rw [if_neg h, if_neg h]
        exact lp 600 0 A1 (by omega) hr
  · have hs := okI_f hs
    refine api_read hi (.int (-1)) ⟨_, ?_, Sc_r A⟩ (fun A1 hi => ⟨_, ?_, Sc_r A1⟩)
    · rw [en_X11_next, (xR _ _).1, cV hc.1, X0_hasStudent_ok (by omega) hc, hs, bI_f, yi_b]
      exact if_pos rfl
    · have hr := iR hi
      rw [en_X12_next, mV, X12_isStudent_ok (by omega) hr hg, hs, bI_f, yi_b]
      exact if_pos rfl
end A7
