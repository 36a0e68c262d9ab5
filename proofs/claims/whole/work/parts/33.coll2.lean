/-! a row's beginning told anew -/
def yro (A : yM) (a n : Nat) (f : Nat → Int32) : yM := fun p j => if p = a ∧ j < n then f j else A p j
theorem yro_ne {A : yM} {a n p : Nat} {f : Nat → Int32} (h : p ≠ a) : yro A a n f p = A p := by
  funext j
  unfold yro
  rw [if_neg (fun q => h q.1)]
theorem yro_at {A : yM} {a n j : Nat} {f : Nat → Int32} (h : j < n) : yro A a n f a j = f j := by
  unfold yro
  rw [if_pos ⟨rfl, h⟩]
theorem yro_0 {A : yM} {a : Nat} {f : Nat → Int32} : yro A a 0 f = A := by
  funext p j
  unfold yro
  rw [if_neg (fun q => by omega)]
theorem yro_congr {A : yM} {a n : Nat} {f g : Nat → Int32} (h : ∀ j, j < n → f j = g j) : yro A a n f = yro A a n g := by
  funext p j
  unfold yro
  by_cases hq : p = a ∧ j < n
  · rw [if_pos hq, if_pos hq, h j hq.2]
  · rw [if_neg hq, if_neg hq]
theorem yup_yro {A : yM} {a n i : Nat} {f g : Nat → Int32} {v : Int32} (hi : i < n) (h : ∀ j, j < n → (if j = i then v else f j) = g j) : yup (yro A a n f) a i v = yro A a n g := by
  funext p j
  unfold yup yro
  by_cases hp : p = a
  · subst hp
    by_cases hj : j < n
    · by_cases hji : j = i
      · subst hji
        rw [if_pos ⟨rfl, rfl⟩, if_pos ⟨rfl, hj⟩, ← h j hj, if_pos rfl]
      · rw [if_neg (fun q => hji q.2), if_pos ⟨rfl, hj⟩, if_pos ⟨rfl, hj⟩, ← h j hj, if_neg hji]
    · rw [if_neg (fun q => by omega), if_neg (fun q => hj q.2), if_neg (fun q => hj q.2)]
  · rw [if_neg (fun q => hp q.1), if_neg (fun q => hp q.1), if_neg (fun q => hp q.1)]
theorem yup_grow {A : yM} {a n : Nat} {f g : Nat → Int32} (h : ∀ j, j < n → f j = g j) : yup (yro A a n f) a n (g n) = yro A a (n + 1) g := by
  funext p j
  unfold yup yro
  by_cases hp : p = a
  · subst hp
    by_cases hj : j < n
    · rw [if_neg (fun q => by omega), if_pos ⟨rfl, hj⟩, if_pos ⟨rfl, by omega⟩, h j hj]
    · by_cases hjn : j = n
      · subst hjn
        rw [if_pos ⟨rfl, rfl⟩, if_pos ⟨rfl, by omega⟩]
      · rw [if_neg (fun q => hjn q.2), if_neg (fun q => hj q.2), if_neg (fun q => by omega)]
  · rw [if_neg (fun q => hp q.1), if_neg (fun q => hp q.1), if_neg (fun q => hp q.1)]
theorem Col_fr {A A' : yM} {b : Nat} {M : Mt} (hc : Col A b M) (h : ∀ p, p = b ∨ (b + 10 ≤ p ∧ p ≤ b + 16) → A' p = A p) : Col A' b M := by
  obtain ⟨h1, h2, h3, h4, h5, h6, h7, h8⟩ := hc
  have e0 := h b (Or.inl rfl)
  have e : ∀ j, 10 ≤ j → j ≤ 16 → A' (b + j) = A (b + j) := fun j a c => h (b + j) (Or.inr ⟨by omega, by omega⟩)
  refine ⟨h1, by rw [e0]; exact h2, by rw [e0]; exact h3, by rw [e0]; exact h4, by rw [e0]; exact h5, by rw [e0]; exact h6, fun p hp => ?_, fun e' he => ?_⟩
  · rw [e 10 (by omega) (by omega), e 11 (by omega) (by omega)]
    exact h7 p hp
  · rw [e 12 (by omega) (by omega), e 13 (by omega) (by omega), e 14 (by omega) (by omega), e 15 (by omega) (by omega), e 16 (by omega) (by omega)]
    exact h8 e' he
theorem Col_ro {A : yM} {b : Nat} {M : Mt} {a n : Nat} {f : Nat → Int32} (hc : Col A b M) (h : a ≠ b ∧ ¬ (b + 10 ≤ a ∧ a ≤ b + 16)) : Col (yro A a n f) b M := Col_fr hc (fun p hp => yro_ne (by omega))
/-! the best one: the first with most -/
def ocd : Option Nat → Int32
  | none => -4
  | some k => nI k
def bst (f : Nat → Nat) (n : Nat) : Option Nat := fo (fun p o => match o with
  | none => some p
  | some q => if f q < f p then some p else some q) none n
theorem bst_s (f : Nat → Nat) (n : Nat) : bst f (n + 1) = match bst f n with
  | none => some n
  | some q => if f q < f n then some n else some q := rfl
theorem bst_lt {f : Nat → Nat} : ∀ {n q : Nat}, bst f n = some q → q < n := by
  intro n
  induction n with
  | zero => intro q h; cases h
  | succ n ih =>
    intro q h
    rw [bst_s] at h
    split at h
    · cases h; omega
    · rename_i r hr
      split at h
      · cases h; omega
      · cases h
        have := ih hr
        omega
theorem bst_congr {f g : Nat → Nat} {n : Nat} (h : ∀ k, k < n → f k = g k) : bst f n = bst g n := by
  induction n with
  | zero => rfl
  | succ n ih =>
    rw [bst_s, bst_s, ih (fun k hk => h k (by omega))]
    cases hb : bst g n with
    | none => rfl
    | some q =>
      have := bst_lt hb
      dsimp only
      rw [h q (by omega), h n (by omega)]
theorem neg4 : (-nI 4 < nI 0) = True := eq_true (by decide +kernel)
theorem X11_firstOfMost_ok {n : Nat} {A : yM} {a L c : Nat} {f : Nat → Nat} (hn : 1 ≤ n) (hl : yln A a = some L) (hL : L < 1000) (hc : c ≤ L) (hf : ∀ i, i < c → A a i = nI (f i) ∧ f i < 2 ^ 31) : ycall n 98 [.ref a, .int (nI c)] A = some (some (.int (ocd (bst f c))), A) := by
  obtain ⟨n, rfl⟩ := Nat.exists_eq_add_of_le' hn
  rw [en_X11_firstOfMost]
  refine (for_up (fun k => yb_X11_firstOfMost (ycall n) (5, [some (.ref a), some (.int (nI c)), some (.int (ocd (bst f k))), some (.int (nI k))], [], A)) c (fun k hk => ?_)).trans ?_
  · refine (bk_X11_firstOfMost_5 ..).trans ?_
    rw [bst_s]
    cases hb : bst f k with
    | none =>
      simp (disch := omega) only [l_lit, nI_add, nI_mul, yi_b, yv_b, yl_b, if_true, if_false, or_true, true_or, or_false, false_or, and_true, true_and, and_false, false_and, not_true_eq_false, not_false_eq_true, Nat.reduceEqDiff, ↓reduceIte, nI_eq, nI_leI, nI_ltI, Nat.not_le.mpr hk, ocd, neg4]
    | some q =>
      have hq := bst_lt hb
      have h1 := hf k hk
      have h2 := hf q (by omega)
      simp (disch := omega) only [l_lit, nI_add, nI_mul, yi_b, yv_b, yl_b, if_true, if_false, or_true, true_or, or_false, false_or, and_true, true_and, and_false, false_and, not_true_eq_false, not_false_eq_true, Nat.reduceEqDiff, ↓reduceIte, Nat.not_le.mpr hk, ocd, yrd_at hl, h1, h2, nI_leI, nI_ltI, Nat.not_lt_zero]
      by_cases h3 : f q < f k
      · simp [h3, Nat.not_le.mpr h3]
      · simp [h3, Nat.not_lt.mp h3]
  · refine (bk_X11_firstOfMost_5 ..).trans ?_
    simp (disch := omega) only [l_lit, nI_add, nI_mul, yi_b, yv_b, yl_b, if_true, if_false, or_true, true_or, or_false, false_or, and_true, true_and, and_false, false_and, not_true_eq_false, not_false_eq_true, Nat.reduceEqDiff, ↓reduceIte, nI_eq, nI_leI, nI_ltI, Nat.le_refl]
section C2
variable {n b p e : Nat} {A : yM} {M : Mt}
theorem X0_allMarks_ok (hn : 5 ≤ n) (hc : Col A b M) (hg : Good M) : ycall n 18 [.ref b] A = some (some (.int (nI (allN M))), A) := by
  obtain ⟨n, rfl⟩ := Nat.exists_eq_add_of_le' hn
  have hE := gE hg
  rw [en_X0_allMarks]
  refine (for_up (fun k => yb_X0_allMarks (ycall (n + 4)) (4, [some (.ref b), some (.int (nI (sm (markN M) k))), some (.int (nI k))], [], A)) (M 0 1) (fun k hk => ?_)).trans ?_
  · have h6 : sm (markN M) (k + 1) = sm (markN M) k + markN M k := rfl
    refine (bk_X0_allMarks_4 ..).trans ?_
    simp (disch := omega) only [cgI hc.1, cS hc, cE hc, cWk hc, cR hc.1, cD12 hc.1, cD6 hc.1, cBy hc, cTp hc, cSz hc, cCt hc, cTc hc, cKd hc, cFg hc, cV hc.1, X0_noveltyOf_ok _ hc hg hk, X0_mark_ok _ hc hg hk, l_lit, nI_add, nI_mul, yi_b, yv_b, yl_b, if_true, if_false, or_true, true_or, or_false, false_or, and_true, true_and, and_false, false_and, not_true_eq_false, not_false_eq_true, Nat.reduceEqDiff, ↓reduceIte, nI_eq, nI_leI, nI_ltI, Nat.not_le.mpr hk, h6]
  · refine (bk_X0_allMarks_4 ..).trans ?_
    simp (disch := omega) only [cgI hc.1, cS hc, cE hc, cWk hc, cR hc.1, cD12 hc.1, cD6 hc.1, cBy hc, cTp hc, cSz hc, cCt hc, cTc hc, cKd hc, cFg hc, cV hc.1, l_lit, nI_add, nI_mul, yi_b, yv_b, yl_b, if_true, if_false, or_true, true_or, or_false, false_or, and_true, true_and, and_false, false_and, not_true_eq_false, not_false_eq_true, Nat.reduceEqDiff, ↓reduceIte, nI_eq, nI_leI, nI_ltI, Nat.le_refl]
    rfl
theorem X0_allSize_ok (hn : 1 ≤ n) (hc : Col A b M) (hg : Good M) : ycall n 19 [.ref b] A = some (some (.int (nI (sizesN M))), A) := by
  obtain ⟨n, rfl⟩ := Nat.exists_eq_add_of_le' hn
  have hE := gE hg
  rw [en_X0_allSize]
  refine (for_up (fun k => yb_X0_allSize (ycall n) (4, [some (.ref b), some (.int (nI (sm (M 6) k))), some (.int (nI k))], [], A)) (M 0 1) (fun k hk => ?_)).trans ?_
  · have h6 : sm (M 6) (k + 1) = sm (M 6) k + M 6 k := rfl
    refine (bk_X0_allSize_4 ..).trans ?_
    simp (disch := omega) only [cgI hc.1, cS hc, cE hc, cWk hc, cR hc.1, cD12 hc.1, cD6 hc.1, cBy hc, cTp hc, cSz hc, cCt hc, cTc hc, cKd hc, cFg hc, cV hc.1, l_lit, nI_add, nI_mul, yi_b, yv_b, yl_b, if_true, if_false, or_true, true_or, or_false, false_or, and_true, true_and, and_false, false_and, not_true_eq_false, not_false_eq_true, Nat.reduceEqDiff, ↓reduceIte, nI_eq, nI_leI, nI_ltI, Nat.not_le.mpr hk, h6]
  · refine (bk_X0_allSize_4 ..).trans ?_
    simp (disch := omega) only [cgI hc.1, cS hc, cE hc, cWk hc, cR hc.1, cD12 hc.1, cD6 hc.1, cBy hc, cTp hc, cSz hc, cCt hc, cTc hc, cKd hc, cFg hc, cV hc.1, l_lit, nI_add, nI_mul, yi_b, yv_b, yl_b, if_true, if_false, or_true, true_or, or_false, false_or, and_true, true_and, and_false, false_and, not_true_eq_false, not_false_eq_true, Nat.reduceEqDiff, ↓reduceIte, nI_eq, nI_leI, nI_ltI, Nat.le_refl]
    rfl
/-- memory with MARKS told -/
abbrev tMk (A : yM) (b : Nat) (M : Mt) : yM := yro A (b + 17) (M 0 0) (fun p => nI (marksN M p))
theorem X0_tellMarks_ok (hn : 5 ≤ n) (hc : Col A b M) (hg : Good M) : ycall n 20 [.ref b] A = some (none, tMk A b M) := by
  obtain ⟨n, rfl⟩ := Nat.exists_eq_add_of_le' hn
  have hE := gE hg
  have hS := gS hg
  have hb := hc.1
  rw [en_X0_tellMarks]
  have h0 := for_up (fun k => yb_X0_tellMarks (ycall (n + 4)) (2, [some (.ref b), some (.int (nI k))], [], yro A (b + 17) k (fun _ => nI 0))) (M 0 0) (fun k hk => by
    have hc' : Col (yro A (b + 17) k (fun _ => nI 0)) b M := Col_ro hc (by omega)
    refine (bk_X0_tellMarks_2 ..).trans ?_
    simp (disch := omega) only [cgI hb, cS hc', cR hb, cW6 hb, l_lit, nI_add, nI_mul, yi_b, yv_b, yl_b, if_true, if_false, or_true, true_or, or_false, false_or, and_true, true_and, and_false, false_and, not_true_eq_false, not_false_eq_true, Nat.reduceEqDiff, ↓reduceIte, nI_eq, nI_leI, nI_ltI, Nat.not_le.mpr hk]
    rw [yup_grow (f := fun _ => nI 0) (g := fun _ => nI 0) (fun _ _ => rfl)])
  rw [yro_0] at h0
  refine h0.trans ?_
  have hcS : Col (yro A (b + 17) (M 0 0) (fun _ => nI 0)) b M := Col_ro hc (by omega)
  refine (bk_X0_tellMarks_2 ..).trans ?_
  simp (disch := omega) only [cgI hb, cS hcS, l_lit, nI_add, nI_mul, yi_b, yv_b, yl_b, if_true, if_false, or_true, true_or, or_false, false_or, and_true, true_and, and_false, false_and, not_true_eq_false, not_false_eq_true, Nat.reduceEqDiff, ↓reduceIte, nI_eq, nI_leI, nI_ltI, Nat.le_refl]
  refine (for_up (fun k => yb_X0_tellMarks (ycall (n + 4)) (25, [some (.ref b), some (.int (nI k))], [], yro A (b + 17) (M 0 0) (fun p => nI (sm (fun e => if M 4 e = p then markN M e else 0) k)))) (M 0 1) (fun k hk => ?_)).trans ?_
  · have hc' : Col (yro A (b + 17) (M 0 0) (fun p => nI (sm (fun e => if M 4 e = p then markN M e else 0) k))) b M := Col_ro hc (by omega)
    have h3 := gEr hg hk
    refine (bk_X0_tellMarks_25 ..).trans ?_
    simp (disch := omega) only [cgI hb, cE hc', cR hb, cD12 hb, cD6 hb, cBy hc', cV hb, cW6 hb, yro_at, X0_noveltyOf_ok _ hc' hg hk, X0_mark_ok _ hc' hg hk, l_lit, nI_add, nI_mul, yi_b, yv_b, yl_b, if_true, if_false, or_true, true_or, or_false, false_or, and_true, true_and, and_false, false_and, not_true_eq_false, not_false_eq_true, Nat.reduceEqDiff, ↓reduceIte, nI_eq, nI_leI, nI_ltI, Nat.not_le.mpr hk]
    rw [yup_yro (by omega) (fun j hj => ?_)]
    show _ = nI (sm (fun e => if M 4 e = j then markN M e else 0) k + (if M 4 k = j then markN M k else 0))
    by_cases hj2 : j = M 4 k
    · subst hj2; simp
    · rw [if_neg hj2, if_neg (fun q => hj2 q.symm), Nat.add_zero]
  · have hc' : Col (yro A (b + 17) (M 0 0) (fun p => nI (sm (fun e => if M 4 e = p then markN M e else 0) (M 0 1)))) b M := Col_ro hc (by omega)
    refine (bk_X0_tellMarks_25 ..).trans ?_
    simp (disch := omega) only [cgI hb, cE hc', l_lit, nI_add, nI_mul, yi_b, yv_b, yl_b, if_true, if_false, or_true, true_or, or_false, false_or, and_true, true_and, and_false, false_and, not_true_eq_false, not_false_eq_true, Nat.reduceEqDiff, ↓reduceIte, nI_eq, nI_leI, nI_ltI, Nat.le_refl]
    rfl
def rankN (M : Mt) (p : Nat) : Nat := sm (fun o => if marksN M p < marksN M o ∨ (marksN M o = marksN M p ∧ o < p) then 1 else 0) (M 0 0)
theorem X0_rankOf_ok (hn : 6 ≤ n) (hc : Col A b M) (hg : Good M) (hp : p < M 0 0) : ycall n 21 [.ref b, .int (nI p)] A = some (some (.int (nI (rankN M p))), tMk A b M) := by
  obtain ⟨n, rfl⟩ := Nat.exists_eq_add_of_le' hn
  have hS := gS hg
  have hb := hc.1
  have hc' : Col (tMk A b M) b M := Col_ro hc (by omega)
  rw [en_X0_rankOf, cV hb, X0_tellMarks_ok (by omega) hc hg, yv_b]
  refine (for_up (fun k => yb_X0_rankOf (ycall (n + 5)) (8, [some (.ref b), some (.int (nI p)), some (.int (nI (sm (fun o => if marksN M p < marksN M o ∨ (marksN M o = marksN M p ∧ o < p) then 1 else 0) k))), some (.int (nI k))], [], tMk A b M)) (M 0 0) (fun k hk => ?_)).trans ?_
  · have h1 := marksN_le hg p
    have h2 := marksN_le hg k
    have h6 : sm (fun o => if marksN M p < marksN M o ∨ (marksN M o = marksN M p ∧ o < p) then 1 else 0) (k + 1) = sm (fun o => if marksN M p < marksN M o ∨ (marksN M o = marksN M p ∧ o < p) then 1 else 0) k + (if marksN M p < marksN M k ∨ (marksN M k = marksN M p ∧ k < p) then 1 else 0) := rfl
    refine (bk_X0_rankOf_8 ..).trans ?_
    simp (disch := omega) only [cgI hb, cS hc', cR hb, cD6 hb, yro_at, l_lit, nI_add, nI_mul, yi_b, yv_b, yl_b, if_true, if_false, or_true, true_or, or_false, false_or, and_true, true_and, and_false, false_and, not_true_eq_false, not_false_eq_true, Nat.reduceEqDiff, ↓reduceIte, nI_eq, nI_leI, nI_ltI, Nat.not_le.mpr hk, h6]
    by_cases q1 : marksN M p < marksN M k
    · simp [q1]
    · by_cases q2 : marksN M k = marksN M p
      · by_cases q3 : k < p
        · simp [q2, q3, Nat.not_le.mpr q3]
        · simp [q2, q3, Nat.not_lt.mp q3]
      · simp [q1, q2]
  · refine (bk_X0_rankOf_8 ..).trans ?_
    simp (disch := omega) only [cgI hb, cS hc', l_lit, nI_add, nI_mul, yi_b, yv_b, yl_b, if_true, if_false, or_true, true_or, or_false, false_or, and_true, true_and, and_false, false_and, not_true_eq_false, not_false_eq_true, Nat.reduceEqDiff, ↓reduceIte, nI_eq, nI_leI, nI_ltI, Nat.le_refl]
    rfl
def firN (M : Mt) : Option Nat := bst (marksN M) (M 0 0)
theorem X0_firstOfAll_ok (hn : 6 ≤ n) (hc : Col A b M) (hg : Good M) : ycall n 22 [.ref b] A = some (some (.int (ocd (firN M))), tMk A b M) := by
  obtain ⟨n, rfl⟩ := Nat.exists_eq_add_of_le' hn
  have hS := gS hg
  have hb := hc.1
  have hc' : Col (tMk A b M) b M := Col_ro hc (by omega)
  rw [en_X0_firstOfAll, cV hb, X0_tellMarks_ok (by omega) hc hg, yv_b]
  simp (disch := omega) only [cgI hb, cS hc', cR hb]
  rw [X11_firstOfMost_ok (by omega) (yln6 hb (by omega)) (by omega) hS (fun i hi => ⟨yro_at hi, by have := marksN_le hg i; omega⟩), yi_b]
  rfl
theorem X0_leastErrorOf_ok (hn : 1 ≤ n) (hc : Col A b M) (hg : Good M) (hp : p < 6) : ycall n 24 [.ref b, .int (nI p)] A = some (some (.int (ocd (fst (fun e => decide (M 4 e = p)) (M 0 1)))), A) := by
  obtain ⟨n, rfl⟩ := Nat.exists_eq_add_of_le' hn
  have hE := gE hg
  have hS := gS hg
  rw [en_X0_leastErrorOf]
  refine (for_ret (fun k => yb_X0_leastErrorOf (ycall n) (2, [some (.ref b), some (.int (nI p)), some (.int (nI k))], [], A)) (fun k => some (some (.int (nI k)), A)) (fun e => decide (M 4 e = p)) (M 0 1) (fun k hk => ?_)).trans ?_
  · have h3 := gEr hg hk
    refine (bk_X0_leastErrorOf_2 ..).trans ?_
    simp (disch := omega) only [cgI hc.1, cS hc, cE hc, cWk hc, cR hc.1, cD12 hc.1, cD6 hc.1, cBy hc, cTp hc, cSz hc, cCt hc, cTc hc, cKd hc, cFg hc, cV hc.1, l_lit, nI_add, nI_mul, yi_b, yv_b, yl_b, if_true, if_false, or_true, true_or, or_false, false_or, and_true, true_and, and_false, false_and, not_true_eq_false, not_false_eq_true, Nat.reduceEqDiff, ↓reduceIte, nI_eq, nI_leI, nI_ltI, Nat.not_le.mpr hk, decide_eq_true_eq]
  · cases hf : fst (fun e => decide (M 4 e = p)) (M 0 1) with
    | some i => rfl
    | none =>
      refine (bk_X0_leastErrorOf_2 ..).trans ?_
      simp (disch := omega) only [cgI hc.1, cS hc, cE hc, cWk hc, cR hc.1, cD12 hc.1, cD6 hc.1, cBy hc, cTp hc, cSz hc, cCt hc, cTc hc, cKd hc, cFg hc, cV hc.1, l_lit, nI_add, nI_mul, yi_b, yv_b, yl_b, if_true, if_false, or_true, true_or, or_false, false_or, and_true, true_and, and_false, false_and, not_true_eq_false, not_false_eq_true, Nat.reduceEqDiff, ↓reduceIte, nI_eq, nI_leI, nI_ltI, Nat.le_refl]
      rfl
theorem X0_errorsOf_ok (hn : 1 ≤ n) (hc : Col A b M) (hg : Good M) (hp : p < 6) : ycall n 23 [.ref b, .int (nI p)] A = some (some (.int (nI (bts (fun e => if M 4 e = p then 1 else 0) (M 0 1)))), A) := by
  obtain ⟨n, rfl⟩ := Nat.exists_eq_add_of_le' hn
  have hE := gE hg
  have hS := gS hg
  rw [en_X0_errorsOf]
  refine (for_up (fun k => yb_X0_errorsOf (ycall n) (4, [some (.ref b), some (.int (nI p)), some (.int (nI (bts (fun e => if M 4 e = p then 1 else 0) k))), some (.int (nI k))], [], A)) (M 0 1) (fun k hk => ?_)).trans ?_
  · have h3 := gEr hg hk
    have h4 : bts (fun e => if M 4 e = p then 1 else 0) k < 2 ^ k := bts_lt (fun j _ => by split <;> omega)
    have h6 : bts (fun e => if M 4 e = p then 1 else 0) (k + 1) = bts (fun e => if M 4 e = p then 1 else 0) k + (if M 4 k = p then 1 else 0) * 2 ^ k := rfl
    refine (bk_X0_errorsOf_4 ..).trans ?_
    simp (disch := omega) only [cgI hc.1, cS hc, cE hc, cWk hc, cR hc.1, cD12 hc.1, cD6 hc.1, cBy hc, cTp hc, cSz hc, cCt hc, cTc hc, cKd hc, cFg hc, cV hc.1, l_lit, nI_add, nI_mul, yi_b, yv_b, yl_b, if_true, if_false, or_true, true_or, or_false, false_or, and_true, true_and, and_false, false_and, not_true_eq_false, not_false_eq_true, Nat.reduceEqDiff, ↓reduceIte, nI_eq, nI_leI, nI_ltI, Nat.not_le.mpr hk, h6]
    by_cases q : M 4 k = p
    · simp only [if_pos q, Nat.one_mul]
      rw [nI_orbit (by omega) h4]
    · simp only [if_neg q, Nat.zero_mul, Nat.add_zero]
  · refine (bk_X0_errorsOf_4 ..).trans ?_
    simp (disch := omega) only [cgI hc.1, cS hc, cE hc, cWk hc, cR hc.1, cD12 hc.1, cD6 hc.1, cBy hc, cTp hc, cSz hc, cCt hc, cTc hc, cKd hc, cFg hc, cV hc.1, l_lit, nI_add, nI_mul, yi_b, yv_b, yl_b, if_true, if_false, or_true, true_or, or_false, false_or, and_true, true_and, and_false, false_and, not_true_eq_false, not_false_eq_true, Nat.reduceEqDiff, ↓reduceIte, nI_eq, nI_leI, nI_ltI, Nat.le_refl]
end C2
