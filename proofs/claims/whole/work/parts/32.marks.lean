/-! what ERRORS are marked -/
def nearN (M : Mt) (t z sk k : Nat) : Nat := fo (fun e v => if e ≠ sk ∧ M 5 e = t then min v (ds (M 6 e) z) else v) 99 k
def novN (M : Mt) (e : Nat) : Nat := nearN M (M 5 e) (M 6 e) e (M 0 1)
def markN (M : Mt) (e : Nat) : Nat := if M 8 e = 1 then 0 else mkN (M 1 (M 4 e)) (M 2 (M 4 e)) (M 6 e) (citN M e) (novN M e)
def marksN (M : Mt) (p : Nat) : Nat := sm (fun e => if M 4 e = p then markN M e else 0) (M 0 1)
def allN (M : Mt) : Nat := sm (markN M) (M 0 1)
def sizesN (M : Mt) : Nat := sm (M 6) (M 0 1)
theorem ds_lt {a b c : Nat} (ha : a < c) (hb : b < c) : ds a b < c := by unfold ds; omega
theorem ds_comm (a b : Nat) : ds a b = ds b a := by unfold ds; omega
theorem nearN_le (M : Mt) (t z sk k : Nat) : nearN M t z sk k ≤ 99 := by
  refine fo_inv (fun v => v ≤ 99) (Nat.le_refl _) (fun k x _ hx => ?_)
  split
  · exact Nat.le_trans (Nat.min_le_left _ _) hx
  · exact hx
theorem novN_le (M : Mt) (e : Nat) : novN M e ≤ 99 := nearN_le _ _ _ _ _
theorem citN_le {M : Mt} (hg : Good M) (e : Nat) : citN M e ≤ 12 := by
  have := sm_le (f := fun k => if M 7 k = e then 1 else 0) (c := 1) (n := M 0 1) (fun k _ => by split <;> omega)
  have := gE hg
  unfold citN
  omega
theorem markN_le {M : Mt} (hg : Good M) {e : Nat} (he : e < M 0 1) : markN M e ≤ 300 := by
  have h1 := citN_le hg e
  have h2 := novN_le M e
  have h3 := gEr hg he
  have h4 := gP hg h3.1
  unfold markN mkN
  split
  · omega
  · split <;> omega
theorem marksN_le {M : Mt} (hg : Good M) (p : Nat) : marksN M p ≤ 3600 := by
  have := sm_le (f := fun e => if M 4 e = p then markN M e else 0) (c := 300) (n := M 0 1) (fun k hk => by split; exact markN_le hg hk; omega)
  have := gE hg
  unfold marksN
  omega
theorem allN_le {M : Mt} (hg : Good M) : allN M ≤ 3600 := by
  have := sm_le (f := markN M) (c := 300) (n := M 0 1) (fun k hk => markN_le hg hk)
  have := gE hg
  unfold allN
  omega
section MK
variable {n b p e : Nat} {A : yM} {M : Mt}
theorem X0_nearest_ok (hn : 1 ≤ n) (hc : Col A b M) (hg : Good M) {t z sk : Nat} {lo : Int32} (ht : t < 1000) (hz : z < 1000) (hlo : ∀ e, e < 12 → (nI e = lo ↔ e = sk)) : ycall n 12 [.ref b, .int (nI t), .int (nI z), .int lo] A = some (some (.int (nI (nearN M t z sk (M 0 1)))), A) := by
  obtain ⟨n, rfl⟩ := Nat.exists_eq_add_of_le' hn
  have hE := gE hg
  rw [en_X0_nearest]
  refine (for_up (fun k => yb_X0_nearest (ycall n) (7, [some (.ref b), some (.int (nI t)), some (.int (nI z)), some (.int lo), some (.int (nI (nearN M t z sk k))), some (.int (nI k))], [], A)) (M 0 1) (fun k hk => ?_)).trans ?_
  · have h3 := gEr hg hk
    have h4 := nearN_le M t z sk k
    have h5 := hlo k (by omega)
    have h6 : nearN M t z sk (k + 1) = if k ≠ sk ∧ M 5 k = t then min (nearN M t z sk k) (ds (M 6 k) z) else nearN M t z sk k := rfl
    have h7 : ds (M 6 k) z < 1000 := ds_lt (by omega) hz
    refine (bk_X0_nearest_7 ..).trans ?_
    simp (disch := omega) only [cgI hc.1, cE hc, cR hc.1, cD12 hc.1, cTp hc, cSz hc, l_lit, nI_add, nI_mul, yi_b, yv_b, yl_b, if_true, if_false, or_true, true_or, or_false, false_or, and_true, true_and, and_false, false_and, not_true_eq_false, not_false_eq_true, Nat.reduceEqDiff, ↓reduceIte, nI_eq, nI_leI, nI_ltI, Nat.not_le.mpr hk, h5, h6, nI_abs, nI_minN]
    by_cases q1 : k = sk
    · simp [q1]
    · by_cases q2 : M 5 k = t
      · simp [q1, q2]
      · simp [q1, q2]
  · refine (bk_X0_nearest_7 ..).trans ?_
    simp (disch := omega) only [cgI hc.1, cE hc, l_lit, nI_add, nI_mul, yi_b, yv_b, yl_b, if_true, if_false, or_true, true_or, or_false, false_or, and_true, true_and, and_false, false_and, not_true_eq_false, not_false_eq_true, Nat.reduceEqDiff, ↓reduceIte, nI_eq, nI_leI, nI_ltI, Nat.le_refl]
theorem X0_noveltyOf_ok (hn : 2 ≤ n) (hc : Col A b M) (hg : Good M) (he : e < M 0 1) : ycall n 13 [.ref b, .int (nI e)] A = some (some (.int (nI (novN M e))), A) := by
  obtain ⟨n, rfl⟩ := Nat.exists_eq_add_of_le' hn
  have hE := gE hg
  have h3 := gEr hg he
  simp (disch := omega) only [en_X0_noveltyOf, cR hc.1, cD12 hc.1, cTp hc, cSz hc, cV hc.1]
  rw [X0_nearest_ok (by omega) hc hg (sk := e) (by omega) (by omega) (fun k hk => nI_eq (by omega) (by omega))]
  rfl
theorem X0_markedFor_ok (hn : 4 ≤ n) (hc : Col A b M) (hg : Good M) (he : e < M 0 1) {v : Nat} : ycall n 15 [.ref b, .int (nI e), .int (nI v)] A = some (some (.int (nI (if M 8 e = 1 then 0 else mkN (M 1 (M 4 e)) (M 2 (M 4 e)) (M 6 e) (citN M e) v))), A) := by
  obtain ⟨n, rfl⟩ := Nat.exists_eq_add_of_le' hn
  have hE := gE hg
  have hS := gS hg
  have h3 := gEr hg he
  have h4 := gP hg h3.1
  have hk : ycl A (b + 2 + M 1 (M 4 e)) = some (kcl (M 1 (M 4 e))) := ycl_k hc.1 h4.1
  simp (disch := omega) only [en_X0_markedFor, cR hc.1, cD12 hc.1, cD6 hc.1, cBy hc, cSz hc, cTc hc, cKd hc, cFg hc, cV hc.1, X0_isCorrected_ok _ hc hg he, cK hc.1, kv_marked _ hk, l_lit, nI_add, nI_mul, yi_b, yv_b, yl_b, if_true, if_false, or_true, true_or, or_false, false_or, and_true, true_and, and_false, false_and, not_true_eq_false, not_false_eq_true, Nat.reduceEqDiff, ↓reduceIte, nI_eq, nI_leI, nI_ltI]
  have : M 8 e = 0 ∨ M 8 e = 1 := by omega
  rcases this with h | h <;> simp [h]
theorem X0_mark_ok (hn : 4 ≤ n) (hc : Col A b M) (hg : Good M) (he : e < M 0 1) : ycall n 15 [.ref b, .int (nI e), .int (nI (novN M e))] A = some (some (.int (nI (markN M e))), A) := X0_markedFor_ok hn hc hg he
theorem X0_marksOf_ok (hn : 5 ≤ n) (hc : Col A b M) (hg : Good M) (hp : p < 6) : ycall n 16 [.ref b, .int (nI p)] A = some (some (.int (nI (marksN M p))), A) := by
  obtain ⟨n, rfl⟩ := Nat.exists_eq_add_of_le' hn
  have hE := gE hg
  rw [en_X0_marksOf]
  refine (for_up (fun k => yb_X0_marksOf (ycall (n + 4)) (4, [some (.ref b), some (.int (nI p)), some (.int (nI (sm (fun e => if M 4 e = p then markN M e else 0) k))), some (.int (nI k))], [], A)) (M 0 1) (fun k hk => ?_)).trans ?_
  · have h3 := gEr hg hk
    have hS := gS hg
    have h6 : sm (fun e => if M 4 e = p then markN M e else 0) (k + 1) = sm (fun e => if M 4 e = p then markN M e else 0) k + (if M 4 k = p then markN M k else 0) := rfl
    refine (bk_X0_marksOf_4 ..).trans ?_
    simp (disch := omega) only [cgI hc.1, cE hc, cR hc.1, cD12 hc.1, cBy hc, cV hc.1, X0_noveltyOf_ok _ hc hg hk, X0_mark_ok _ hc hg hk, l_lit, nI_add, nI_mul, yi_b, yv_b, yl_b, if_true, if_false, or_true, true_or, or_false, false_or, and_true, true_and, and_false, false_and, not_true_eq_false, not_false_eq_true, Nat.reduceEqDiff, ↓reduceIte, nI_eq, nI_leI, nI_ltI, Nat.not_le.mpr hk, h6]
    by_cases q1 : M 4 k = p
    · simp [q1]
    · simp [q1]
  · refine (bk_X0_marksOf_4 ..).trans ?_
    simp (disch := omega) only [cgI hc.1, cE hc, l_lit, nI_add, nI_mul, yi_b, yv_b, yl_b, if_true, if_false, or_true, true_or, or_false, false_or, and_true, true_and, and_false, false_and, not_true_eq_false, not_false_eq_true, Nat.reduceEqDiff, ↓reduceIte, nI_eq, nI_leI, nI_ltI, Nat.le_refl]
    rfl
end MK
