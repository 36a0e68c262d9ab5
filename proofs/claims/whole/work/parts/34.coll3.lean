/-! nets of citing, votes -/
def dpF (M : Mt) : Nat → Nat → Nat
  | 0, _ => 0
  | f + 1, e => 1 + (if M 7 e < e then dpF M f (M 7 e) else 0)
def dpN (M : Mt) (e : Nat) : Nat := dpF M (e + 1) e
theorem dpF_mono (M : Mt) : ∀ (f g e : Nat), e < f → e < g → dpF M f e = dpF M g e := by
  intro f
  induction f with
  | zero => intro g e h; omega
  | succ f ih =>
    intro g e h1 h2
    cases g with
    | zero => omega
    | succ g =>
      show 1 + (if M 7 e < e then dpF M f (M 7 e) else 0) = 1 + (if M 7 e < e then dpF M g (M 7 e) else 0)
      by_cases hq : M 7 e < e
      · rw [if_pos hq, if_pos hq, ih g _ (by omega) (by omega)]
      · rw [if_neg hq, if_neg hq]
theorem dpN_eq (M : Mt) (e : Nat) : dpN M e = 1 + (if M 7 e < e then dpN M (M 7 e) else 0) := by
  show 1 + (if M 7 e < e then dpF M e (M 7 e) else 0) = _
  by_cases hq : M 7 e < e
  · rw [if_pos hq, if_pos hq]
    unfold dpN
    rw [dpF_mono M e (M 7 e + 1) _ hq (by omega)]
  · rw [if_neg hq, if_neg hq]
theorem dpN_le (M : Mt) : ∀ (f e : Nat), e < f → dpN M e ≤ e + 1 := by
  intro f
  induction f with
  | zero => intro e h; omega
  | succ f ih =>
    intro e h
    rw [dpN_eq]
    split
    · rename_i hq
      have := ih _ (show M 7 e < f by omega)
      omega
    · omega
/-- whether k cites e in the end -/
def rcF (M : Mt) (e : Nat) : Nat → Nat → Bool
  | 0, _ => false
  | f + 1, k => decide (M 7 k < k) && (decide (M 7 k = e) || rcF M e f (M 7 k))
def rcN (M : Mt) (e k : Nat) : Bool := rcF M e (k + 1) k
theorem rcF_mono (M : Mt) (e : Nat) : ∀ (f g k : Nat), k < f → k < g → rcF M e f k = rcF M e g k := by
  intro f
  induction f with
  | zero => intro g k h; omega
  | succ f ih =>
    intro g k h1 h2
    cases g with
    | zero => omega
    | succ g =>
      show (decide (M 7 k < k) && (decide (M 7 k = e) || rcF M e f (M 7 k))) = (decide (M 7 k < k) && (decide (M 7 k = e) || rcF M e g (M 7 k)))
      by_cases hq : M 7 k < k
      · rw [ih g _ (by omega) (by omega)]
      · simp [hq]
theorem rcN_eq (M : Mt) (e k : Nat) : rcN M e k = (decide (M 7 k < k) && (decide (M 7 k = e) || rcN M e (M 7 k))) := by
  show (decide (M 7 k < k) && (decide (M 7 k = e) || rcF M e k (M 7 k))) = _
  by_cases hq : M 7 k < k
  · unfold rcN
    rw [rcF_mono M e k (M 7 k + 1) _ hq (by omega)]
  · simp [hq]
theorem rcN_lt (M : Mt) (e : Nat) : ∀ (f k : Nat), k < f → rcN M e k = true → e < k := by
  intro f
  induction f with
  | zero => intro k h; omega
  | succ f ih =>
    intro k h hr
    rw [rcN_eq] at hr
    simp only [Bool.and_eq_true, Bool.or_eq_true, decide_eq_true_eq] at hr
    rcases hr.2 with h2 | h2
    · omega
    · have := ih _ (by omega) h2
      omega
def ceN (M : Mt) (e : Nat) : Nat := sm (fun k => if rcN M e k = true then 1 else 0) (M 0 1)
/-- the first with most of those with P -/
def bsf (P : Nat → Bool) (f : Nat → Nat) (n : Nat) : Option Nat := fo (fun p o => if P p = true then (match o with
  | none => some p
  | some q => if f q < f p then some p else some q) else o) none n
theorem bsf_s (P : Nat → Bool) (f : Nat → Nat) (n : Nat) : bsf P f (n + 1) = if P n = true then (match bsf P f n with
  | none => some n
  | some q => if f q < f n then some n else some q) else bsf P f n := rfl
theorem bsf_lt {P : Nat → Bool} {f : Nat → Nat} : ∀ {n q : Nat}, bsf P f n = some q → q < n ∧ P q = true := by
  intro n
  induction n with
  | zero => intro q h; cases h
  | succ n ih =>
    intro q h
    rw [bsf_s] at h
    split at h
    · rename_i hp
      split at h
      · cases h; exact ⟨by omega, hp⟩
      · rename_i r hr
        split at h
        · cases h; exact ⟨by omega, hp⟩
        · cases h
          have := ih hr
          exact ⟨by omega, this.2⟩
    · have := ih h
      exact ⟨by omega, this.2⟩
def chN (M : Mt) (v : Nat) : Option Nat := bsf (fun s => decide (s ≠ v ∧ M 3 s = 1)) (marksN M) (M 0 0)
def voN (M : Mt) (p : Nat) : Nat := sm (fun s => if M 3 s = 1 ∧ chN M s = some p then 1 else 0) (M 0 0)
def elN (M : Mt) : Option Nat := bsf (fun s => decide (M 3 s = 1)) (voN M) (M 0 0)
def tmN (M : Mt) (s more : Nat) : Nat := sm (fun o => if o ≠ s ∧ M 3 o = 1 then voN M o + (if o < s then 1 else 0) - (voN M s + more) else 0) (M 0 0)
theorem voN_le {M : Mt} (hg : Good M) (p : Nat) : voN M p ≤ 6 := by
  have := sm_le (f := fun s => if M 3 s = 1 ∧ chN M s = some p then 1 else 0) (c := 1) (n := M 0 0) (fun k _ => by split <;> omega)
  have := gS hg
  unfold voN
  omega
theorem nI_over {a c d : Nat} (ha : a < 1000) (hc : c < 1000) (hd : d < 1000) : (if nI 0 < nI a - (nI c - nI d) then nI a - (nI c - nI d) else nI 0) = nI (a + d - c) := by
  have e : nI a - (nI c - nI d) = nI (a + d) - nI c := by
    rw [← nI_add, Int32.sub_eq_add_neg, Int32.neg_sub, Int32.sub_eq_add_neg, Int32.sub_eq_add_neg, Int32.add_assoc]
  rw [e]
  by_cases h : c ≤ a + d
  · rw [nI_sub h]
    by_cases h0 : a + d - c = 0
    · rw [h0, if_neg (by rw [nI_ltI (by omega) (by omega)]; omega)]
    · rw [if_pos ((nI_ltI (by omega) (by omega)).mpr (by omega))]
  · have h2 : nI (a + d) - nI c < 0 := pk_sneg (by omega) (by omega)
    rw [if_neg (fun q => by
      have h3 : (0 : Int32) < nI (a + d) - nI c := q
      exact Int32.lt_irrefl (Int32.lt_trans h2 h3))]
    congr 1
    omega
section C3
variable {n b p e : Nat} {A : yM} {M : Mt}
theorem okI_ct (hg : Good M) (he : e < M 0 1) : okI (nI (M 7 e)) (M 0 1) = decide (M 7 e < e) := by
  have h1 := gEr hg he
  have h2 := gE hg
  rw [okI_nI (by omega) (by omega)]
  congr 1
  apply propext
  constructor <;> intro h <;> omega
theorem bI_ct (hg : Good M) (he : e < M 0 1) : (bI (okI (nI (M 7 e)) (M 0 1)) = nI 0) = (¬ M 7 e < e) := by
  rw [okI_ct hg he]
  unfold bI
  by_cases h : M 7 e < e
  · simp [h, nI_eq]
  · simp [h]
theorem X0_ripensAtAll_ok (hn : 2 ≤ n) (hc : Col A b M) (hg : Good M) (he : e < M 0 1) : ycall n 11 [.ref b, .int (nI e)] A = some (some (.int (nI (if M 8 e = 0 ∧ M 3 (M 4 e) = 1 then 1 else 0))), A) := by
  obtain ⟨n, rfl⟩ := Nat.exists_eq_add_of_le' hn
  have hE := gE hg
  have h1 := gEr hg he
  have h2 := gP hg h1.1
  simp (disch := omega) only [en_X0_ripensAtAll, cgI hc.1, cS hc, cE hc, cWk hc, cR hc.1, cD12 hc.1, cD6 hc.1, cBy hc, cTp hc, cSz hc, cCt hc, cTc hc, cKd hc, cFg hc, cV hc.1, X0_isCorrected_ok _ hc hg he, X0_isIn_ok _ hc hg h1.1, l_lit, nI_add, nI_mul, yi_b, yv_b, yl_b, if_true, if_false, or_true, true_or, or_false, false_or, and_true, true_and, and_false, false_and, not_true_eq_false, not_false_eq_true, Nat.reduceEqDiff, ↓reduceIte, nI_eq, nI_leI, nI_ltI]
  have : M 8 e = 0 ∨ M 8 e = 1 := by omega
  have h3 : M 3 (M 4 e) = 0 ∨ M 3 (M 4 e) = 1 := by omega
  rcases this with h | h <;> rcases h3 with h4 | h4 <;> simp [h, h4]
theorem dp_loop (n : Nat) (hc : Col A b M) (hg : Good M) : ∀ (e d : Nat), e < M 0 1 → d + e ≤ 11 → yb_X0_depthOf (ycall (n + 1)) (4, [some (.ref b), none, some (.int (nI d)), some (.int (nI e))], [], A) = some (some (.int (nI (d + dpN M e))), A) := by
  intro e
  induction e using Nat.strongRecOn with
  | ind e ih =>
    intro d he hd
    have hE := gE hg
    have h1 := gEr hg he
    refine (bk_X0_depthOf_4 ..).trans ?_
    have h2 : bI (okI (nI e) (M 0 1)) = nI 1 := by rw [okI_nI (by omega) (by omega)]; simp [bI, he]
    simp (disch := omega) only [cgI hc.1, cS hc, cE hc, cWk hc, cR hc.1, cD12 hc.1, cD6 hc.1, cBy hc, cTp hc, cSz hc, cCt hc, cTc hc, cKd hc, cFg hc, cV hc.1, X0_hasError_ok _ hc, h2, l_lit, nI_add, nI_mul, yi_b, yv_b, yl_b, if_true, if_false, or_true, true_or, or_false, false_or, and_true, true_and, and_false, false_and, not_true_eq_false, not_false_eq_true, Nat.reduceEqDiff, ↓reduceIte, nI_eq, nI_leI, nI_ltI, Nat.not_le.mpr (show d < 12 by omega), Nat.one_ne_zero]
    rw [dpN_eq]
    by_cases h3 : M 7 e < e
    · rw [ih _ h3 (d + 1) (by omega) (by omega), if_pos h3, Nat.add_assoc]
    · have h4 : bI (okI (nI (M 7 e)) (M 0 1)) = nI 0 := by rw [okI_ct hg he]; simp [bI, h3]
      refine (bk_X0_depthOf_4 ..).trans ?_
      simp (disch := omega) only [cgI hc.1, cS hc, cE hc, cWk hc, cR hc.1, cD12 hc.1, cD6 hc.1, cBy hc, cTp hc, cSz hc, cCt hc, cTc hc, cKd hc, cFg hc, cV hc.1, X0_hasError_ok _ hc, h4, l_lit, nI_add, nI_mul, yi_b, yv_b, yl_b, if_true, if_false, or_true, true_or, or_false, false_or, and_true, true_and, and_false, false_and, not_true_eq_false, not_false_eq_true, Nat.reduceEqDiff, ↓reduceIte, if_neg h3]
theorem X0_depthOf_ok (hn : 2 ≤ n) (hc : Col A b M) (hg : Good M) (he : e < M 0 1) : ycall n 25 [.ref b, .int (nI e)] A = some (some (.int (nI (dpN M e))), A) := by
  obtain ⟨n, rfl⟩ := Nat.exists_eq_add_of_le' hn
  have hE := gE hg
  rw [en_X0_depthOf]
  have := dp_loop n hc hg e 0 he (by omega)
  rw [Nat.zero_add] at this
  exact this
theorem X0_firstOfDepth_ok (hn : 3 ≤ n) (hc : Col A b M) (hg : Good M) {dd : Nat} (hd : dd < 100) : ycall n 26 [.ref b, .int (nI dd)] A = some (some (.int (ocd (fst (fun e => decide (dpN M e = dd)) (M 0 1)))), A) := by
  obtain ⟨n, rfl⟩ := Nat.exists_eq_add_of_le' hn
  have hE := gE hg
  rw [en_X0_firstOfDepth]
  refine (for_ret (fun k => yb_X0_firstOfDepth (ycall (n + 2)) (2, [some (.ref b), some (.int (nI dd)), some (.int (nI k))], [], A)) (fun k => some (some (.int (nI k)), A)) (fun e => decide (dpN M e = dd)) (M 0 1) (fun k hk => ?_)).trans ?_
  · have h3 := dpN_le M (k + 1) k (by omega)
    refine (bk_X0_firstOfDepth_2 ..).trans ?_
    simp (disch := omega) only [cgI hc.1, cS hc, cE hc, cWk hc, cR hc.1, cD12 hc.1, cD6 hc.1, cBy hc, cTp hc, cSz hc, cCt hc, cTc hc, cKd hc, cFg hc, cV hc.1, X0_depthOf_ok _ hc hg hk, l_lit, nI_add, nI_mul, yi_b, yv_b, yl_b, if_true, if_false, or_true, true_or, or_false, false_or, and_true, true_and, and_false, false_and, not_true_eq_false, not_false_eq_true, Nat.reduceEqDiff, ↓reduceIte, nI_eq, nI_leI, nI_ltI, Nat.not_le.mpr hk, decide_eq_true_eq]
  · cases hf : fst (fun e => decide (dpN M e = dd)) (M 0 1) with
    | some i => rfl
    | none =>
      refine (bk_X0_firstOfDepth_2 ..).trans ?_
      simp (disch := omega) only [cgI hc.1, cS hc, cE hc, cWk hc, cR hc.1, cD12 hc.1, cD6 hc.1, cBy hc, cTp hc, cSz hc, cCt hc, cTc hc, cKd hc, cFg hc, cV hc.1, l_lit, nI_add, nI_mul, yi_b, yv_b, yl_b, if_true, if_false, or_true, true_or, or_false, false_or, and_true, true_and, and_false, false_and, not_true_eq_false, not_false_eq_true, Nat.reduceEqDiff, ↓reduceIte, nI_eq, nI_leI, nI_ltI, Nat.le_refl]
      rfl
theorem X0_citedInTheEnd_ok (hn : 2 ≤ n) (hc : Col A b M) (hg : Good M) (he : e < M 0 1) : ycall n 27 [.ref b, .int (nI e)] A = some (some (.int (nI (ceN M e))), A) := by
  obtain ⟨n, rfl⟩ := Nat.exists_eq_add_of_le' hn
  have hE := gE hg
  rw [en_X0_citedInTheEnd]
  simp (disch := omega) only [l_lit, nI_add, nI_mul, yi_b, yv_b, yl_b, if_true, if_false, or_true, true_or, or_false, false_or, and_true, true_and, and_false, false_and, not_true_eq_false, not_false_eq_true, Nat.reduceEqDiff, ↓reduceIte, nI_bitat]
  have z0 : ∀ k, k ≤ e + 1 → sm (fun k => if rcN M e k = true then 1 else 0) k = 0 := by
    intro k
    induction k with
    | zero => intro _; rfl
    | succ k ih =>
      intro h
      show sm (fun k => if rcN M e k = true then 1 else 0) k + (if rcN M e k = true then 1 else 0) = 0
      rw [ih (by omega), if_neg (fun q => by have := rcN_lt M e (k + 1) k (by omega) q; omega)]
  have z1 : ∀ k, k ≤ e → bts (fun j => if j = e ∨ rcN M e j = true then 1 else 0) k = 0 := by
    intro k
    induction k with
    | zero => intro _; rfl
    | succ k ih =>
      intro h
      show bts (fun j => if j = e ∨ rcN M e j = true then 1 else 0) k + (if k = e ∨ rcN M e k = true then 1 else 0) * 2 ^ k = 0
      rw [ih (by omega), if_neg (fun q => by
        rcases q with q | q
        · omega
        · have := rcN_lt M e (k + 1) k (by omega) q; omega)]
      simp
  have z2 : bts (fun j => if j = e ∨ rcN M e j = true then 1 else 0) (e + 1) = 2 ^ e := by
    show bts (fun j => if j = e ∨ rcN M e j = true then 1 else 0) e + (if e = e ∨ rcN M e e = true then 1 else 0) * 2 ^ e = 2 ^ e
    rw [z1 e (Nat.le_refl _), if_pos (Or.inl rfl)]
    simp
  obtain ⟨j, hj⟩ : ∃ j, M 0 1 = e + 1 + j := ⟨M 0 1 - (e + 1), by omega⟩
  have hX := for_up (fun k => yb_X0_citedInTheEnd (ycall (n + 1)) (11, [some (.ref b), none, some (.int (nI (sm (fun k => if rcN M e k = true then 1 else 0) (e + 1 + k)))), some (.int (nI (bts (fun j => if j = e ∨ rcN M e j = true then 1 else 0) (e + 1 + k)))), some (.int (nI (e + 1 + k)))], [], A)) j (fun k hk => by
    have hl : e + 1 + k < M 0 1 := by omega
    have h3 := gEr hg hl
    have hb2 : ∀ i, i < e + 1 + k → (fun j => if j = e ∨ rcN M e j = true then 1 else 0) i < 2 := fun i _ => by dsimp only; split <;> omega
    have h4 := bts_lt hb2
    have h5 : 2 ^ (e + 1 + k) ≤ 2 ^ 12 := Nat.pow_le_pow_right (by omega) (by omega)
    have e1 : sm (fun k => if rcN M e k = true then 1 else 0) (e + 1 + (k + 1)) = sm (fun k => if rcN M e k = true then 1 else 0) (e + 1 + k) + (if rcN M e (e + 1 + k) = true then 1 else 0) := rfl
    have e2 : bts (fun j => if j = e ∨ rcN M e j = true then 1 else 0) (e + 1 + (k + 1)) = bts (fun j => if j = e ∨ rcN M e j = true then 1 else 0) (e + 1 + k) + (if e + 1 + k = e ∨ rcN M e (e + 1 + k) = true then 1 else 0) * 2 ^ (e + 1 + k) := rfl
    refine (bk_X0_citedInTheEnd_11 ..).trans ?_
    simp (disch := omega) only [cgI hc.1, cS hc, cE hc, cWk hc, cR hc.1, cD12 hc.1, cD6 hc.1, cBy hc, cTp hc, cSz hc, cCt hc, cTc hc, cKd hc, cFg hc, cV hc.1, X0_hasError_ok _ hc, bI_ct hg hl, l_lit, nI_add, nI_mul, yi_b, yv_b, yl_b, if_true, if_false, or_true, true_or, or_false, false_or, and_true, true_and, and_false, false_and, not_true_eq_false, not_false_eq_true, Nat.reduceEqDiff, ↓reduceIte, nI_eq, nI_leI, nI_ltI, Nat.not_le.mpr hl, e1, e2]
    rw [show e + 1 + k + 1 = e + 1 + (k + 1) by omega]
    have hr := rcN_eq M e (e + 1 + k)
    by_cases h6 : M 7 (e + 1 + k) < e + 1 + k
    · have h7 := bts_bit hb2 h6
      simp (disch := omega) only [h6, l_lit, nI_add, nI_mul, yi_b, yv_b, yl_b, if_true, if_false, or_true, true_or, or_false, false_or, and_true, true_and, and_false, false_and, not_true_eq_false, not_false_eq_true, Nat.reduceEqDiff, ↓reduceIte, nI_bit, h7, nI_eq]
      by_cases h8 : M 7 (e + 1 + k) = e ∨ rcN M e (M 7 (e + 1 + k)) = true
      · have h9 : rcN M e (e + 1 + k) = true := by
          rw [hr, decide_eq_true h6]
          rcases h8 with h8 | h8 <;> simp [h8]
        simp (disch := omega) only [if_pos h8, l_lit, nI_add, nI_mul, yi_b, yv_b, yl_b, if_true, if_false, or_true, true_or, or_false, false_or, and_true, true_and, and_false, false_and, not_true_eq_false, not_false_eq_true, Nat.reduceEqDiff, ↓reduceIte, if_pos h9, if_pos (Or.inr h9 : e + 1 + k = e ∨ rcN M e (e + 1 + k) = true), Nat.one_mul, nI_orbit _ h4]
      · have h9 : ¬ rcN M e (e + 1 + k) = true := by
          rw [hr]
          intro q
          simp only [Bool.and_eq_true, Bool.or_eq_true, decide_eq_true_eq] at q
          exact h8 q.2
        simp only [if_neg h8, if_neg h9, if_neg (fun q => by rcases q with q | q; omega; exact h9 q : ¬ (e + 1 + k = e ∨ rcN M e (e + 1 + k) = true)), Nat.zero_mul, Nat.add_zero]
        simp
    · have h9 : ¬ rcN M e (e + 1 + k) = true := by
        rw [hr]
        simp [h6]
      simp only [h6, not_false_eq_true, if_true, if_neg h9, if_neg (fun q => by rcases q with q | q; omega; exact h9 q : ¬ (e + 1 + k = e ∨ rcN M e (e + 1 + k) = true)), Nat.zero_mul, Nat.add_zero])
  rw [Nat.add_zero, z0 _ (Nat.le_refl _), z2] at hX
  refine hX.trans ?_
  rw [← hj]
  refine (bk_X0_citedInTheEnd_11 ..).trans ?_
  simp (disch := omega) only [cgI hc.1, cS hc, cE hc, cWk hc, cR hc.1, cD12 hc.1, cD6 hc.1, cBy hc, cTp hc, cSz hc, cCt hc, cTc hc, cKd hc, cFg hc, cV hc.1, l_lit, nI_add, nI_mul, yi_b, yv_b, yl_b, if_true, if_false, or_true, true_or, or_false, false_or, and_true, true_and, and_false, false_and, not_true_eq_false, not_false_eq_true, Nat.reduceEqDiff, ↓reduceIte, nI_eq, nI_leI, nI_ltI, Nat.le_refl]
  rfl
theorem X0_aloneOnes_ok (hn : 1 ≤ n) (hc : Col A b M) (hg : Good M) : ycall n 29 [.ref b] A = some (some (.int (nI (bts (fun e => if citN M e = 0 ∧ M 7 e = 99 then 1 else 0) (M 0 1)))), A) := by
  obtain ⟨n, rfl⟩ := Nat.exists_eq_add_of_le' hn
  have hE := gE hg
  rw [en_X0_aloneOnes]
  refine (for_up (fun k => yb_X0_aloneOnes (ycall n) (4, [some (.ref b), some (.int (nI (bts (fun e => if citN M e = 0 ∧ M 7 e = 99 then 1 else 0) k))), some (.int (nI k))], [], A)) (M 0 1) (fun k hk => ?_)).trans ?_
  · have h3 := gEr hg hk
    have h5 := citN_le hg k
    have h4 : bts (fun e => if citN M e = 0 ∧ M 7 e = 99 then 1 else 0) k < 2 ^ k := bts_lt (fun j _ => by split <;> omega)
    have h6 : bts (fun e => if citN M e = 0 ∧ M 7 e = 99 then 1 else 0) (k + 1) = bts (fun e => if citN M e = 0 ∧ M 7 e = 99 then 1 else 0) k + (if citN M k = 0 ∧ M 7 k = 99 then 1 else 0) * 2 ^ k := rfl
    refine (bk_X0_aloneOnes_4 ..).trans ?_
    simp (disch := omega) only [cgI hc.1, cS hc, cE hc, cWk hc, cR hc.1, cD12 hc.1, cD6 hc.1, cBy hc, cTp hc, cSz hc, cCt hc, cTc hc, cKd hc, cFg hc, cV hc.1, l_lit, nI_add, nI_mul, yi_b, yv_b, yl_b, if_true, if_false, or_true, true_or, or_false, false_or, and_true, true_and, and_false, false_and, not_true_eq_false, not_false_eq_true, Nat.reduceEqDiff, ↓reduceIte, nI_eq, nI_leI, nI_ltI, Nat.not_le.mpr hk, h6]
    by_cases q1 : citN M k = 0
    · by_cases q2 : M 7 k = 99
      · simp only [q1, q2, and_self, if_true, Nat.one_mul]
        rw [nI_orbit (by omega) h4]
      · simp [q1, q2]
    · simp [q1]
  · refine (bk_X0_aloneOnes_4 ..).trans ?_
    simp (disch := omega) only [cgI hc.1, cS hc, cE hc, cWk hc, cR hc.1, cD12 hc.1, cD6 hc.1, cBy hc, cTp hc, cSz hc, cCt hc, cTc hc, cKd hc, cFg hc, cV hc.1, l_lit, nI_add, nI_mul, yi_b, yv_b, yl_b, if_true, if_false, or_true, true_or, or_false, false_or, and_true, true_and, and_false, false_and, not_true_eq_false, not_false_eq_true, Nat.reduceEqDiff, ↓reduceIte, nI_eq, nI_leI, nI_ltI, Nat.le_refl]
theorem X0_choiceOf_ok (hn : 2 ≤ n) (hc : Col A b M) (hg : Good M) {v : Nat} (hv : v < M 0 0) (hm : ∀ p, p < M 0 0 → A (b + 17) p = nI (marksN M p)) : ycall n 31 [.ref b, .int (nI v)] A = some (some (.int (ocd (chN M v))), A) := by
  obtain ⟨n, rfl⟩ := Nat.exists_eq_add_of_le' hn
  have hS := gS hg
  rw [en_X0_choiceOf]
  refine (for_up (fun k => yb_X0_choiceOf (ycall (n + 1)) (5, [some (.ref b), some (.int (nI v)), some (.int (ocd (bsf (fun s => decide (s ≠ v ∧ M 3 s = 1)) (marksN M) k))), some (.int (nI k))], [], A)) (M 0 0) (fun k hk => ?_)).trans ?_
  · have h3 := gP hg hk
    have hi := X0_isIn_ok (n := n + 1) (by omega) hc hg hk
    have h31 : M 3 k = 0 ∨ M 3 k = 1 := by omega
    refine (bk_X0_choiceOf_5 ..).trans ?_
    rw [bsf_s]
    by_cases q1 : k = v
    · subst q1
      simp (disch := omega) only [cgI hc.1, cS hc, cE hc, cWk hc, cR hc.1, cD12 hc.1, cD6 hc.1, cBy hc, cTp hc, cSz hc, cCt hc, cTc hc, cKd hc, cFg hc, cV hc.1, l_lit, nI_add, nI_mul, yi_b, yv_b, yl_b, if_true, if_false, or_true, true_or, or_false, false_or, and_true, true_and, and_false, false_and, not_true_eq_false, not_false_eq_true, Nat.reduceEqDiff, ↓reduceIte, nI_eq, nI_leI, nI_ltI, Nat.not_le.mpr hk]
      simp
    · rcases h31 with h31 | h31
      · simp (disch := omega) only [cgI hc.1, cS hc, cE hc, cWk hc, cR hc.1, cD12 hc.1, cD6 hc.1, cBy hc, cTp hc, cSz hc, cCt hc, cTc hc, cKd hc, cFg hc, cV hc.1, hi, h31, q1, l_lit, nI_add, nI_mul, yi_b, yv_b, yl_b, if_true, if_false, or_true, true_or, or_false, false_or, and_true, true_and, and_false, false_and, not_true_eq_false, not_false_eq_true, Nat.reduceEqDiff, ↓reduceIte, nI_eq, nI_leI, nI_ltI, Nat.not_le.mpr hk]
        simp
      · cases hb : bsf (fun s => decide (s ≠ v ∧ M 3 s = 1)) (marksN M) k with
        | none =>
          simp (disch := omega) only [cgI hc.1, cS hc, cE hc, cWk hc, cR hc.1, cD12 hc.1, cD6 hc.1, cBy hc, cTp hc, cSz hc, cCt hc, cTc hc, cKd hc, cFg hc, cV hc.1, hi, h31, q1, l_lit, nI_add, nI_mul, yi_b, yv_b, yl_b, if_true, if_false, or_true, true_or, or_false, false_or, and_true, true_and, and_false, false_and, not_true_eq_false, not_false_eq_true, Nat.reduceEqDiff, ↓reduceIte, nI_eq, nI_leI, nI_ltI, Nat.not_le.mpr hk, ocd, neg4, Nat.one_ne_zero]
          simp [q1, ocd]
        | some q =>
          have hq := bsf_lt hb
          have m1 := marksN_le hg k
          have m2 := marksN_le hg q
          simp (disch := omega) only [cgI hc.1, cS hc, cE hc, cWk hc, cR hc.1, cD12 hc.1, cD6 hc.1, cBy hc, cTp hc, cSz hc, cCt hc, cTc hc, cKd hc, cFg hc, cV hc.1, hi, h31, q1, hm, l_lit, nI_add, nI_mul, yi_b, yv_b, yl_b, if_true, if_false, or_true, true_or, or_false, false_or, and_true, true_and, and_false, false_and, not_true_eq_false, not_false_eq_true, Nat.reduceEqDiff, ↓reduceIte, nI_eq, nI_leI, nI_ltI, Nat.not_le.mpr hk, ocd, Nat.not_lt_zero, Nat.one_ne_zero]
          by_cases h5 : marksN M q < marksN M k
          · simp [h5, Nat.not_le.mpr h5, q1, ocd]
          · simp [h5, Nat.not_lt.mp h5, q1, ocd]
  · refine (bk_X0_choiceOf_5 ..).trans ?_
    simp (disch := omega) only [cgI hc.1, cS hc, cE hc, cWk hc, cR hc.1, cD12 hc.1, cD6 hc.1, cBy hc, cTp hc, cSz hc, cCt hc, cTc hc, cKd hc, cFg hc, cV hc.1, l_lit, nI_add, nI_mul, yi_b, yv_b, yl_b, if_true, if_false, or_true, true_or, or_false, false_or, and_true, true_and, and_false, false_and, not_true_eq_false, not_false_eq_true, Nat.reduceEqDiff, ↓reduceIte, nI_eq, nI_leI, nI_ltI, Nat.le_refl]
    rfl
end C3
