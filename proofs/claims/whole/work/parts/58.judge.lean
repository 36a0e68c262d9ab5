/-! told marks looked at; what one is by how his errors grew -/
/-- the least number of a SORT -/
def lsI (s : Nat) : Int32 := if s = 0 then -nI 128 else if s = 1 then -nI 32768 else -nI 2147483648
theorem i128 : (-128 : Int32) = -nI 128 := rfl
theorem i32768 : (-32768 : Int32) = -nI 32768 := rfl
theorem i2147 : (-2147483648 : Int32) = -nI 2147483648 := rfl
section B9
variable {A : yM} {M I : Mt} {hI : Nat} {T : Nat → Nat → Nat} {c : Nat → Nat → Int32} {g : Nat} {n d q b e : Nat}
theorem X7_isSkipped_ok (hn : 1 ≤ n) (ht : Shf A T c) (hd : d < 8) (h : T d 0 = 2) {j : Nat} (hj : j < T d 4) : ycall n 58 [.ref (60 + 2 * d), .int (nI j)] A = some (some (.int (bI (decide (c d j = lsI (T d 3))))), A) := by
  obtain ⟨n, rfl⟩ := Nat.exists_eq_add_of_le' hn
  obtain ⟨l1, l2, l3, l4, l5, l6⟩ := sh_len ht hd h
  have e1 := (sh_el ht hd h hj).1
  rw [en_X7_isSkipped, i128, i32768, i2147]
  simp (disch := omega) only [↓sh_R hd, ↓sh_rd hd, ↓sh_I hd, e1, l4, l_lit, or_true, true_or, ↓reduceIte]
  unfold lsI
  by_cases s0 : T d 3 = 0
  · rw [s0, if_pos rfl, if_pos rfl]
    by_cases hq : c d j = -nI 128
    · rw [if_pos hq, decide_eq_true hq]; rfl
    · rw [if_neg hq, decide_eq_false hq]; rfl
  · have n0 : ¬ nI (T d 3) = nI 0 := fun z => s0 ((nI_eq (by omega) (by omega)).mp z)
    rw [if_neg n0, if_neg s0]
    by_cases s1 : T d 3 = 1
    · rw [s1, if_pos rfl, if_pos rfl]
      by_cases hq : c d j = -nI 32768
      · rw [if_pos hq, decide_eq_true hq]; rfl
      · rw [if_neg hq, decide_eq_false hq]; rfl
    · have n1 : ¬ nI (T d 3) = nI 1 := fun z => s1 ((nI_eq (by omega) (by omega)).mp z)
      rw [if_neg n1, if_neg s1]
      by_cases hq : c d j = -nI 2147483648
      · rw [if_pos hq, decide_eq_true hq]; rfl
      · rw [if_neg hq, decide_eq_false hq]; rfl
theorem X12_leastOf_ok (hn : 1 ≤ n) {s : Nat} (hs : s ≤ 2) : ycall n 213 [.int (nI s)] A = some (some (.int (lsI s)), A) := by
  obtain ⟨n, rfl⟩ := Nat.exists_eq_add_of_le' hn
  rw [en_X12_leastOf, i128, i32768, i2147]
  simp (disch := omega) only [l_lit, nI_eq]
  unfold lsI
  by_cases s0 : s = 0
  · rw [if_pos s0, if_pos s0]
  · rw [if_neg s0, if_neg s0]
    by_cases s1 : s = 1
    · rw [if_pos s1, if_pos s1]
    · rw [if_neg s1, if_neg s1]
/-- where what is told is not so -/
def jdN (M : Mt) (f : Nat → Int32) (s k : Nat) : Bool := !(decide (f k = lsI s) || decide (f k = nI (allN (wsN M k))))
theorem jd_class (hg : Good M) (hw : M 0 2 ≤ 999) (hd : d < 8) (h2 : T d 0 = 2) : ∀ (j k : Nat) (A : yM), k + j = T d 4 → Shf A T c → Col A 21 (wsN M k) → ∃ A', yb_X11_judge (ycall 19) (33, [some (.ref 1), none, none, some (.ref (60 + 2 * d)), some (.int (nI k))], [], A) = some (some (.int (ocd (ff (jdN M (c d) (T d 3)) k j))), A') ∧ Sc A A' := by
  intro j
  induction j with
  | zero =>
    intro k A hk ht hc
    obtain ⟨l1, l2, l3, l4, l5, l6⟩ := sh_len ht hd h2
    refine ⟨A, ?_, Sc_r A⟩
    refine (bk_X11_judge_33 ..).trans ?_
    simp (disch := omega) only [↓sh_I hd, l2, l_lit, nI_leI, show T d 4 ≤ k by omega, ↓reduceIte]
    rfl
  | succ j ih =>
    intro k A hk ht hc
    obtain ⟨l1, l2, l3, l4, l5, l6⟩ := sh_len ht hd h2
    have hkl : k < T d 4 := by omega
    have e1 := (sh_el ht hd h2 hkl).1
    have hg2 := wsN_good hg k (by omega)
    obtain ⟨A1, a1, a2, a3⟩ := X0_passWeeks_ok (n := 19) (by omega) hc hg2 (x := 1) (by omega) (by rw [wsN_W]; omega)
    have ht1 : Shf A1 T c := Shf_eq ht (fun p hp => a3 p (by omega)) (fun p hp => a3 p (by omega))
    obtain ⟨A2, b1, b2⟩ := ih (k + 1) A1 (by omega) ht1 a2
    have hsk := X7_isSkipped_ok (n := 19) (by omega) ht hd h2 hkl
    by_cases hb : jdN M (c d) (T d 3) k = true
    · have hb2 := hb
      unfold jdN at hb2
      simp only [Bool.not_eq_true', Bool.or_eq_false_iff, decide_eq_false_iff_not] at hb2
      refine ⟨A, ?_, Sc_r A⟩
      refine (bk_X11_judge_33 ..).trans ?_
      simp (disch := omega) only [↓sh_I hd, l2, l_lit, nI_leI, Nat.not_le.mpr hkl, ↓reduceIte, sh_v hd, hsk, yi_b, decide_eq_false hb2.1, bI_f, ↓sh_R hd, ↓sh_rd hd, e1, ↓xR, cV hc.1, X0_allMarks_ok _ hc hg2, hb2.2, ff, hb]
      rfl
    · refine ⟨A2, ?_, Sc_t (Sc_Fr a3) b2⟩
      refine (bk_X11_judge_33 ..).trans ?_
      have hf : ff (jdN M (c d) (T d 3)) k (j + 1) = ff (jdN M (c d) (T d 3)) (k + 1) j := by
        show (if jdN M (c d) (T d 3) k = true then some k else _) = _
        rw [if_neg hb]
      rw [hf]
      by_cases hs : c d k = lsI (T d 3)
      · simp (disch := omega) only [↓sh_I hd, l2, l_lit, nI_leI, Nat.not_le.mpr hkl, ↓reduceIte, sh_v hd, hsk, yi_b, yv_b, decide_eq_true hs, bI_t, nI_eq, Nat.one_ne_zero, ↓xR, cV hc.1, a1, nI_add, b1]
      · have hm : c d k = nI (allN (wsN M k)) := by
          unfold jdN at hb
          simpa [hs] using hb
        simp (disch := omega) only [↓sh_I hd, l2, l_lit, nI_leI, Nat.not_le.mpr hkl, ↓reduceIte, sh_v hd, hsk, yi_b, yv_b, decide_eq_false hs, bI_f, ↓sh_R hd, ↓sh_rd hd, e1, ↓xR, cV hc.1, X0_allMarks_ok _ hc hg2, hm, a1, nI_add, b1]
        split <;> rfl
theorem jd_ref (hg : Good M) (hw : M 0 2 ≤ 999) (hd : d < 8) (h2 : T d 0 = 2) : ∀ (j k : Nat) (A : yM), k + j = T d 4 → Shf A T c → Row A 81 (wsN M k) → ∃ A', yb_X12_judge (ycall 19) (26, [some (.ref 79), some (.int (nI d)), none, some (.int (nI k)), none], [], A) = some (some (.int (ocd (ff (jdN M (c d) (T d 3)) k j))), A') ∧ Sc A A' := by
  intro j
  induction j with
  | zero =>
    intro k A hk ht hr
    obtain ⟨l1, l2, l3, l4, l5, l6⟩ := sh_len ht hd h2
    refine ⟨A, ?_, Sc_r A⟩
    refine (bk_X12_judge_26 ..).trans ?_
    simp (disch := omega) only [↓mR, ↓m8r, l3, l_lit, nI_leI, show T d 4 ≤ k by omega, ↓reduceIte]
    rfl
  | succ j ih =>
    intro k A hk ht hr
    obtain ⟨l1, l2, l3, l4, l5, l6⟩ := sh_len ht hd h2
    have hkl : k < T d 4 := by omega
    have e1 := (sh_el ht hd h2 hkl).2
    have hg2 := wsN_good hg k (by omega)
    obtain ⟨A1, a1, a2, a3⟩ := X12_week_ok (n := 19) (by omega) hr hg2 (by rw [wsN_W]; omega)
    have ht1 : Shf A1 T c := Shf_eq ht (fun p hp => a3 p (by omega)) (fun p hp => a3 p (by omega))
    obtain ⟨A2, b1, b2⟩ := ih (k + 1) A1 (by omega) ht1 a2
    have hls := X12_leastOf_ok (n := 19) (A := A) (by omega) l6
    by_cases hb : jdN M (c d) (T d 3) k = true
    · have hb2 := hb
      unfold jdN at hb2
      simp only [Bool.not_eq_true', Bool.or_eq_false_iff, decide_eq_false_iff_not] at hb2
      refine ⟨A, ?_, Sc_r A⟩
      refine (bk_X12_judge_26 ..).trans ?_
      simp (disch := omega) only [↓mR, ↓m8r, l3, l5, l_lit, nI_leI, Nat.not_le.mpr hkl, ↓reduceIte, nI_mul, nI_add, ↓m91r, e1, hls, yi_b, hb2.1, hb2.2, X12_allMarks_ok _ hr hg2, ff, hb]
      rfl
    · refine ⟨A2, ?_, Sc_t (Sc_Fq (Or.inl rfl) a3) b2⟩
      refine (bk_X12_judge_26 ..).trans ?_
      have hf : ff (jdN M (c d) (T d 3)) k (j + 1) = ff (jdN M (c d) (T d 3)) (k + 1) j := by
        show (if jdN M (c d) (T d 3) k = true then some k else _) = _
        rw [if_neg hb]
      rw [hf]
      by_cases hs : c d k = lsI (T d 3)
      · simp (disch := omega) only [↓mR, ↓m8r, l3, l5, l_lit, nI_leI, Nat.not_le.mpr hkl, ↓reduceIte, nI_mul, nI_add, ↓m91r, e1, hls, yi_b, yv_b, hs, a1, b1]
      · have hm : c d k = nI (allN (wsN M k)) := by
          unfold jdN at hb
          simpa [hs] using hb
        simp (disch := omega) only [↓mR, ↓m8r, l3, l5, l_lit, nI_leI, Nat.not_le.mpr hkl, ↓reduceIte, nI_mul, nI_add, ↓m91r, e1, hls, yi_b, yv_b, hs, X12_allMarks_ok _ hr hg2]
        rw [if_pos hm]
        simp (disch := omega) only [a1, yv_b, b1]
theorem api_judge (hi : InvX A M I hI T c g) (x : Int32) : Api 123 222 [.int x] A g := by
  refine api_row hi (en_X11_judge ..) (fun A => en_X12_judge ..) (fun k hx hk h2 => ?_)
  subst hx
  have hc := iC hi
  have hg := iG hi
  have hw := iW hi
  have hz : rfI T 2 k = nI 0 := (rfI_0 (by omega)).mpr h2
  refine api_read hi (.int (ocd (ff (jdN M (c k) (T k 3)) 0 (T k 4)))) ?_ (fun A1 hi => ?_)
  · obtain ⟨A1, a1, a2, a3⟩ := X0_become_ok (n := 19) (by omega) hc (Or.inr (Or.inl rfl) : isB 21) (by omega) hg
    have ht1 : Shf A1 T c := Shf_eq (iT hi) (fun p hp => a3 p (by omega)) (fun p hp => a3 p (by omega))
    obtain ⟨A2, b1, b2⟩ := jd_class hg hw hk h2 (T k 4) 0 A1 (by omega) ht1 a2
    refine ⟨A2, ?_, Sc_t (Sc_Fr a3) b2⟩
    rw [en_X11_judge, xV, X11_row_ok (by omega) (iT hi) hk, hz, yi_b]
    simp (disch := omega) only [l_lit, ↓reduceIte, ↓xR, ↓sh_row hk, cV a2.1, a1, yv_b, b1]
  · have hr := iR hi
    obtain ⟨A1', a1, a2, a3⟩ := X12_copies_ok (n := 19) (by omega) hr hg (q2 := 81) (by omega) (by omega)
    have ht1 : Shf A1' T c := Shf_eq (iT hi) (fun p hp => a3 p (by omega)) (fun p hp => a3 p (by omega))
    obtain ⟨A2, b1, b2⟩ := jd_ref hg hw hk h2 (T k 4) 0 A1' (by omega) ht1 a2
    refine ⟨A2, ?_, Sc_t (Sc_Fq (Or.inl rfl) a3) b2⟩
    have hrow := X12_row_ok (n := 19) (by omega) (iT hi) hk
    rw [en_X12_judge, mV, show (-1 : Int32) = -nI 1 from rfl, hrow, hz, yi_b]
    simp (disch := omega) only [l_lit, ↓reduceIte, ↓mR, a1, yv_b, b1]
/-- the SIZE of an ERROR behind i WEEKS, if who made it were of that KIND with that FIGURE -/
def gzN (M : Mt) (kk ff e : Nat) : Nat → Nat
  | 0 => M 6 e
  | i + 1 => if M 8 e = 0 ∧ M 3 (M 4 e) = 1 then min 99 (gzN M kk ff e i + ripN kk ff (M 0 2 + (i + 1))) else gzN M kk ff e i
theorem gzN_lt {M : Mt} {kk ff e : Nat} (h : M 6 e < 100) : ∀ i, gzN M kk ff e i < 100 := by
  intro i
  induction i with
  | zero => exact h
  | succ i ih =>
    show (if _ then _ else _) < 100
    split
    · exact Nat.lt_of_le_of_lt (Nat.min_le_left _ _) (by omega)
    · exact ih
theorem gz_ws {M M' : Mt} {kk ff e : Nat} (h0 : M' 0 = M 0) (h3 : M' 3 = M 3) (h4 : M' 4 = M 4) (h6 : M' 6 = M 6) (h8 : M' 8 = M 8) (hk : M' 1 (M 4 e) = kk) (hf : M' 2 (M 4 e) = ff) (he : e < M 0 1) : ∀ i, wsN M' i 6 e = gzN M kk ff e i := by
  intro i
  induction i with
  | zero => show M' 6 e = M 6 e; rw [h6]
  | succ i ih =>
    show wkP (wsN M' i) (wsN M' i 0 1) 6 e = _
    rw [wkP_6]
    unfold szW
    rw [wsN_E, wsN_W, wsN_ne (a := 8) (by omega) (by omega), wsN_ne (a := 3) (by omega) (by omega), wsN_ne (a := 4) (by omega) (by omega), wsN_ne (a := 1) (by omega) (by omega), wsN_ne (a := 2) (by omega) (by omega), ih, h0, h3, h4, h8, hk, hf]
    show _ = (if M 8 e = 0 ∧ M 3 (M 4 e) = 1 then min 99 (gzN M kk ff e i + ripN kk ff (M 0 2 + (i + 1))) else gzN M kk ff e i)
    by_cases hq : M 8 e = 0 ∧ M 3 (M 4 e) = 1
    · rw [if_pos ⟨he, hq.1, hq.2⟩, if_pos hq]
      rfl
    · rw [if_neg (fun z => hq z.2), if_neg hq]
/-- all so -/
def alB (P : Nat → Bool) : Nat → Bool
  | 0 => true
  | n + 1 => alB P n && P n
theorem ff_all {Q : Nat → Bool} : ∀ (j k : Nat), ff Q k j = none → ∀ i, k ≤ i → i < k + j → Q i = false := by
  intro j
  induction j with
  | zero => intro k _ i h1 h2; omega
  | succ j ih =>
    intro k h i h1 h2
    unfold ff at h
    split at h
    · cases h
    · rename_i hk
      by_cases hik : i = k
      · subst hik; simpa using hk
      · exact ih (k + 1) h i (by omega) (by omega)
theorem alB_iff {P : Nat → Bool} : ∀ {n : Nat}, alB P n = true ↔ ∀ i, i < n → P i = true := by
  intro n
  induction n with
  | zero => exact ⟨fun _ i h => by omega, fun _ => rfl⟩
  | succ n ih =>
    show (alB P n && P n) = true ↔ _
    rw [Bool.and_eq_true, ih]
    constructor
    · intro h i hi
      by_cases hin : i = n
      · subst hin; exact h.2
      · exact h.1 i (by omega)
    · intro h
      exact ⟨fun i hi => h i (by omega), h n (by omega)⟩
theorem alB_fst {P : Nat → Bool} {n : Nat} : (fst (fun i => !P i) n).isNone = alB P n := by
  cases hf : fst (fun i => !P i) n with
  | none =>
    have := ff_all n 0 hf
    have h2 : alB P n = true := alB_iff.mpr (fun i hi => by have := this i (by omega) (by omega); simpa using this)
    rw [h2]; rfl
  | some i =>
    obtain ⟨h1, h2⟩ := fst_some hf
    have h3 : ¬ alB P n = true := fun z => by
      have := alB_iff.mp z i h1
      simp [this] at h2
    rw [show alB P n = false by simpa using h3]; rfl
end B9
