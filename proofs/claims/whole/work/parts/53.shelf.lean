/-! shelves, their rows; order -/
section SH
variable {A : yM} {d j k : Nat}
theorem sh8 (hd : d < 8) : d = 0 ∨ d = 1 ∨ d = 2 ∨ d = 3 ∨ d = 4 ∨ d = 5 ∨ d = 6 ∨ d = 7 := by omega
theorem sh_row (hd : d < 8) {K : Nat → Option yR} : yrR A 59 (nI d) K = K (60 + 2 * d) := by
  have h1 : yrw A 59 = some (8, fun i => if i < 8 then some (60 + 2 * i) else none) := rfl
  unfold yrR
  rw [h1]
  dsimp only
  rw [if_neg (nI_in hd (by omega)), nI_clamp (by omega), if_pos hd]
theorem sh_R (hd : d < 8) {K : Nat → Option yR} : ygR A (60 + 2 * d) 7 5 K = K (61 + 2 * d) := by
  rcases sh8 hd with rfl | rfl | rfl | rfl | rfl | rfl | rfl | rfl <;> rfl
theorem sh_I (hd : d < 8) (hk : k < 5) {K : Int32 → Option yR} : ygI A (60 + 2 * d) 7 k K = K (A (60 + 2 * d) k) := by
  have : k = 0 ∨ k = 1 ∨ k = 2 ∨ k = 3 ∨ k = 4 := by omega
  rcases sh8 hd with rfl | rfl | rfl | rfl | rfl | rfl | rfl | rfl <;> rcases this with rfl | rfl | rfl | rfl | rfl <;> rfl
theorem sh_P (hd : d < 8) (hk : k < 5) {v : Int32} {K : yM → Option yR} : ypI A (60 + 2 * d) 7 k v K = K (yup A (60 + 2 * d) k v) := by
  have : k = 0 ∨ k = 1 ∨ k = 2 ∨ k = 3 ∨ k = 4 := by omega
  rcases sh8 hd with rfl | rfl | rfl | rfl | rfl | rfl | rfl | rfl <;> rcases this with rfl | rfl | rfl | rfl | rfl <;> rfl
theorem sh_l (hd : d < 8) : yln A (61 + 2 * d) = some 100 := by
  rcases sh8 hd with rfl | rfl | rfl | rfl | rfl | rfl | rfl | rfl <;> rfl
theorem sh_rd (hd : d < 8) (hj : j < 100) {K : Int32 → Option yR} : yrd A (61 + 2 * d) (nI j) K = K (A (61 + 2 * d) j) := yrd_at (sh_l hd) (by omega) hj
theorem sh_wr (hd : d < 8) (hj : j < 100) {v : Int32} {K : yM → Option yR} : ywr A (61 + 2 * d) (nI j) v K = K (yup A (61 + 2 * d) j v) := ywr_at (sh_l hd) (by omega) hj
theorem sh_v (hd : d < 8) {m : Nat} {C : yC} {as : List Value} : yvt [(7, m)] C (.ref (60 + 2 * d) :: as) A = C m (.ref (60 + 2 * d) :: as) A := by
  rcases sh8 hd with rfl | rfl | rfl | rfl | rfl | rfl | rfl | rfl <;> rfl
theorem m8r {q : Nat} (hq : 86 ≤ q ∧ q ≤ 90) (hd : d < 8) {K : Int32 → Option yR} : yrd A q (nI d) K = K (A q d) := by
  have : q = 86 ∨ q = 87 ∨ q = 88 ∨ q = 89 ∨ q = 90 := by omega
  exact yrd_at (n := 8) (by rcases this with rfl | rfl | rfl | rfl | rfl <;> rfl) (by omega) hd
theorem m8w {q : Nat} (hq : 86 ≤ q ∧ q ≤ 90) (hd : d < 8) {v : Int32} {K : yM → Option yR} : ywr A q (nI d) v K = K (yup A q d v) := by
  have : q = 86 ∨ q = 87 ∨ q = 88 ∨ q = 89 ∨ q = 90 := by omega
  exact ywr_at (n := 8) (by rcases this with rfl | rfl | rfl | rfl | rfl <;> rfl) (by omega) hd
theorem m91r (hj : j < 800) {K : Int32 → Option yR} : yrd A 91 (nI j) K = K (A 91 j) := yrd_at (n := 800) rfl (by omega) hj
theorem m91w (hj : j < 800) {v : Int32} {K : yM → Option yR} : ywr A 91 (nI j) v K = K (yup A 91 j v) := ywr_at (n := 800) rfl (by omega) hj
end SH
def rfI (T : Nat → Nat → Nat) (k d : Nat) : Int32 := if T d 0 = 0 then -nI 11 else if T d 0 = k then nI 0 else -nI 12
theorem rfI_0 {T : Nat → Nat → Nat} {k d : Nat} (hk : k ≠ 0) : (rfI T k d = nI 0) = (T d 0 = k) := by
  unfold rfI
  by_cases h0 : T d 0 = 0
  · rw [if_pos h0, ng.2.2.2.2.1, h0]
    exact (eq_false (fun e => hk e.symm)).symm
  · rw [if_neg h0]
    by_cases h1 : T d 0 = k
    · rw [if_pos h1]; exact (eq_true rfl).trans (eq_true h1).symm
    · rw [if_neg h1, ng.2.2.2.2.2.1]; exact (eq_false h1).symm
section B4
variable {A : yM} {M I : Mt} {hI : Nat} {T : Nat → Nat → Nat} {c : Nat → Nat → Int32} {g : Nat} {n d : Nat}
theorem X11_isShelf_ok (hn : 1 ≤ n) (x : Int32) : ycall n 134 [.int x] A = some (some (.int (bI (okI x 8))), A) := by
  obtain ⟨n, rfl⟩ := Nat.exists_eq_add_of_le' hn
  rw [en_X11_isShelf]
  unfold okI bI
  by_cases h1 : x < nI 0
  · simp [h1, l_lit]
  · by_cases h2 : nI 8 ≤ x
    · simp [h1, h2, l_lit, Int32.not_lt.mpr h2]
    · simp [h1, h2, l_lit, Int32.not_le.mp h2]
theorem X12_isShelf_ok (hn : 2 ≤ n) (x : Int32) : ycall n 229 [.int x] A = some (some (.int (bI (okI x 8))), A) := by
  obtain ⟨n, rfl⟩ := Nat.exists_eq_add_of_le' hn
  simp (disch := omega) only [en_X12_isShelf, l_lit, X12_in0, Nat.reduceAdd, yi_b, bI_01, if_true]
theorem X11_held_ok (hn : 2 ≤ n) (ht : Shf A T c) (hd : d < 8) {k : Nat} (hk : k ≤ 2) : ycall n 137 [.ref 1, .int (nI d), .int (nI k)] A = some (some (.int (rfI T k d)), A) := by
  obtain ⟨n, rfl⟩ := Nat.exists_eq_add_of_le' hn
  obtain ⟨h1, h2, -⟩ := ht d hd
  have hs : okI (nI d) 8 = true := by rw [okI_nI (by omega) (by omega)]; exact decide_eq_true hd
  simp (disch := omega) only [en_X11_refusalOfHeld, X11_isShelf_ok, hs, bI_t, yi_b, l_lit, nI_eq, Nat.one_ne_zero, if_false, xR, sh_row, sh_I, h2]
  unfold rfI
  by_cases h0 : T d 0 = 0
  · rw [if_pos h0, if_pos h0]
  · rw [if_neg h0, if_neg h0]
    by_cases h3 : T d 0 = k
    · rw [if_pos h3, if_pos h3]
    · rw [if_neg h3, if_neg h3]
theorem X11_held_no (hn : 2 ≤ n) {x : Int32} (hx : okI x 8 = false) (v : Int32) : ycall n 137 [.ref 1, .int x, .int v] A = some (some (.int (-1)), A) := by
  obtain ⟨n, rfl⟩ := Nat.exists_eq_add_of_le' hn
  rw [en_X11_refusalOfHeld, X11_isShelf_ok (by omega), yi_b, hx, bI_f]
  exact if_pos rfl
theorem X11_row_ok (hn : 3 ≤ n) (ht : Shf A T c) (hd : d < 8) : ycall n 135 [.ref 1, .int (nI d)] A = some (some (.int (rfI T 2 d)), A) := by
  obtain ⟨n, rfl⟩ := Nat.exists_eq_add_of_le' hn
  simp (disch := omega) only [en_X11_refusalOfRow, xV, l_lit, X11_held_ok _ ht hd, yi_b]
theorem X11_row_no (hn : 3 ≤ n) {x : Int32} (hx : okI x 8 = false) : ycall n 135 [.ref 1, .int x] A = some (some (.int (-1)), A) := by
  obtain ⟨n, rfl⟩ := Nat.exists_eq_add_of_le' hn
  rw [en_X11_refusalOfRow, xV, X11_held_no (by omega) hx, yi_b]
theorem X11_one_ok (hn : 3 ≤ n) (ht : Shf A T c) (hd : d < 8) : ycall n 136 [.ref 1, .int (nI d)] A = some (some (.int (rfI T 1 d)), A) := by
  obtain ⟨n, rfl⟩ := Nat.exists_eq_add_of_le' hn
  simp (disch := omega) only [en_X11_refusalOfOne, xV, l_lit, X11_held_ok _ ht hd, yi_b]
theorem X11_one_no (hn : 3 ≤ n) {x : Int32} (hx : okI x 8 = false) : ycall n 136 [.ref 1, .int x] A = some (some (.int (-1)), A) := by
  obtain ⟨n, rfl⟩ := Nat.exists_eq_add_of_le' hn
  rw [en_X11_refusalOfOne, xV, X11_held_no (by omega) hx, yi_b]
theorem X12_row_ok (hn : 3 ≤ n) (ht : Shf A T c) (hd : d < 8) : ycall n 230 [.ref 79, .int (nI d), .int (-nI 1)] A = some (some (.int (rfI T 2 d)), A) := by
  obtain ⟨n, rfl⟩ := Nat.exists_eq_add_of_le' hn
  obtain ⟨h1, -, h2, -⟩ := ht d hd
  have hs : okI (nI d) 8 = true := by rw [okI_nI (by omega) (by omega)]; exact decide_eq_true hd
  simp (disch := omega) only [en_X12_wrongRow, X12_isShelf_ok, hs, bI_t, yi_b, l_lit, nI_eq, Nat.one_ne_zero, if_false, mR, m8r, h2, ngl, if_true]
  unfold rfI
  by_cases h0 : T d 0 = 0
  · rw [if_pos h0, if_pos h0]
  · rw [if_neg h0, if_neg h0]
    by_cases h3 : T d 0 = 2
    · rw [if_pos h3, if_pos h3]
    · rw [if_neg h3, if_neg h3]
theorem X12_row_no (hn : 3 ≤ n) {x : Int32} (hx : okI x 8 = false) (v : Int32) : ycall n 230 [.ref 79, .int x, .int v] A = some (some (.int (-1)), A) := by
  obtain ⟨n, rfl⟩ := Nat.exists_eq_add_of_le' hn
  rw [en_X12_wrongRow, X12_isShelf_ok (by omega), yi_b, hx, bI_f]
  exact if_pos rfl
theorem X12_kept_ok (hn : 3 ≤ n) (ht : Shf A T c) (hd : d < 8) : ycall n 231 [.ref 79, .int (nI d)] A = some (some (.int (rfI T 1 d)), A) := by
  obtain ⟨n, rfl⟩ := Nat.exists_eq_add_of_le' hn
  obtain ⟨h1, -, h2, -⟩ := ht d hd
  have hs : okI (nI d) 8 = true := by rw [okI_nI (by omega) (by omega)]; exact decide_eq_true hd
  simp (disch := omega) only [en_X12_wrongKept, X12_isShelf_ok, hs, bI_t, yi_b, l_lit, nI_eq, Nat.one_ne_zero, if_false, mR, m8r, h2]
  unfold rfI
  by_cases h0 : T d 0 = 0
  · rw [if_pos h0, if_pos h0]
  · rw [if_neg h0, if_neg h0]
    by_cases h3 : T d 0 = 2
    · rw [if_pos h3, if_neg (show ¬ T d 0 = 1 by omega)]
    · rw [if_neg h3, if_pos (show T d 0 = 1 by omega)]
theorem X12_kept_no (hn : 3 ≤ n) {x : Int32} (hx : okI x 8 = false) : ycall n 231 [.ref 79, .int x] A = some (some (.int (-1)), A) := by
  obtain ⟨n, rfl⟩ := Nat.exists_eq_add_of_le' hn
  rw [en_X12_wrongKept, X12_isShelf_ok (by omega), yi_b, hx, bI_f]
  exact if_pos rfl
/-- a call that first looks for a ROW on a SHELF -/
theorem api_row (hi : InvX A M I hI T c g) {cm rm : Nat} {as : List Value} {x : Int32} {K1 K2 : Int32 × yM → Option yR}
    (e1 : ycall 20 cm (.ref 1 :: as) A = (yi (yvt [(10, 135)] (ycall 19) [.ref 1, .int x] A)).bind (fun z1 => if z1.1 = 0 then K1 z1 else some (some (.int z1.1), z1.2)))
    (e2 : ∀ A, ycall 20 rm (.ref 79 :: as) A = (yi (yvt [(11, 230)] (ycall 19) [.ref 79, .int x, .int (-1 : Int32)] A)).bind (fun z1 => if z1.1 = 0 then K2 z1 else some (some (.int z1.1), z1.2)))
    (h : ∀ k, x = nI k → k < 8 → T k 0 = 2 → Api cm rm as A g) (hcm : nlg cm = true := by rfl) : Api cm rm as A g := by
  by_cases hx : okI x 8 = true
  · obtain ⟨k, hk, rfl⟩ := okI_of (by omega) hx
    by_cases h2 : T k 0 = 2
    · exact h k rfl hk h2
    · have h0 : ¬ rfI T 2 k = nI 0 := fun e => h2 ((rfI_0 (by omega)).mp e)
      refine api_read hi (.int (rfI T 2 k)) ⟨_, ?_, Sc_r A⟩ (fun A1 hi => ⟨_, ?_, Sc_r A1⟩) hcm
      · rw [e1, xV, X11_row_ok (by omega) (iT hi) hk, yi_b]
        exact if_neg h0
      · rw [e2, mV]
        have := X12_row_ok (n := 19) (by omega) (iT hi) hk
        rw [show (-1 : Int32) = -nI 1 from rfl, this, yi_b]
        exact if_neg h0
  · have hx := okI_f hx
    refine api_read hi (.int (-1)) ⟨_, ?_, Sc_r A⟩ (fun A1 hi => ⟨_, ?_, Sc_r A1⟩) hcm
    · rw [e1, xV, X11_row_no (by omega) hx, yi_b]
      exact if_neg (show ¬ (-1 : Int32) = 0 by decide +kernel)
    · rw [e2, mV, X12_row_no (by omega) hx, yi_b]
      exact if_neg (show ¬ (-1 : Int32) = 0 by decide +kernel)
theorem sh_len (ht : Shf A T c) (hd : d < 8) (h : T d 0 = 2) : T d 4 ≤ 100 ∧ A (60 + 2 * d) 4 = nI (T d 4) ∧ A 90 d = nI (T d 4) ∧ A (60 + 2 * d) 3 = nI (T d 3) ∧ A 89 d = nI (T d 3) ∧ T d 3 ≤ 2 := by
  obtain ⟨-, -, -, -, h5⟩ := ht d hd
  obtain ⟨a, b, c1, c2, c3, c4, -⟩ := h5 h
  exact ⟨b, c2, c4, c1, c3, a⟩
theorem sh_el (ht : Shf A T c) (hd : d < 8) (h : T d 0 = 2) {j : Nat} (hj : j < T d 4) : A (61 + 2 * d) j = c d j ∧ A 91 (100 * d + j) = c d j := by
  have hl := (sh_len ht hd h).1
  obtain ⟨-, -, -, -, h5⟩ := ht d hd
  obtain ⟨-, -, -, -, -, -, h6⟩ := h5 h
  have := h6 j (by omega)
  exact ⟨this.1, this.2.1⟩
theorem X7_firstPlaceOf_ok (hn : 1 ≤ n) (ht : Shf A T c) (hd : d < 8) (h : T d 0 = 2) (x : Int32) : ycall n 59 [.ref (60 + 2 * d), .int x] A = some (some (.int (ocd (fst (fun i => decide (c d i = x)) (T d 4)))), A) := by
  obtain ⟨n, rfl⟩ := Nat.exists_eq_add_of_le' hn
  obtain ⟨l1, l2, -⟩ := sh_len ht hd h
  rw [en_X7_firstPlaceOf]
  refine (for_ret (fun k => yb_X7_firstPlaceOf (ycall n) (2, [some (.ref (60 + 2 * d)), some (.int x), some (.int (nI k))], [], A)) (fun k => some (some (.int (nI k)), A)) (fun i => decide (c d i = x)) (T d 4) (fun k hk => ?_)).trans ?_
  · have e1 := (sh_el ht hd h hk).1
    refine (bk_X7_firstPlaceOf_2 ..).trans ?_
    simp (disch := omega) only [sh_I hd, sh_R hd, sh_rd hd, l2, e1, l_lit, nI_leI, Nat.not_le.mpr hk, if_false, nI_add, decide_eq_true_eq]
  · show _ = (some (some (Value.int (ocd (fst (fun i => decide (c d i = x)) (T d 4)))), A) : Option yR)
    cases hf : fst (fun i => decide (c d i = x)) (T d 4) with
    | some i => rfl
    | none =>
      refine (bk_X7_firstPlaceOf_2 ..).trans ?_
      simp (disch := omega) only [sh_I hd, l2, l_lit, nI_leI, Nat.le_refl, if_true]
      rfl
/-- whether x is among the first i -/
def oc (f : Nat → Int32) (x : Int32) : Nat → Bool
  | 0 => false
  | i + 1 => oc f x i || decide (f i = x)
theorem oc_fst {f : Nat → Int32} {x : Int32} : ∀ (n : Nat), (fst (fun i => decide (f i = x)) n = none ∧ ∀ i, i ≤ n → oc f x i = false) ∨ ∃ q, fst (fun i => decide (f i = x)) n = some q ∧ ∀ i, i ≤ n → oc f x i = decide (q < i) := by
  intro n
  have hz : ∀ j, (∀ i, i < j → ¬ f i = x) → ∀ i, i ≤ j → oc f x i = false := by
    intro j h i
    induction i with
    | zero => intro _; rfl
    | succ i ih =>
      intro hi
      show (oc f x i || decide (f i = x)) = false
      rw [ih (by omega), decide_eq_false (h i (by omega))]
      rfl
  by_cases hx : ∃ i, i < n ∧ f i = x
  · obtain ⟨r, r1, r2⟩ := hx
    obtain ⟨q, a, b, d⟩ := least_ex (P := fun i => decide (f i = x)) (decide_eq_true r2)
    right
    refine ⟨q, fst_eq (by omega) b d, fun i hi => ?_⟩
    have b' := of_decide_eq_true b
    have d' : ∀ i, i < q → ¬ f i = x := fun i h => of_decide_eq_false (d i h)
    clear hi
    induction i with
    | zero => rw [decide_eq_false (by omega)]; rfl
    | succ i ih =>
      show (oc f x i || decide (f i = x)) = _
      rw [ih]
      by_cases h1 : q < i
      · rw [decide_eq_true h1, decide_eq_true (show q < i + 1 by omega)]; rfl
      · by_cases h2 : q = i
        · subst h2
          rw [decide_eq_true b', decide_eq_true (show q < q + 1 by omega), Bool.or_true]
        · rw [decide_eq_false h1, decide_eq_false (d' i (by omega)), decide_eq_false (show ¬ q < i + 1 by omega)]; rfl
  · left
    have h2 : ∀ i, i < n → ¬ f i = x := fun i h e => hx ⟨i, h, e⟩
    exact ⟨fst_none (fun i h => decide_eq_false (h2 i h)), hz n h2⟩
/-- whether the ROW stops being an ORDER at i -/
def badO (M : Mt) (f : Nat → Int32) (n i : Nat) : Bool := match fst (fun e => decide (f i = nI e)) (M 0 1) with
  | none => true
  | some e => oc f (nI e) i || (decide (M 7 e < e) && (oc f (nI (M 7 e)) n && !oc f (nI (M 7 e)) i))
theorem okI_fst {x : Int32} {k : Nat} (hk : k < 1000) : (okI x k = false ∧ fst (fun e => decide (x = nI e)) k = none) ∨ ∃ e, e < k ∧ x = nI e ∧ okI x k = true ∧ fst (fun e => decide (x = nI e)) k = some e := by
  by_cases h : okI x k = true
  · right
    obtain ⟨e, he, rfl⟩ := okI_of (by omega) h
    refine ⟨e, he, rfl, h, fst_eq he (decide_eq_true rfl) (fun i hi => decide_eq_false (fun q => ?_))⟩
    rw [nI_eq (by omega) (by omega)] at q
    omega
  · have h := okI_f h
    left
    refine ⟨h, fst_none (fun i hi => decide_eq_false (fun q => ?_))⟩
    rw [q, okI_nI (by omega) (by omega)] at h
    exact of_decide_eq_false h hi
theorem fp_fact {f : Nat → Int32} {x : Int32} {n i : Nat} (hn : n ≤ 100) (hi : i < n) : ((nI i ≤ ocd (fst (fun i => decide (f i = x)) n)) = (oc f x n = true ∧ oc f x i = false)) ∧ ((ocd (fst (fun i => decide (f i = x)) n) ≤ nI i) = ¬ (oc f x n = true ∧ oc f x (i + 1) = false)) := by
  have h4 : (-4 : Int32) < nI i := Int32.lt_of_lt_of_le (of_eq_true neg4) (nI_le (Nat.zero_le _) (by omega))
  rcases oc_fst (f := f) (x := x) n with ⟨q1, q2⟩ | ⟨q, q1, q2⟩
  · rw [q1, q2 n (Nat.le_refl n)]
    refine ⟨(eq_false (Int32.not_le.mpr h4)).trans (eq_false (by simp)).symm, (eq_true (Int32.le_of_lt h4)).trans (eq_true (by simp)).symm⟩
  · have hq := (fst_some q1).1
    rw [q1, q2 n (Nat.le_refl n), q2 i (by omega), q2 (i + 1) (by omega)]
    refine ⟨propext ((show nI i ≤ ocd (some q) ↔ i ≤ q from nI_leI (by omega) (by omega)).trans ?_), propext ((show ocd (some q) ≤ nI i ↔ q ≤ i from nI_leI (by omega) (by omega)).trans ?_)⟩
    · simp only [decide_eq_true_eq, decide_eq_false_iff_not]; omega
    · simp only [decide_eq_true_eq, decide_eq_false_iff_not]; omega
theorem oc_here {f : Nat → Int32} {x : Int32} {n i : Nat} (hi : i < n) (h : f i = x) : oc f x n = true := by
  rcases oc_fst (f := f) (x := x) n with ⟨q1, q2⟩ | ⟨q, q1, q2⟩
  · have := q2 (i + 1) (by omega)
    change (oc f x i || decide (f i = x)) = false at this
    rw [h, decide_eq_true rfl, Bool.or_true] at this
    cases this
  · rw [q2 n (Nat.le_refl n)]
    exact decide_eq_true (fst_some q1).1
theorem X11_order_22 (hn : 2 ≤ n) (hc : Col A 2 M) (hg : Good M) (ht : Shf A T c) (hd : d < 8) (h : T d 0 = 2) : yb_X11_order (ycall n) (22, [some (.ref 1), none, none, some (.ref (60 + 2 * d)), some (.int (nI 0)), none], [], A) = some (some (.int (ocd (fst (badO M (c d) (T d 4)) (T d 4)))), A) := by
  have hE := gE hg
  obtain ⟨l1, l2, -⟩ := sh_len ht hd h
  refine (for_ret (fun k => yb_X11_order (ycall n) (22, [some (.ref 1), none, none, some (.ref (60 + 2 * d)), some (.int (nI k)), none], [], A)) (fun k => some (some (.int (nI k)), A)) (badO M (c d) (T d 4)) (T d 4) (fun k hk => ?_)).trans ?_
  · have e1 := (sh_el ht hd h hk).1
    refine (bk_X11_order_22 ..).trans ?_
    unfold badO
    rcases okI_fst (x := c d k) (k := M 0 1) (by omega) with ⟨o1, o2⟩ | ⟨e, he, o0, o1, o2⟩
    · simp (disch := omega) only [xR, cV hc.1, sh_I hd, sh_R hd, sh_rd hd, l2, e1, l_lit, nI_leI, Nat.not_le.mpr hk, if_false, X0_hasError_ok _ hc, o1, o2, bI_f, yi_b, if_true]
    · have h7 := gEr hg he
      have p1 : (nI k ≤ ocd (fst (fun i => decide (c d i = nI e)) (T d 4))) = (oc (c d) (nI e) k = false) := by
        rw [(fp_fact l1 hk).1, oc_here hk o0]
        simp
      have p2 : M 7 e < e → (ocd (fst (fun i => decide (c d i = nI (M 7 e))) (T d 4)) ≤ nI k) = ¬ (oc (c d) (nI (M 7 e)) (T d 4) = true ∧ oc (c d) (nI (M 7 e)) k = false) := fun hlt => by
        rw [(fp_fact l1 hk).2]
        show (¬ (_ ∧ (oc (c d) (nI (M 7 e)) k || decide (c d k = nI (M 7 e))) = false)) = _
        rw [decide_eq_false (show ¬ c d k = nI (M 7 e) from fun q => by
          rw [o0, nI_eq (by omega) (by omega)] at q
          omega), Bool.or_false]
      rw [o2]
      simp (disch := omega) only [xR, cV hc.1, cR hc.1, cD12 hc.1, cCt hc, sh_I hd, sh_R hd, sh_rd hd, sh_v hd, l2, e1, o0, l_lit, nI_leI, Nat.not_le.mpr hk, if_false, X0_hasError_ok _ hc, okI_ct hg he, show okI (nI e) (M 0 1) = true from o0 ▸ o1, bI_t, yi_b, nI_eq, nI_add, Nat.one_ne_zero, X7_firstPlaceOf_ok _ ht hd h, p1]
      by_cases h8 : M 7 e < e
      · simp only [decide_eq_true h8, bI_t, p2 h8, show (nI 1 = nI 0) = False from eq_false (by decide +kernel), if_false]
        cases oc (c d) (nI e) k <;> cases oc (c d) (nI (M 7 e)) (T d 4) <;> cases oc (c d) (nI (M 7 e)) k <;> simp
      · simp only [decide_eq_false h8, bI_f]
        cases oc (c d) (nI e) k <;> simp
  · show _ = (some (some (Value.int (ocd (fst (badO M (c d) (T d 4)) (T d 4)))), A) : Option yR)
    cases hf : fst (badO M (c d) (T d 4)) (T d 4) with
    | some i => rfl
    | none =>
      refine (bk_X11_order_22 ..).trans ?_
      simp (disch := omega) only [sh_I hd, l2, l_lit, nI_leI, Nat.le_refl, if_true]
      rfl
def ocb (f : Nat → Int32) (n k : Nat) : Nat := bts (fun e => if oc f (nI e) k = true then 1 else 0) n
theorem ocb_2 {f : Nat → Int32} {k : Nat} (e : Nat) : (if oc f (nI e) k = true then 1 else 0) < 2 := by split <;> omega
theorem ocb_lt {f : Nat → Int32} {n k : Nat} (hn : n ≤ 12) : ocb f n k < 4096 := by
  have h1 : ocb f n k < 2 ^ n := bts_lt (fun e _ => ocb_2 e)
  have h2 : 2 ^ n ≤ 2 ^ 12 := Nat.pow_le_pow_right (by omega) hn
  omega
theorem ocb_bit {f : Nat → Int32} {n k e : Nat} (he : e < n) : ocb f n k / 2 ^ e % 2 = if oc f (nI e) k = true then 1 else 0 := bts_bit (fun e _ => ocb_2 e) he
theorem ocb_or {f : Nat → Int32} {n k e : Nat} (hn : n ≤ 12) (he : e < n) (hf : f k = nI e) : nI (ocb f n k) ||| nI (2 ^ e) = nI (ocb f n (k + 1)) := by
  unfold ocb
  rw [bts_or (fun e _ => ocb_2 e) he (by omega)]
  refine congrArg nI (bts_congr (fun j hj => ?_))
  show _ = if (oc f (nI j) k || decide (f k = nI j)) = true then 1 else 0
  by_cases h : j = e
  · subst h
    rw [if_pos rfl, decide_eq_true hf, Bool.or_true, if_pos rfl]
  · rw [if_neg h, decide_eq_false (fun q => by
      rw [hf, nI_eq (by omega) (by omega)] at q
      exact h q.symm), Bool.or_false]
theorem ocb_no {f : Nat → Int32} {n k : Nat} (hf : ∀ e, e < n → ¬ f k = nI e) : ocb f n (k + 1) = ocb f n k := by
  unfold ocb
  refine bts_congr (fun j hj => ?_)
  show (if (oc f (nI j) k || decide (f k = nI j)) = true then 1 else 0) = _
  rw [decide_eq_false (hf j hj), Bool.or_false]
theorem X12_has_ok (hn : 1 ≤ n) {x k : Nat} (hx : x < 2 ^ 31) (hk : k < 31) : ycall n 147 [.int (nI x), .int (nI k)] A = some (some (.int (nI (x / 2 ^ k % 2))), A) := by
  obtain ⟨n, rfl⟩ := Nat.exists_eq_add_of_le' hn
  rw [en_X12_has]
  have hb2 : x / 2 ^ k % 2 = 0 ∨ x / 2 ^ k % 2 = 1 := by omega
  simp (disch := omega) only [l_lit, nI_bit, nI_eq, true_or, or_true, if_true]
  rcases hb2 with hb2 | hb2 <;> simp [hb2]
theorem nf_out {x : Int32} {k : Nat} (hk : k < 1000) (h : okI x k = false) : ∀ e, e < k → ¬ x = nI e := fun e he q => by
  rw [q, okI_nI (by omega) (by omega)] at h
  exact of_decide_eq_false h he
theorem X12_order_18 (hn : 3 ≤ n) (hr : Row A 80 M) (hg : Good M) (ht : Shf A T c) (hd : d < 8) (h : T d 0 = 2) : yb_X12_order (ycall n) (18, [some (.ref 79), some (.int (nI d)), none, some (.int (nI 0)), some (.int (nI 0)), none, none, none], [], A) = some (some (.int (ocd (fst (badO M (c d) (T d 4)) (T d 4)))), A) := by
  obtain ⟨n, rfl⟩ := Nat.exists_eq_add_of_le' hn
  have hE := gE hg
  obtain ⟨l1, -, l2, -⟩ := sh_len ht hd h
  have z0 : ocb (c d) (M 0 1) 0 = 0 := bts_z (fun k hk => rfl)
  have hX := for_up (fun k => yb_X12_order (ycall (n + 3)) (18, [some (.ref 79), some (.int (nI d)), none, some (.int (nI (ocb (c d) (M 0 1) k))), some (.int (nI k)), none, none, none], [], A)) (T d 4) (fun k hk => by
    have e1 := (sh_el ht hd h hk).2
    refine (bk_X12_order_18 ..).trans ?_
    rcases okI_fst (x := c d k) (k := M 0 1) (by omega) with ⟨o1, o2⟩ | ⟨e, he, o0, o1, o2⟩
    · simp (disch := omega) only [mR, mV, m8r, m91r, l2, e1, l_lit, nI_leI, Nat.not_le.mpr hk, if_false, X12_isError_ok _ hr hg, nI_mul, nI_add, o1, bI_f, yi_b, if_true, ocb_no (nf_out (by omega) o1)]
    · simp (disch := omega) only [mR, mV, m8r, m91r, l2, e1, l_lit, nI_leI, Nat.not_le.mpr hk, if_false, X12_isError_ok _ hr hg, nI_mul, nI_add, o0, show okI (nI e) (M 0 1) = true from o0 ▸ o1, bI_t, yi_b, nI_eq, Nat.one_ne_zero, nI_bitat, ocb_or (show M 0 1 ≤ 12 from hE) he o0])
  rw [z0] at hX
  refine hX.trans ?_
  refine (bk_X12_order_18 ..).trans ?_
  simp (disch := omega) only [mR, m8r, l2, l_lit, nI_leI, Nat.le_refl, if_true]
  have hY := for_ret (fun k => yb_X12_order (ycall (n + 3)) (77, [some (.ref 79), some (.int (nI d)), none, some (.int (nI (ocb (c d) (M 0 1) (T d 4)))), some (.int (nI (ocb (c d) (M 0 1) k))), some (.int (nI k)), none, none], [], A)) (fun k => some (some (.int (nI k)), A)) (badO M (c d) (T d 4)) (T d 4) (fun k hk => by
    have e1 := (sh_el ht hd h hk).2
    refine (bk_X12_order_77 ..).trans ?_
    unfold badO
    rcases okI_fst (x := c d k) (k := M 0 1) (by omega) with ⟨o1, o2⟩ | ⟨e, he, o0, o1, o2⟩
    · simp (disch := omega) only [mR, mV, m8r, m91r, l2, e1, l_lit, nI_leI, Nat.not_le.mpr hk, if_false, X12_isError_ok _ hr hg, nI_mul, nI_add, o1, o2, bI_f, yi_b, if_true]
    · have h7 := gEr hg he
      have b1 := ocb_lt (f := c d) (n := M 0 1) (k := T d 4) hE
      have b2 := ocb_lt (f := c d) (n := M 0 1) (k := k) hE
      have hend : yb_X12_order (ycall (n + 3)) (166, [some (.ref 79), some (.int (nI d)), none, some (.int (nI (ocb (c d) (M 0 1) (T d 4)))), some (.int (nI (ocb (c d) (M 0 1) k))), some (.int (nI k)), some (.int (nI e)), none], [], A) = yb_X12_order (ycall (n + 3)) (77, [some (.ref 79), some (.int (nI d)), none, some (.int (nI (ocb (c d) (M 0 1) (T d 4)))), some (.int (nI (ocb (c d) (M 0 1) (k + 1)))), some (.int (nI (k + 1))), none, none], [], A) := by
        refine (bk_X12_order_166 ..).trans ?_
        simp (disch := omega) only [l_lit, nI_add, nI_bitat, ocb_or (show M 0 1 ≤ 12 from hE) he o0]
      rw [o2]
      cases hb : oc (c d) (nI e) k with
      | true => simp (disch := omega) only [mR, mV, qD hr.1, rS hr, rE hr, rW hr, rKd hr, rFg hr, rIn hr, rBy hr, rTp hr, rSz hr, rCt hr, rCo hr, en_X12_ofS, en_X12_ofE, m8r, m91r, l2, e1, l_lit, nI_leI, Nat.not_le.mpr hk, if_false, X12_isError_ok _ hr hg, nI_mul, nI_add, o0, show okI (nI e) (M 0 1) = true from o0 ▸ o1, bI_t, yi_b, nI_eq, Nat.one_ne_zero, X12_has_ok, ocb_bit he, hb, if_true, Bool.true_or]
      | false =>
        simp (disch := omega) only [mR, mV, qD hr.1, rS hr, rE hr, rW hr, rKd hr, rFg hr, rIn hr, rBy hr, rTp hr, rSz hr, rCt hr, rCo hr, en_X12_ofS, en_X12_ofE, m8r, m91r, l2, e1, l_lit, nI_leI, Nat.not_le.mpr hk, if_false, if_true, X12_isError_ok _ hr hg, nI_mul, nI_add, o0, show okI (nI e) (M 0 1) = true from o0 ▸ o1, bI_t, yi_b, nI_eq, Nat.one_ne_zero, X12_has_ok, ocb_bit he, hb, Bool.false_eq_true, hend, Bool.false_or]
        by_cases h8 : M 7 e < e
        · have hm : M 7 e < M 0 1 := by omega
          simp (disch := omega) only [decide_eq_true h8, show ¬ M 7 e = 99 by omega, if_false, X12_has_ok, ocb_bit hm, yi_b, Bool.true_and]
          cases hb2 : oc (c d) (nI (M 7 e)) (T d 4) with
          | false => simp (disch := omega) only [if_true, if_false, Bool.false_eq_true, Bool.false_and]
          | true =>
            simp (disch := omega) only [if_true, if_false, nI_eq, Nat.one_ne_zero, Bool.true_and, X12_has_ok, ocb_bit hm, yi_b]
            cases hb3 : oc (c d) (nI (M 7 e)) k with
            | false => simp (disch := omega) only [if_true, if_false, Bool.false_eq_true, Bool.not_false]
            | true => simp (disch := omega) only [if_true, if_false, nI_eq, Nat.one_ne_zero, Bool.not_true, Bool.false_eq_true]
        · have h9 : M 7 e = 99 := by omega
          simp (disch := omega) only [h9, if_true, if_false, decide_eq_false (show ¬ 99 < e by omega), Bool.false_and, Bool.false_eq_true])
  rw [z0] at hY
  refine hY.trans ?_
  show _ = (some (some (Value.int (ocd (fst (badO M (c d) (T d 4)) (T d 4)))), A) : Option yR)
  cases hf : fst (badO M (c d) (T d 4)) (T d 4) with
  | some i => rfl
  | none =>
    refine (bk_X12_order_77 ..).trans ?_
    simp (disch := omega) only [mR, m8r, l2, l_lit, nI_leI, Nat.le_refl, if_true]
    rfl
theorem api_order (hi : InvX A M I hI T c g) (x : Int32) : Api 111 212 [.int x] A g := by
  refine api_row hi (en_X11_order ..) (fun A => en_X12_order ..) (fun k hx hk h2 => ?_)
  subst hx
  have hc := iC hi
  have hg := iG hi
  have hz : rfI T 2 k = nI 0 := (rfI_0 (by omega)).mpr h2
  refine api_read hi (.int (ocd (fst (badO M (c k) (T k 4)) (T k 4)))) ⟨_, ?_, Sc_r A⟩ (fun A1 hi => ⟨_, ?_, Sc_r A1⟩)
  · simp (disch := omega) only [en_X11_order, xV, X11_row_ok _ (iT hi) hk, hz, yi_b, l_lit, if_true, xR, sh_row hk]
    exact X11_order_22 (by omega) hc hg (iT hi) hk h2
  · simp (disch := omega) only [en_X12_order, mV, l_lit, X12_row_ok _ (iT hi) hk, hz, yi_b, if_true]
    exact X12_order_18 (by omega) (iR hi) hg (iT hi) hk h2
end B4
