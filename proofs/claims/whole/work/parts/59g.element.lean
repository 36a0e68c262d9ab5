/-! an element of a ROW, or what is thrown -/
section B15
variable {A : yM} {M I : Mt} {hI : Nat} {T : Nat → Nat → Nat} {c : Nat → Nat → Int32} {g : Nat} {n d : Nat}
/-- a call of it and the same one of the reference are alike; all still holds -/
def ApiE (x y : Int32) (A : yM) (g : Nat) : Prop := ∃ k A1 b A2 g', ycall 20 901 [.ref 1, .int x, .int y, .ref 92] A = some (some (.int k), A1) ∧ ycall 20 235 [.ref 79, .int x, .int y] A1 = some (some (.long b), A2) ∧ ycall 20 228 [.ref 79] A2 = some (some (.int k), A2) ∧ (k = 0 → (A2 92 0).toInt64 = b) ∧ g' ≤ g + 1 ∧ Inv A2 g' ∧ A2 0 = A 0 ∧ A2 93 = A 93 ∧ A1 0 = A 0 ∧ A1 93 = A 93
theorem y901 {x y : Int32} : ycall 20 901 [.ref 1, .int x, .int y, .ref 92] A = if 0 ≤ A 94 0 ∧ (A 94 0).toNatClampNeg < 100000 then
        (if x < 0 ∨ 8 ≤ x then some (some (Value.int 1), yfg A)
        else if A (60 + 2 * x.toNatClampNeg) 0 ≠ 2 ∨ y < 0 ∨ A (60 + 2 * x.toNatClampNeg) 4 ≤ y then some (some (Value.int 2), yfg A)
        else if y < 100 then some (some (Value.int 0), yup A 92 0 (A (61 + 2 * x.toNatClampNeg) y.toNatClampNeg)) else none) else none := by
  rw [ycall_sp rfl rfl]
  rfl
theorem th_ok (A : yM) : ycall 20 228 [.ref 79] A = some (some (.int (A 79 17)), A) := by
  rw [en_X12_thrown]
  simp only [↓mI]
theorem InvX_92 (hi : InvX A M I hI T c g) {v : Int32} : InvX (yup A 92 0 v) M I hI T c g := by
  obtain ⟨h1, h2, h3, h4, h5, h6, h7, h8, h9, h10⟩ := hi
  have f1 : ∀ p, p ≠ 92 → yup A 92 0 v p = A p := fun p hp => yup_ne1 hp
  refine ⟨h1, h2, Col_fr h3 (fun p hp => f1 p (by omega)), Row_eq h4 (f1 80 (by omega)), h5, ?_, ?_, fun q => ?_, ?_, ?_⟩
  · rw [f1 1 (by omega)]; exact h6
  · rw [f1 79 (by omega)]; exact h7
  · obtain ⟨a1, a2, a3, a4⟩ := h8 q
    exact ⟨a1, a2, Col_fr a3 (fun p hp => f1 p (by omega)), Row_eq a4 (f1 82 (by omega))⟩
  · exact Shf_eq h9 (fun p hp => f1 p (by omega)) (fun p hp => f1 p (by omega))
  · rw [f1 94 (by omega)]; exact h10
/-- thrown -/
theorem el_fg (hi : InvX A M I hI T c g) {x y : Int32} {k : Nat} (hk : k = 1 ∨ k = 2) (h1 : ycall 20 901 [.ref 1, .int x, .int y, .ref 92] A = some (some (.int (nI k)), yfg A)) (h2 : ∀ A1, InvX A1 M I hI T c (g + 1) → ycall 20 235 [.ref 79, .int x, .int y] A1 = some (some (.long 0), yup A1 79 17 (nI k))) : ApiE x y A g := by
  have f1 : ∀ p, p ≠ 94 → yfg A p = A p := fun p hp => yup_ne1 hp
  have s1 : Sc (yfg A) (yup (yfg A) 79 17 (nI k)) := Sc_up (by unfold scr; omega) (fun _ => by omega)
  refine ⟨nI k, yfg A, 0, yup (yfg A) 79 17 (nI k), g + 1, h1, h2 _ (InvX_fg hi), ?_, fun z => ?_, Nat.le_refl _, ⟨M, I, hI, T, c, InvX_Sc (InvX_fg hi) s1⟩, ?_, ?_, f1 0 (by omega), f1 93 (by omega)⟩
  · rw [th_ok, yup_eq]
  · exfalso
    rcases hk with rfl | rfl
    · exact absurd z (by decide +kernel)
    · exact absurd z (by decide +kernel)
  · rw [s1.1 0 (by unfold scr; omega), f1 0 (by omega)]
  · rw [s1.1 93 (by unfold scr; omega), f1 93 (by omega)]
theorem api_element (hi : InvX A M I hI T c g) (hgg : g < 100000) (x y : Int32) : ApiE x y A g := by
  have h94 : A 94 0 = nI g := hi.2.2.2.2.2.2.2.2.2
  have hg0 : 0 ≤ A 94 0 ∧ (A 94 0).toNatClampNeg < 100000 := ⟨by rw [h94]; exact nI_le (Nat.zero_le _) (by omega), by rw [h94, nI_nat (by omega)]; exact hgg⟩
  have n10 : (nI 1 = nI 0) = False := eq_false (by decide +kernel)
  have n20 : (nI 2 = nI 0) = False := eq_false (by decide +kernel)
  have l0 : (0 : Int64) = (nI 0).toInt64 := by decide +kernel
  have h901 := y901 (A := A) (x := x) (y := y)
  rw [if_pos hg0] at h901
  by_cases hx : okI x 8 = true
  · obtain ⟨d, hd, rfl⟩ := okI_of (by omega) hx
    have hx0 : ¬ ((nI d : Int32) < 0 ∨ 8 ≤ (nI d : Int32)) := by
      simp (disch := omega) only [l_lit, nI_ltI, nI_leI]; omega
    rw [if_neg hx0, nI_nat (by omega)] at h901
    obtain ⟨t1, t2, t3, -, t5⟩ := iT hi d hd
    rw [t2] at h901
    have e2 : (nI (T d 0) = 2) = (T d 0 = 2) := propext (nI_eq (a := T d 0) (b := 2) (by omega) (by omega))
    by_cases h2 : T d 0 = 2
    · obtain ⟨l1, l2, l3, l4, l5, l6⟩ := sh_len (iT hi) hd h2
      by_cases hy : okI y (T d 4) = true
      · obtain ⟨j, hj, rfl⟩ := okI_of (by omega) hy
        obtain ⟨s1, s2⟩ := sh_el (iT hi) hd h2 hj
        have hno : ¬ (nI (T d 0) ≠ 2 ∨ (nI j : Int32) < 0 ∨ A (60 + 2 * d) 4 ≤ nI j) := by
          show ¬ (nI (T d 0) ≠ 2 ∨ (nI j : Int32) < nI 0 ∨ A (60 + 2 * d) 4 ≤ nI j)
          rw [l2, ne_eq, e2, nI_ltI (by omega) (by omega), nI_leI (by omega) (by omega)]; omega
        have h100 : (nI j : Int32) < 100 := by
          show nI j < nI 100
          rw [nI_ltI (by omega) (by omega)]; omega
        rw [if_neg hno, if_pos h100, nI_nat (by omega), s1] at h901
        have hi1 := InvX_92 (v := c d j) hi
        obtain ⟨A1, hA1⟩ : ∃ z, z = yup A 92 0 (c d j) := ⟨_, rfl⟩
        rw [← hA1] at hi1 h901
        have f1 : ∀ p, p ≠ 92 → A1 p = A p := fun p hp => by rw [hA1]; exact yup_ne1 hp
        have sc1 : Sc A1 (yup A1 79 17 (nI 0)) := Sc_up (by unfold scr; omega) (fun _ => by omega)
        obtain ⟨-, -, m3, -, m5⟩ := iT hi1 d hd
        obtain ⟨-, -, q3, -, q5, -⟩ := sh_len (iT hi1) hd h2
        obtain ⟨-, q2⟩ := sh_el (iT hi1) hd h2 hj
        have hin : decide (¬ nI j < nI 0 ∧ ¬ nI (T d 4) - nI 1 < nI j) = true := by
          rw [isS_eq (by omega)]; exact hy
        refine ⟨nI 0, A1, (c d j).toInt64, yup A1 79 17 (nI 0), g, h901, ?_, ?_, fun _ => ?_, by omega, ⟨M, I, hI, T, c, InvX_Sc hi1 sc1⟩, ?_, ?_, f1 0 (by omega), f1 93 (by omega)⟩
        · rw [en_X12_element]
          have u1 : yup A1 79 17 (nI 0) 91 (100 * d + j) = c d j := by rw [yup_ne1 (by omega)]; exact q2
          simp (disch := omega) only [X12_isShelf_ok, okI_at hd, bI_t, yi_b, l_lit, n10, ↓reduceIte, ↓mR, ↓m8r, m3, h2, q3, X12_isIn_ok, hin, ↓mP, ↓mI, yup_eq, nI_mul, nI_add, ↓m91r, u1]
        · rw [th_ok, yup_eq]
        · rw [yup_ne1 (by omega), hA1, yup_eq]
        · rw [sc1.1 0 (by unfold scr; omega), f1 0 (by omega)]
        · rw [sc1.1 93 (by unfold scr; omega), f1 93 (by omega)]
      · have hy := okI_f hy
        have hyes : (nI (T d 0) ≠ 2 ∨ y < 0 ∨ A (60 + 2 * d) 4 ≤ y) := by
          rw [l2]
          rcases okI_no hy with h | ⟨-, h, -⟩
          · exact Or.inr (Or.inl (of_eq_true h))
          · exact Or.inr (Or.inr (of_eq_true h))
        rw [if_pos hyes] at h901
        refine el_fg hi (Or.inr rfl) h901 (fun A1 hi1 => ?_)
        obtain ⟨-, -, m3, -, m5⟩ := iT hi1 d hd
        obtain ⟨-, -, q3, -, q5, -⟩ := sh_len (iT hi1) hd h2
        have hin : decide (¬ y < nI 0 ∧ ¬ nI (T d 4) - nI 1 < y) = false := by
          rw [isS_eq (by omega)]; exact hy
        rw [en_X12_element]
        simp (disch := omega) only [X12_isShelf_ok, okI_at hd, bI_t, bI_f, yi_b, l_lit, n10, n20, ↓reduceIte, ↓mR, ↓m8r, m3, h2, q3, X12_isIn_ok, hin, ↓mP, ↓mI, yup_eq]
    · have hyes : (nI (T d 0) ≠ 2 ∨ y < 0 ∨ A (60 + 2 * d) 4 ≤ y) := Or.inl (by rw [ne_eq, e2]; exact h2)
      rw [if_pos hyes] at h901
      refine el_fg hi (Or.inr rfl) h901 (fun A1 hi1 => ?_)
      obtain ⟨-, -, m3, -, m5⟩ := iT hi1 d hd
      have e3 : (nI (T d 0) = nI 2) = False := eq_false (fun z => h2 ((nI_eq (by omega) (by omega)).mp z))
      rw [en_X12_element]
      simp (disch := omega) only [X12_isShelf_ok, okI_at hd, bI_t, bI_f, yi_b, l_lit, n10, n20, ↓reduceIte, ↓mR, ↓m8r, m3, e3, ↓mP, ↓mI, yup_eq]
  · have hx := okI_f hx
    have hx0 : (x < 0 ∨ 8 ≤ x) := by
      rcases okI_no hx with h | ⟨-, h, -⟩
      · exact Or.inl (of_eq_true h)
      · exact Or.inr (of_eq_true h)
    rw [if_pos hx0] at h901
    refine el_fg hi (Or.inl rfl) h901 (fun A1 hi1 => ?_)
    rw [en_X12_element]
    simp (disch := omega) only [X12_isShelf_ok, hx, bI_f, yi_b, l_lit, n10, ↓reduceIte, ↓mP, ↓mI, yup_eq]
end B15
