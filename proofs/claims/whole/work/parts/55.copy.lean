/-! rows copied */ -/
theorem ycpy_okg {A : yM} {a b na nb sp dp n : Nat} (ha : yln A a = some na) (hb : yln A b = some nb) (h1 : sp + n ≤ na) (h2 : dp + n ≤ nb) (hna : na < 1000) (hnb : nb < 1000) : ycpy [.ref a, .int (nI sp), .ref b, .int (nI dp), .int (nI n)] A = some (ycy A a sp b dp n) := by
  unfold ycpy
  dsimp only
  rw [ha, hb]
  dsimp only
  rw [nI_clamp (show sp < 2 ^ 31 by omega), nI_clamp (show dp < 2 ^ 31 by omega), nI_clamp (show n < 2 ^ 31 by omega), if_neg]
  intro h
  rcases h with h | h | h | h | h
  · exact nI_pos (by omega) h
  · exact nI_pos (by omega) h
  · exact nI_pos (by omega) h
  · omega
  · omega
section B6
variable {A : yM} {M I : Mt} {hI : Nat} {T : Nat → Nat → Nat} {c : Nat → Nat → Int32} {g : Nat} {n d : Nat}
theorem X7_hasPlaces_ok (hn : 1 ≤ n) (ht : Shf A T c) (hd : d < 8) (h : T d 0 = 2) (i k : Int32) : ycall n 56 [.ref (60 + 2 * d), .int i, .int k] A = some (some (.int (bI (decide (¬ k < nI 0 ∧ ¬ i < nI 0 ∧ ¬ nI (T d 4) - k < i)))), A) := by
  obtain ⟨n, rfl⟩ := Nat.exists_eq_add_of_le' hn
  obtain ⟨l1, l2, -⟩ := sh_len ht hd h
  simp (disch := omega) only [en_X7_hasPlaces, sh_I hd, l2, l_lit, true_or, or_true, if_true]
  by_cases h1 : k < nI 0
  · simp [h1, bI]
  · by_cases h2 : i < nI 0
    · simp [h1, h2, bI]
    · by_cases h3 : nI (T d 4) - k < i
      · simp [h1, h2, h3, bI]
      · simp [h1, h2, h3, bI]
theorem rcp (e k i j m : Nat) (hd : d < 8) (he : e < 8) (hi : i + m ≤ 100) (hj : j + m ≤ 100) (n : Nat) (B : yM) : ∃ A2, yb_X12_copy (ycall n) (122, [some (.ref 79), some (.int (nI d)), some (.int (nI i)), some (.int (nI e)), some (.int (nI j)), some (.int (nI m)), some (.int (nI 0)), none], [], B) = some (some (.int (nI m)), A2) ∧ (∀ p, p ≠ 91 → A2 p = B p) ∧ (∀ x, x < 800 → A2 91 x = if 100 * e + j ≤ x ∧ x < 100 * e + j + m then B 91 (100 * d + i + (x - (100 * e + j))) else B 91 x) := by
  have hfin : ∀ A2, yb_X12_copy (ycall n) (122, [some (.ref 79), some (.int (nI d)), some (.int (nI i)), some (.int (nI e)), some (.int (nI j)), some (.int (nI m)), some (.int (nI m)), none], [], A2) = some (some (.int (nI m)), A2) := fun A2 => by
    refine (bk_X12_copy_122 ..).trans ?_
    simp (disch := omega) only [l_lit, nI_leI, Nat.le_refl, if_true]
  by_cases hij : i ≤ j
  · obtain ⟨A2, e2, p1, p2⟩ := for_ex (fun k B => yb_X12_copy (ycall n) (122, [some (.ref 79), some (.int (nI d)), some (.int (nI i)), some (.int (nI e)), some (.int (nI j)), some (.int (nI m)), some (.int (nI k)), none], [], B)) (fun k A2 => (∀ p, p ≠ 91 → A2 p = B p) ∧ (∀ x, x < 800 → A2 91 x = if 100 * e + j + (m - k) ≤ x ∧ x < 100 * e + j + m then B 91 (100 * d + i + (x - (100 * e + j))) else B 91 x)) m B (fun k A2 hk hP => by
      obtain ⟨q1, q2⟩ := hP
      refine ⟨yup A2 91 (100 * e + j + (m - 1 - k)) (B 91 (100 * d + i + (m - 1 - k))), ?_, fun p hp => (yup_ne1 hp).trans (q1 p hp), fun x hx => ?_⟩
      · have e1 : A2 91 (100 * d + i + (m - 1 - k)) = B 91 (100 * d + i + (m - 1 - k)) := by
          rw [q2 _ (by omega), if_neg (by
            intro h
            by_cases hde : d = e
            · subst hde; omega
            · omega)]
        refine (bk_X12_copy_122 ..).trans ?_
        simp (disch := omega) only [l_lit, nI_leI, Nat.not_le.mpr hk, hij, if_true, if_false, mR, nI_sub, nI_mul, nI_add, m91r, m91w, e1]
      · by_cases hx2 : x = 100 * e + j + (m - 1 - k)
        · subst hx2
          rw [yup_eq, if_pos (by omega)]
          exact congrArg (B 91) (by omega)
        · rw [yup_ne2 hx2, q2 x hx]
          by_cases h3 : 100 * e + j + (m - k) ≤ x ∧ x < 100 * e + j + m
          · rw [if_pos h3, if_pos (by omega)]
          · rw [if_neg h3, if_neg (by omega)]) ⟨fun p _ => rfl, fun x hx => by rw [if_neg (by omega)]⟩
    refine ⟨A2, e2.trans (hfin A2), p1, fun x hx => ?_⟩
    rw [p2 x hx, Nat.sub_self, Nat.add_zero]
  · obtain ⟨A2, e2, p1, p2⟩ := for_ex (fun k B => yb_X12_copy (ycall n) (122, [some (.ref 79), some (.int (nI d)), some (.int (nI i)), some (.int (nI e)), some (.int (nI j)), some (.int (nI m)), some (.int (nI k)), none], [], B)) (fun k A2 => (∀ p, p ≠ 91 → A2 p = B p) ∧ (∀ x, x < 800 → A2 91 x = if 100 * e + j ≤ x ∧ x < 100 * e + j + k then B 91 (100 * d + i + (x - (100 * e + j))) else B 91 x)) m B (fun k A2 hk hP => by
      obtain ⟨q1, q2⟩ := hP
      refine ⟨yup A2 91 (100 * e + j + k) (B 91 (100 * d + i + k)), ?_, fun p hp => (yup_ne1 hp).trans (q1 p hp), fun x hx => ?_⟩
      · have e1 : A2 91 (100 * d + i + k) = B 91 (100 * d + i + k) := by
          rw [q2 _ (by omega), if_neg (by
            intro h
            by_cases hde : d = e
            · subst hde; omega
            · omega)]
        refine (bk_X12_copy_122 ..).trans ?_
        simp (disch := omega) only [l_lit, nI_leI, Nat.not_le.mpr hk, hij, if_false, mR, nI_mul, nI_add, m91r, m91w, e1]
      · by_cases hx2 : x = 100 * e + j + k
        · subst hx2
          rw [yup_eq, if_pos (by omega)]
          exact congrArg (B 91) (by omega)
        · rw [yup_ne2 hx2, q2 x hx]
          by_cases h3 : 100 * e + j ≤ x ∧ x < 100 * e + j + k
          · rw [if_pos h3, if_pos (by omega)]
          · rw [if_neg h3, if_neg (by omega)]) ⟨fun p _ => rfl, fun x hx => by rw [if_neg (by omega)]⟩
    exact ⟨A2, e2.trans (hfin A2), p1, p2⟩
end B6
