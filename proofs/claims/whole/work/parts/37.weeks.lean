section WK
variable {n b p e : Nat} {A : yM} {M : Mt}
/-- the SIZES of the first k grown in WEEK w -/
def szW (M : Mt) (w k e : Nat) : Nat := if e < k ∧ M 8 e = 0 ∧ M 3 (M 4 e) = 1 then min 99 (M 6 e + ripN (M 1 (M 4 e)) (M 2 (M 4 e)) w) else M 6 e
def wkP (M : Mt) (k : Nat) : Mt := fun a j => if a = 0 ∧ j = 2 then M 0 2 + 1 else if a = 6 then szW M (M 0 2 + 1) k j else M a j
def wkN (M : Mt) : Mt := wkP M (M 0 1)
def wsN (M : Mt) : Nat → Mt
  | 0 => M
  | n + 1 => wkN (wsN M n)
theorem wkP_S (M : Mt) (k : Nat) : wkP M k 0 0 = M 0 0 := rfl
theorem wkP_E (M : Mt) (k : Nat) : wkP M k 0 1 = M 0 1 := rfl
theorem wkP_W (M : Mt) (k : Nat) : wkP M k 0 2 = M 0 2 + 1 := rfl
theorem wkP_6 (M : Mt) (k e : Nat) : wkP M k 6 e = szW M (M 0 2 + 1) k e := rfl
theorem wkP_ne {M : Mt} {k a : Nat} (h0 : a ≠ 0) (h6 : a ≠ 6) : wkP M k a = M a := by
  funext j
  unfold wkP
  rw [if_neg (fun q => h0 q.1), if_neg h6]
theorem szW_lt {M : Mt} {w k e : Nat} (h : M 6 e < 100) : szW M w k e < 100 := by
  unfold szW
  split
  · have := Nat.min_le_left 99 (M 6 e + ripN (M 1 (M 4 e)) (M 2 (M 4 e)) w); omega
  · exact h
theorem wkP_good (hg : Good M) (k : Nat) (hw : M 0 2 + 1 < 5000) : Good (wkP M k) := by
  obtain ⟨g1, g2, g3, g4, g5⟩ := hg
  refine ⟨g1, g2, hw, fun p hp => ?_, fun e he => ?_⟩
  · rw [wkP_ne (by omega) (by omega), wkP_ne (by omega) (by omega), wkP_ne (by omega) (by omega)]
    exact g4 p hp
  · rw [wkP_ne (a := 4) (by omega) (by omega), wkP_ne (a := 5) (by omega) (by omega), wkP_ne (a := 7) (by omega) (by omega), wkP_ne (a := 8) (by omega) (by omega), wkP_6]
    have := g5 e he
    have := szW_lt (w := M 0 2 + 1) (k := k) this.2.2.1
    have q0 := wkP_S M k
    have q1 := wkP_E M k
    exact ⟨by omega, by omega, by omega, by omega, by omega⟩
theorem wsN_S (M : Mt) : ∀ k, wsN M k 0 0 = M 0 0 := by intro k; induction k with | zero => rfl | succ k ih => exact ih
theorem wsN_E (M : Mt) : ∀ k, wsN M k 0 1 = M 0 1 := by intro k; induction k with | zero => rfl | succ k ih => exact ih
theorem wsN_W (M : Mt) : ∀ k, wsN M k 0 2 = M 0 2 + k := by
  intro k
  induction k with
  | zero => rfl
  | succ k ih => show wsN M k 0 2 + 1 = _; rw [ih, Nat.add_assoc]
theorem wsN_ne {M : Mt} {a : Nat} (h0 : a ≠ 0) (h6 : a ≠ 6) : ∀ k, wsN M k a = M a := by
  intro k
  induction k with
  | zero => rfl
  | succ k ih => show wkP (wsN M k) (wsN M k 0 1) a = M a; rw [wkP_ne h0 h6, ih]
theorem wsN_good (hg : Good M) : ∀ k, M 0 2 + k < 5000 → Good (wsN M k) := by
  intro k
  induction k with
  | zero => intro _; exact hg
  | succ k ih => intro h; exact wkP_good (ih (by omega)) _ (by rw [wsN_W]; omega)
theorem wsN_add (M : Mt) (i : Nat) : ∀ k, wsN (wsN M i) k = wsN M (i + k) := by
  intro k
  induction k with
  | zero => rfl
  | succ k ih => show wkN (wsN (wsN M i) k) = wkN (wsN M (i + k)); rw [ih]
theorem wkP_0 {M : Mt} : wkP M 0 = mu M 0 2 (M 0 2 + 1) := by
  funext a j
  unfold wkP mu szW
  by_cases h : a = 0 ∧ j = 2
  · rw [if_pos h, if_pos h]
  · rw [if_neg h, if_neg h]
    by_cases h6 : a = 6
    · subst h6; simp
    · rw [if_neg h6]
theorem wkP_s {M : Mt} {k : Nat} : wkP M (k + 1) = if M 8 k = 0 ∧ M 3 (M 4 k) = 1 then mu (wkP M k) 6 k (min 99 (M 6 k + ripN (M 1 (M 4 k)) (M 2 (M 4 k)) (M 0 2 + 1))) else wkP M k := by
  funext a j
  by_cases h6 : a = 6
  · subst h6
    rw [wkP_6]
    by_cases hq : M 8 k = 0 ∧ M 3 (M 4 k) = 1
    · rw [if_pos hq]
      by_cases hj : j = k
      · subst hj
        rw [mu_eq]
        unfold szW
        rw [if_pos ⟨by omega, hq⟩]
      · rw [mu_ne2 hj, wkP_6]
        unfold szW
        by_cases hl : j < k
        · simp [hl, show j < k + 1 by omega]
        · simp [hl, show ¬ j < k + 1 by omega]
    · rw [if_neg hq, wkP_6]
      unfold szW
      by_cases hj : j = k
      · subst hj
        rw [if_neg (fun q => hq q.2), if_neg (fun q => hq q.2)]
      · by_cases hl : j < k
        · simp [hl, show j < k + 1 by omega]
        · simp [hl, show ¬ j < k + 1 by omega]
  · have e1 : wkP M (k + 1) a j = wkP M k a j := by unfold wkP; simp [h6]
    rw [e1]
    split
    · rw [mu_ne h6]
    · rfl
theorem Col_size (hc : Col A b M) {k v : Nat} (hk : k < M 0 1) : Col (yup A (b + 14) k (nI v)) b (mu M 6 k v) := by
  have hb := hc.1
  refine ⟨hb, ?_, ?_, ?_, ?_, ?_, fun p hp => ?_, fun e he => ?_⟩
  · simp (disch := omega) only [yup_ne, mu_ne, cS hc]
  · simp (disch := omega) only [yup_ne, mu_ne, cE hc]
  · simp (disch := omega) only [yup_ne, mu_ne, cWk hc]
  · simp (disch := omega) only [yup_ne, mu_ne, mu_ne1, cIn hc]
  · simp (disch := omega) only [yup_ne, mu_ne, mu_ne1, cCo hc]
  · simp (disch := omega) only [mu_ne] at hp
    simp (disch := omega) only [yup_ne, mu_ne, cKd hc, cFg hc, and_self]
  · simp (disch := omega) only [mu_ne] at he
    rw [citN_mu (M := M) (by simp (disch := omega) only [mu_ne]) (fun e _ => by simp (disch := omega) only [mu_ne])]
    by_cases hq : e = k
    · subst hq
      simp (disch := omega) only [yup_ne, yup_eq, mu_ne, mu_eq, cBy hc, cTp hc, cCt hc, cTc hc, and_self]
    · simp (disch := omega) only [yup_ne, yup_ne2, mu_ne, mu_ne2, cBy hc, cTp hc, cSz hc, cCt hc, cTc hc, and_self]
theorem Fr_up {a i : Nat} {v : Int32} (h : b ≤ a ∧ a < b + 19) : Fr b A (yup A a i v) := fun p hp => yup_ne1 (by omega)
theorem Col_week (hc : Col A b M) {v : Nat} : Col (yup A b 12 (nI v)) b (mu M 0 2 v) := by
  have hb := hc.1
  refine ⟨hb, ?_, ?_, ?_, ?_, ?_, fun p hp => ?_, fun e he => ?_⟩
  · simp (disch := omega) only [yup_ne2, mu_ne2, cS hc]
  · simp (disch := omega) only [yup_ne2, mu_ne2, cE hc]
  · simp (disch := omega) only [yup_eq, mu_eq]
  · simp (disch := omega) only [yup_ne2, mu_ne1, mu_ne2, cIn hc]
  · simp (disch := omega) only [yup_ne2, mu_ne1, mu_ne2, cCo hc]
  · simp (disch := omega) only [mu_ne2] at hp
    simp (disch := omega) only [yup_ne, mu_ne, cKd hc, cFg hc, and_self]
  · simp (disch := omega) only [mu_ne2] at he
    rw [citN_mu (M := M) (by simp (disch := omega) only [mu_ne2]) (fun e _ => by simp (disch := omega) only [mu_ne])]
    simp (disch := omega) only [yup_ne, mu_ne, cBy hc, cTp hc, cSz hc, cCt hc, cTc hc, and_self]
/-- one WEEK's errors, from k on -/
theorem pw_in (n : Nat) (hg : Good M) (hw : M 0 2 + 1 < 5000) {x i : Nat} : ∀ (j k : Nat) (A : yM), k + j = M 0 1 → Col A b (wkP M k) → ∃ A', yb_X0_passWeeks (ycall (n + 3)) (19, [some (.ref b), some (.int (nI x)), some (.int (nI i)), some (.int (nI k)), none], [], A) = yb_X0_passWeeks (ycall (n + 3)) (2, [some (.ref b), some (.int (nI x)), some (.int (nI (i + 1))), none, none], [], A') ∧ Col A' b (wkN M) ∧ Fr b A A' := by
  intro j
  induction j with
  | zero =>
    intro k A hk hc
    have hkE : k = M 0 1 := by omega
    subst hkE
    have hE := gE hg
    refine ⟨A, ?_, hc, Fr_r b A⟩
    refine (bk_X0_passWeeks_19 ..).trans ?_
    simp (disch := omega) only [cgI hc.1, cE hc, wkP_E, l_lit, nI_add, nI_mul, yi_b, yv_b, yl_b, if_true, if_false, or_true, true_or, or_false, false_or, and_true, true_and, and_false, false_and, not_true_eq_false, not_false_eq_true, Nat.reduceEqDiff, ↓reduceIte, nI_eq, nI_leI, nI_ltI, Nat.le_refl]
  | succ j ih =>
    intro k A hk hc
    have hkE : k < M 0 1 := by omega
    have hE := gE hg
    have hb := hc.1
    have hg' := wkP_good hg k hw
    have h1 := gEr hg hkE
    have h2 := gP hg h1.1
    have e4 : wkP M k 4 = M 4 := wkP_ne (by omega) (by omega)
    have e1 : wkP M k 1 = M 1 := wkP_ne (by omega) (by omega)
    have e2 : wkP M k 2 = M 2 := wkP_ne (by omega) (by omega)
    have e3 : wkP M k 3 = M 3 := wkP_ne (by omega) (by omega)
    have e8 : wkP M k 8 = M 8 := wkP_ne (by omega) (by omega)
    have hS := gS hg
    have r := X0_ripensAtAll_ok (n := n + 3) (by omega) hc hg' (e := k) hkE
    have hby : A (b + 12) k = nI (M 4 k) := by rw [cBy hc hkE, e4]
    have hkd : A (b + 10) (M 4 k) = nI (M 1 (M 4 k)) := by rw [cKd hc h1.1, e1]
    have hfg : A (b + 11) (M 4 k) = nI (M 2 (M 4 k)) := by rw [cFg hc h1.1, e2]
    have hsz : A (b + 14) k = nI (M 6 k) := by rw [cSz hc hkE, wkP_6]; unfold szW; rw [if_neg (by omega)]
    have hwk : A b 12 = nI (M 0 2 + 1) := cWk hc
    rw [e8, e3, e4] at r
    have hkk : ycl A (b + 2 + M 1 (M 4 k)) = some (kcl (M 1 (M 4 k))) := ycl_k hb h2.1
    by_cases hq : M 8 k = 0 ∧ M 3 (M 4 k) = 1
    · rw [if_pos hq] at r
      have hcN : Col (yup A (b + 14) k (nI (min 99 (M 6 k + ripN (M 1 (M 4 k)) (M 2 (M 4 k)) (M 0 2 + 1))))) b (wkP M (k + 1)) := by
        rw [wkP_s, if_pos hq]
        exact Col_size hc hkE
      obtain ⟨A', g1, g2, g3⟩ := ih (k + 1) _ (by omega) hcN
      refine ⟨A', ?_, g2, Fr_t (Fr_up (by omega)) g3⟩
      rw [← g1]
      refine (bk_X0_passWeeks_19 ..).trans ?_
      have hrp : ripN (M 1 (M 4 k)) (M 2 (M 4 k)) (M 0 2 + 1) ≤ 10 := by unfold ripN; split <;> omega
      simp (disch := omega) only [cgI hb, cE hc, wkP_E, cR hb, cD12 hb, cD6 hb, cW12 hb, cV hb, cK hb, hby, hkd, hfg, hsz, hwk, r, kv_ripens _ hkk, l_lit, nI_add, nI_mul, yi_b, yv_b, yl_b, if_true, if_false, or_true, true_or, or_false, false_or, and_true, true_and, and_false, false_and, not_true_eq_false, not_false_eq_true, Nat.reduceEqDiff, ↓reduceIte, nI_eq, nI_leI, Nat.not_le.mpr hkE, Nat.one_ne_zero, nI_min]
    · rw [if_neg hq] at r
      have hcN : Col A b (wkP M (k + 1)) := by
        rw [wkP_s, if_neg hq]
        exact hc
      obtain ⟨A', g1, g2, g3⟩ := ih (k + 1) _ (by omega) hcN
      refine ⟨A', ?_, g2, g3⟩
      rw [← g1]
      refine (bk_X0_passWeeks_19 ..).trans ?_
      simp (disch := omega) only [cgI hb, cE hc, wkP_E, cR hb, cD12 hb, cV hb, hby, r, l_lit, nI_add, nI_mul, yi_b, yv_b, yl_b, if_true, if_false, or_true, true_or, or_false, false_or, and_true, true_and, and_false, false_and, not_true_eq_false, not_false_eq_true, Nat.reduceEqDiff, ↓reduceIte, nI_eq, nI_leI, nI_ltI, Nat.not_le.mpr hkE]
theorem pw_out (n : Nat) {x : Nat} (hx : x < 1000) : ∀ (j i : Nat) (A : yM) (M : Mt), i + j = x → Good M → M 0 2 + j < 5000 → Col A b M → ∃ A', yb_X0_passWeeks (ycall (n + 3)) (2, [some (.ref b), some (.int (nI x)), some (.int (nI i)), none, none], [], A) = some (none, A') ∧ Col A' b (wsN M j) ∧ Fr b A A' := by
  intro j
  induction j with
  | zero =>
    intro i A M hi hg hw hc
    have : i = x := by omega
    subst this
    refine ⟨A, ?_, hc, Fr_r b A⟩
    refine (bk_X0_passWeeks_2 ..).trans ?_
    simp (disch := omega) only [l_lit, nI_add, nI_mul, yi_b, yv_b, yl_b, if_true, if_false, or_true, true_or, or_false, false_or, and_true, true_and, and_false, false_and, not_true_eq_false, not_false_eq_true, Nat.reduceEqDiff, ↓reduceIte, nI_eq, nI_leI, nI_ltI, Nat.le_refl]
  | succ j ih =>
    intro i A M hi hg hw hc
    have hb := hc.1
    have hc1 : Col (yup A b 12 (nI (M 0 2 + 1))) b (wkP M 0) := by rw [wkP_0]; exact Col_week hc
    obtain ⟨A1, g1, g2, g3⟩ := pw_in n hg (by omega) (x := x) (i := i) (M 0 1) 0 _ (by omega) hc1
    obtain ⟨A2, f1, f2, f3⟩ := ih (i + 1) A1 (wkN M) (by omega) (wkP_good hg _ (by omega)) (by show M 0 2 + 1 + j < 5000; omega) g2
    refine ⟨A2, ?_, ?_, Fr_t (Fr_t (Fr_up (by omega)) g3) f3⟩
    · refine (bk_X0_passWeeks_2 ..).trans ?_
      simp (disch := omega) only [l_lit, nI_add, nI_mul, yi_b, yv_b, yl_b, if_true, if_false, or_true, true_or, or_false, false_or, and_true, true_and, and_false, false_and, not_true_eq_false, not_false_eq_true, Nat.reduceEqDiff, ↓reduceIte, nI_eq, nI_leI, nI_ltI, Nat.not_le.mpr (show i < x by omega), cgI hb, cpI hb, cWk hc]
      rw [g1, f1]
    · have := wsN_add M 1 j
      rw [Nat.add_comm 1 j] at this
      rw [← this]
      exact f2
theorem X0_passWeeks_ok (hn : 4 ≤ n) (hc : Col A b M) (hg : Good M) {x : Nat} (hx : x < 1000) (hw : M 0 2 + x < 5000) : ∃ A', ycall n 10 [.ref b, .int (nI x)] A = some (none, A') ∧ Col A' b (wsN M x) ∧ Fr b A A' := by
  obtain ⟨n, rfl⟩ := Nat.exists_eq_add_of_le' hn
  rw [en_X0_passWeeks]
  exact pw_out n hx x 0 A M (by omega) hg hw hc
theorem X0_become_ok (hn : 1 ≤ n) {d : Nat} (hc : Col A b M) (hd : isB d) (hbd : b ≠ d) (hg : Good M) : ∃ A', ycall n 0 [.ref d, .ref b] A = some (none, A') ∧ Col A' d M ∧ Fr d A A' := by
  obtain ⟨n, rfl⟩ := Nat.exists_eq_add_of_le' hn
  have hb := hc.1
  have hap := isB_apart hb hd hbd
  have hS := gS hg
  have hE := gE hg
  have h := en_X0_become n A d b
  simp (disch := omega) only [l_lit, nI_add, nI_mul, yi_b, yv_b, yl_b, if_true, if_false, or_true, true_or, or_false, false_or, and_true, true_and, and_false, false_and, not_true_eq_false, not_false_eq_true, Nat.reduceEqDiff, ↓reduceIte, cgI hb, cgI hd, cpI hd, cR hb, cR hd, yup_ne, yup_ne2, ycpy_ok (yln6 hb _) (yln6 hd _), ycpy_ok (yln12 hb _) (yln12 hd _), Option.bind_some, cS hc, cE hc, cWk hc, cIn hc, cCo hc] at h
  refine ⟨_, h, ⟨hd, ?_, ?_, ?_, ?_, ?_, fun p hp => ?_, fun e he => ?_⟩, fun p hp => ?_⟩
  · simp (disch := omega) only [ycy_ne, yup_ne2, yup_eq]
  · simp (disch := omega) only [ycy_ne, yup_ne2, yup_eq]
  · simp (disch := omega) only [ycy_ne, yup_ne2, yup_eq]
  · simp (disch := omega) only [ycy_ne, yup_ne2, yup_eq]
  · simp (disch := omega) only [ycy_ne, yup_ne2, yup_eq]
  · simp (disch := omega) only [ycy_ne, ycy_in, yup_ne, cKd hc, cFg hc, and_self]
  · simp (disch := omega) only [ycy_ne, ycy_in, yup_ne, cBy hc, cTp hc, cSz hc, cCt hc, cTc hc, and_self]
  · simp (disch := omega) only [ycy_ne1, yup_ne1]
end WK
