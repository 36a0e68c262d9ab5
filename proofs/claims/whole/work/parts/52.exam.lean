/-! examiners -/
theorem for_ex {α σ : Type} (X : Nat → σ → α) (P : Nat → σ → Prop) : ∀ (N : Nat) (A : σ), (∀ k A, k < N → P k A → ∃ A', X k A = X (k + 1) A' ∧ P (k + 1) A') → P 0 A → ∃ A', X 0 A = X N A' ∧ P N A' := by
  intro N
  induction N with
  | zero => intro A _ h0; exact ⟨A, rfl, h0⟩
  | succ N ih =>
    intro A h h0
    obtain ⟨A1, e1, p1⟩ := ih A (fun k A hk => h k A (by omega)) h0
    obtain ⟨A2, e2, p2⟩ := h N A1 (by omega) p1
    exact ⟨A2, e1.trans e2, p2⟩
def okm (M : Mt) (e s c : Nat) : Bool := decide (M 3 s = 1 ∧ c / 2 ^ s % 2 = 0 ∧ M 4 e ≠ s ∧ M 8 e = 0)
def exN (M : Mt) : Nat → Nat → Nat
  | 0, _ => 0
  | j + 1, c => fo (fun s m => if okm M (M 0 1 - (j + 1)) s c = true then max m (1 + exN M j (c ||| 2 ^ s)) else m) (exN M j c) (M 0 0)
theorem exN_le (M : Mt) : ∀ (j c : Nat), exN M j c ≤ j := by
  intro j
  induction j with
  | zero => intro c; exact Nat.le_refl 0
  | succ j ih =>
    intro c
    refine fo_inv (fun m => m ≤ j + 1) (by have := ih c; omega) (fun s m _ hm => ?_)
    have := ih (c ||| 2 ^ s)
    split <;> omega
theorem pow6 {S : Nat} (h : S ≤ 6) : 2 ^ S ≤ 64 := Nat.pow_le_pow_right (by omega) h
theorem or_lt {c s S : Nat} (hc : c < 2 ^ S) (hs : s < S) : c ||| 2 ^ s < 2 ^ S := Nat.or_lt_two_pow hc (Nat.pow_lt_pow_right (by omega) hs)
theorem cnt_d (a b : Nat) : nI a - nI b + -nI 1 = nI a - nI (b + 1) := by
  rw [← nI_add b 1, ← Int32.sub_eq_add_neg, Int32.sub_sub]
def T78 (p : Nat) (A : yM) (M : Mt) (C e0 : Nat) : Prop := ∀ e, e0 ≤ e → e ≤ M 0 1 → ∀ c, c < C → A p (64 * e + c) = nI (exN M (M 0 1 - e) c)
section B3
variable {A : yM} {M I : Mt} {hI : Nat} {T : Nat → Nat → Nat} {c : Nat → Nat → Int32} {g : Nat} {n q s e cc : Nat}
theorem r78 {A : yM} {k : Nat} {K : Int32 → Option yR} (h : k < 832) : yrd A 78 (nI k) K = K (A 78 k) := yrd_at (n := 832) rfl (by omega) h
theorem w78 {A : yM} {k : Nat} {v : Int32} {K : yM → Option yR} (h : k < 832) : ywr A 78 (nI k) v K = K (yup A 78 k v) := ywr_at (n := 832) rfl (by omega) h
theorem r85 {A : yM} {k : Nat} {K : Int32 → Option yR} (h : k < 832) : yrd A 85 (nI k) K = K (A 85 k) := yrd_at (n := 832) rfl (by omega) h
theorem w85 {A : yM} {k : Nat} {v : Int32} {K : yM → Option yR} (h : k < 832) : ywr A 85 (nI k) v K = K (yup A 85 k v) := ywr_at (n := 832) rfl (by omega) h
theorem X11_mayMark_ok (hn : 2 ≤ n) (hc : Col A 2 M) (hg : Good M) (hs : s < M 0 0) (he : e < M 0 1) (hcc : cc < 64) : ycall n 108 [.ref 1, .int (nI s), .int (nI e), .int (nI cc)] A = some (some (.int (bI (okm M e s cc))), A) := by
  obtain ⟨n, rfl⟩ := Nat.exists_eq_add_of_le' hn
  have hS := gS hg
  have hE := gE hg
  have h3 := gP hg hs
  have h4 := gEr hg he
  have h31 : M 3 s = 0 ∨ M 3 s = 1 := by omega
  have h81 : M 8 e = 0 ∨ M 8 e = 1 := by omega
  have hb2 : cc / 2 ^ s % 2 = 0 ∨ cc / 2 ^ s % 2 = 1 := by omega
  rw [en_X11_mayMark]
  simp (disch := omega) only [xR, cR hc.1, cV hc.1, X0_isIn_ok _ hc hg hs, X0_isCorrected_ok _ hc hg he, cD12 hc.1, cBy hc, l_lit, yi_b, nI_bit, nI_eq, true_or, or_true, if_true]
  unfold okm
  rcases h31 with h31 | h31
  · simp [h31, bI]
  · rcases hb2 with hb2 | hb2
    · by_cases h5 : M 4 e = s
      · simp [h31, hb2, h5, bI]
      · rcases h81 with h81 | h81 <;> simp [h31, hb2, h5, h81, bI]
    · simp [h31, hb2, bI]
theorem X12_canMark_ok (hn : 3 ≤ n) (hr : Row A 80 M) (hg : Good M) (hs : s < M 0 0) (he : e < M 0 1) (hcc : cc < 64) : ycall n 208 [.ref 79, .int (nI e), .int (nI s), .int (nI cc)] A = some (some (.int (bI (okm M e s cc))), A) := by
  obtain ⟨n, rfl⟩ := Nat.exists_eq_add_of_le' hn
  have hS := gS hg
  have hE := gE hg
  have h3 := gP hg hs
  have h4 := gEr hg he
  have h31 : M 3 s = 0 ∨ M 3 s = 1 := by omega
  have h81 : M 8 e = 0 ∨ M 8 e = 1 := by omega
  have hb2 : cc / 2 ^ s % 2 = 0 ∨ cc / 2 ^ s % 2 = 1 := by omega
  rw [en_X12_canMark]
  have hh : ycall (n + 2) 147 [.int (nI cc), .int (nI s)] A = some (some (.int (nI (cc / 2 ^ s % 2))), A) := by
    rw [en_X12_has]
    simp (disch := omega) only [l_lit, nI_bit, nI_eq, true_or, or_true, if_true]
    rcases hb2 with hb2 | hb2 <;> simp [hb2]
  simp (disch := omega) only [mR, mV, qD hr.1, rS hr, rE hr, rW hr, rKd hr, rFg hr, rIn hr, rBy hr, rTp hr, rSz hr, rCt hr, rCo hr, en_X12_ofS, en_X12_ofE, hh, X12_isThere_ok _ hr hg hs, l_lit, yi_b, nI_add, nI_mul, nI_eq, true_or, or_true, if_true]
  unfold okm
  rcases hb2 with hb2 | hb2
  · rcases h31 with h31 | h31
    · simp [h31, hb2, bI]
    · rcases h81 with h81 | h81
      · by_cases h5 : M 4 e = s <;> simp [h31, hb2, h5, h81, bI]
      · simp [h31, hb2, h81, bI]
  · simp [hb2, bI]
theorem exN_s (M : Mt) (j c : Nat) : exN M (j + 1) c = fo (fun s m => if okm M (M 0 1 - (j + 1)) s c = true then max m (1 + exN M j (c ||| 2 ^ s)) else m) (exN M j c) (M 0 0) := rfl
theorem X11_mostMarkable_ok (hn : 3 ≤ n) (hc : Col A 2 M) (hg : Good M) (he : e < M 0 1) (hcc : cc < 2 ^ M 0 0) (hT : T78 78 A M (2 ^ M 0 0) (e + 1)) : ycall n 107 [.ref 1, .int (nI e), .int (nI cc)] A = some (some (.int (nI (exN M (M 0 1 - e) cc))), A) := by
  obtain ⟨n, rfl⟩ := Nat.exists_eq_add_of_le' hn
  have hS := gS hg
  have hE := gE hg
  have h64 := pow6 hS
  obtain ⟨j, hj⟩ : ∃ j, M 0 1 - e = j + 1 := ⟨M 0 1 - e - 1, by omega⟩
  have hj2 : M 0 1 - (e + 1) = j := by omega
  have hj3 : M 0 1 - (j + 1) = e := by omega
  have hTj : ∀ c, c < 2 ^ M 0 0 → A 78 (64 * (e + 1) + c) = nI (exN M j c) := fun c hc => by
    rw [← hj2]
    exact hT (e + 1) (by omega) (by omega) c hc
  rw [hj, exN_s, hj3, en_X11_mostMarkable]
  simp (disch := omega) only [xR, l_lit, nI_add, nI_mul, Nat.mul_comm _ 64, r78, hTj _ hcc]
  refine (for_up (fun k => yb_X11_mostMarkable (ycall (n + 2)) (17, [some (.ref 1), some (.int (nI e)), some (.int (nI cc)), some (.int (nI (fo (fun s m => if okm M e s cc = true then max m (1 + exN M j (cc ||| 2 ^ s)) else m) (exN M j cc) k))), some (.int (nI k))], [], A)) (M 0 0) (fun k hk => ?_)).trans ?_
  · have h6 : fo (fun s m => if okm M e s cc = true then max m (1 + exN M j (cc ||| 2 ^ s)) else m) (exN M j cc) (k + 1) = if okm M e k cc = true then max (fo (fun s m => if okm M e s cc = true then max m (1 + exN M j (cc ||| 2 ^ s)) else m) (exN M j cc) k) (1 + exN M j (cc ||| 2 ^ k)) else fo (fun s m => if okm M e s cc = true then max m (1 + exN M j (cc ||| 2 ^ s)) else m) (exN M j cc) k := rfl
    have h7 : fo (fun s m => if okm M e s cc = true then max m (1 + exN M j (cc ||| 2 ^ s)) else m) (exN M j cc) k ≤ j + 1 := fo_inv (fun m => m ≤ j + 1) (by have := exN_le M j cc; omega) (fun s m _ hm => by
      have := exN_le M j (cc ||| 2 ^ s)
      split <;> omega)
    generalize fo (fun s m => if okm M e s cc = true then max m (1 + exN M j (cc ||| 2 ^ s)) else m) (exN M j cc) k = m at h6 h7
    have h8 := or_lt hcc hk
    have h9 := exN_le M j (cc ||| 2 ^ k)
    have h10 := hTj _ h8
    refine (bk_X11_mostMarkable_17 ..).trans ?_
    obtain ⟨d, hd⟩ : ∃ d, cc ||| 2 ^ k = d := ⟨_, rfl⟩
    rw [hd] at h8 h9 h10
    rw [h6, hd]
    cases ho : okm M e k cc with
    | false => simp (disch := omega) only [xR, cgI hc.1, cS hc, l_lit, nI_leI, Nat.not_le.mpr hk, X11_mayMark_ok _ hc hg hk he, xV, ho, bI_f, yi_b, nI_add, if_true, if_false, Bool.false_eq_true]
    | true =>
      have hor : nI cc ||| nI (2 ^ k) = nI d := by rw [nI_or, hd]
      simp (disch := omega) only [xR, cgI hc.1, cS hc, l_lit, nI_leI, Nat.not_le.mpr hk, X11_mayMark_ok _ hc hg hk he, xV, ho, bI_t, yi_b, nI_add, nI_eq, Nat.one_ne_zero, if_true, if_false, nI_bitat, hor, nI_mul, Nat.mul_comm _ 64, r78, h10, nI_max]
  · refine (bk_X11_mostMarkable_17 ..).trans ?_
    simp (disch := omega) only [xR, cgI hc.1, cS hc, l_lit, nI_leI, Nat.le_refl, if_true]
theorem T78_up {A : yM} {p C e0 e c : Nat} {M : Mt} (hT : T78 p A M C e0) (hc : c < C) (hC : C ≤ 64) (v : Int32) (he : e < e0) : T78 p (yup A p (64 * e + c) v) M C e0 := by
  intro e' h1 h2 c' h3
  rw [yup_ne2 (by omega)]
  exact hT e' h1 h2 c' h3
theorem X11_tellMarkable_ok (hn : 4 ≤ n) (hc : Col A 2 M) (hg : Good M) : ∃ A', ycall n 106 [.ref 1] A = some (none, A') ∧ Fq 78 A A' ∧ T78 78 A' M (2 ^ M 0 0) 0 := by
  obtain ⟨n, rfl⟩ := Nat.exists_eq_add_of_le' hn
  have hS := gS hg
  have hE := gE hg
  have h64 := pow6 hS
  have hCF : ∀ {A'}, Fq 78 A A' → Col A' 2 M := fun h => Col_fr hc (fun p hp => h p (by omega))
  have w0 : 0 < 2 ^ M 0 0 := Nat.two_pow_pos _
  rw [en_X11_tellMarkable]
  simp (disch := omega) only [xR, cgI hc.1, cS hc, l_lit, nI_bitat]
  obtain ⟨A1, e1, f1, t1⟩ := for_ex (fun k A => yb_X11_tellMarkable (ycall (n + 3)) (12, [some (.ref 1), some (.int (nI (2 ^ M 0 0))), some (.int (nI k)), none], [], A)) (fun k A' => Fq 78 A A' ∧ ∀ c, c < k → A' 78 (64 * M 0 1 + c) = nI 0) (2 ^ M 0 0) A (fun k A' hk hP => by
    have hc' := hCF hP.1
    refine ⟨yup A' 78 (64 * M 0 1 + k) (nI 0), ?_, Fq_t hP.1 Fq_up, fun c hc => ?_⟩
    · refine (bk_X11_tellMarkable_12 ..).trans ?_
      simp (disch := omega) only [xR, cgI hc'.1, cE hc', l_lit, nI_leI, Nat.not_le.mpr hk, if_false, nI_add, nI_mul, Nat.mul_comm _ 64, w78]
    · by_cases hck : c = k
      · subst hck; exact yup_eq
      · rw [yup_ne2 (by omega)]; exact hP.2 c (by omega)) ⟨Fq_r 78 A, fun c hc => by omega⟩
  rw [e1]
  have hc1 := hCF f1
  have T1 : T78 78 A1 M (2 ^ M 0 0) (M 0 1) := fun e h1 h2 c h3 => by
    have : e = M 0 1 := by omega
    subst this
    rw [t1 c h3, Nat.sub_self]
    rfl
  have e2 : yb_X11_tellMarkable (ycall (n + 3)) (12, [some (.ref 1), some (.int (nI (2 ^ M 0 0))), some (.int (nI (2 ^ M 0 0))), none], [], A1) = yb_X11_tellMarkable (ycall (n + 3)) (51, [some (.ref 1), some (.int (nI (2 ^ M 0 0))), some (.int (nI (M 0 1) - nI 1)), none], [], A1) := by
    refine (bk_X11_tellMarkable_12 ..).trans ?_
    simp (disch := omega) only [xR, cgI hc1.1, cE hc1, l_lit, nI_leI, Nat.le_refl, if_true]
  rw [e2]
  obtain ⟨A2, e3, f2, t2⟩ := for_ex (fun i A => yb_X11_tellMarkable (ycall (n + 3)) (51, [some (.ref 1), some (.int (nI (2 ^ M 0 0))), some (.int (nI (M 0 1) - nI (i + 1))), none], [], A)) (fun i A' => Fq 78 A1 A' ∧ T78 78 A' M (2 ^ M 0 0) (M 0 1 - i)) (M 0 1) A1 (fun i B hi hP => by
    obtain ⟨fB, tB⟩ := hP
    have hv : nI (M 0 1) - nI (i + 1) = nI (M 0 1 - 1 - i) := by
      rw [nI_sub (by omega)]
      exact congrArg nI (by omega)
    have hcn := cnt_d (M 0 1) (i + 1)
    have he : M 0 1 - 1 - i < M 0 1 := by omega
    have he1 : M 0 1 - 1 - i + 1 = M 0 1 - i := by omega
    obtain ⟨B1, g1, g2, g3, g4⟩ := for_ex (fun k A => yb_X11_tellMarkable (ycall (n + 3)) (57, [some (.ref 1), some (.int (nI (2 ^ M 0 0))), some (.int (nI (M 0 1 - 1 - i))), some (.int (nI k))], [], A)) (fun k A' => Fq 78 B A' ∧ T78 78 A' M (2 ^ M 0 0) (M 0 1 - i) ∧ ∀ c, c < k → A' 78 (64 * (M 0 1 - 1 - i) + c) = nI (exN M (M 0 1 - (M 0 1 - 1 - i)) c)) (2 ^ M 0 0) B (fun k B2 hk hP => by
      obtain ⟨p1, p2, p3⟩ := hP
      have hc' := hCF (Fq_t f1 (Fq_t fB p1))
      refine ⟨yup B2 78 (64 * (M 0 1 - 1 - i) + k) (nI (exN M (M 0 1 - (M 0 1 - 1 - i)) k)), ?_, Fq_t p1 Fq_up, T78_up p2 hk h64 _ (by omega), fun c hc => ?_⟩
      · refine (bk_X11_tellMarkable_57 ..).trans ?_
        simp (disch := omega) only [xR, xV, X11_mostMarkable_ok (M := M) _ hc' hg he hk (by rw [he1]; exact p2), yi_b, l_lit, nI_leI, Nat.not_le.mpr hk, if_false, nI_add, nI_mul, Nat.mul_comm _ 64, w78]
      · by_cases hck : c = k
        · subst hck; exact yup_eq
        · rw [yup_ne2 (by omega)]; exact p3 c (by omega)) ⟨Fq_r 78 B, tB, fun c hc => by omega⟩
    refine ⟨B1, ?_, Fq_t fB g2, fun e h1 h2 c h3 => ?_⟩
    · refine (bk_X11_tellMarkable_51 ..).trans ?_
      rw [hv]
      simp (disch := omega) only [l_lit, nI_ltI, Nat.not_lt_zero, if_false]
      refine g1.trans ?_
      refine (bk_X11_tellMarkable_57 ..).trans ?_
      rw [← hv]
      simp (disch := omega) only [l_lit, nI_leI, Nat.le_refl, if_true, hcn]
    · by_cases h4 : e = M 0 1 - 1 - i
      · rw [h4]; exact g4 c h3
      · exact g3 e (by omega) h2 c h3) ⟨Fq_r 78 A1, T1⟩
  refine ⟨A2, e3.trans ?_, Fq_t f1 f2, by rw [Nat.sub_self] at t2; exact t2⟩
  have hneg : nI (M 0 1) - nI (M 0 1 + 1) < 0 := pk_sneg (by omega) (by omega)
  refine (bk_X11_tellMarkable_51 ..).trans ?_
  rw [if_pos hneg]
def exE (M : Mt) (e c : Nat) : Option Nat := fst (fun s => okm M e s c && decide (1 + exN M (M 0 1 - (e + 1)) (c ||| 2 ^ s) = exN M (M 0 1 - e) c)) (M 0 0)
theorem X11_firstExaminer_ok (hn : 3 ≤ n) (hc : Col A 2 M) (hg : Good M) (he : e < M 0 1) (hcc : cc < 2 ^ M 0 0) (hT : T78 78 A M (2 ^ M 0 0) 0) : ycall n 110 [.ref 1, .int (nI e), .int (nI cc)] A = some (some (.int (ocd (exE M e cc))), A) := by
  obtain ⟨n, rfl⟩ := Nat.exists_eq_add_of_le' hn
  have hS := gS hg
  have hE := gE hg
  have h64 := pow6 hS
  rw [en_X11_firstExaminer]
  have h0 := hT e (by omega) (by omega) cc hcc
  have b0 := exN_le M (M 0 1 - e) cc
  simp (disch := omega) only [xR, l_lit, nI_add, nI_mul, Nat.mul_comm _ 64, r78, h0]
  refine (for_ret (fun k => yb_X11_firstExaminer (ycall (n + 2)) (15, [some (.ref 1), some (.int (nI e)), some (.int (nI cc)), some (.int (nI (exN M (M 0 1 - e) cc))), some (.int (nI k))], [], A)) (fun k => some (some (.int (nI k)), A)) (fun s => okm M e s cc && decide (1 + exN M (M 0 1 - (e + 1)) (cc ||| 2 ^ s) = exN M (M 0 1 - e) cc)) (M 0 0) (fun k hk => ?_)).trans ?_
  · have h8 := or_lt hcc hk
    have h9 := exN_le M (M 0 1 - (e + 1)) (cc ||| 2 ^ k)
    have h10 := hT (e + 1) (by omega) (by omega) _ h8
    obtain ⟨d, hd⟩ : ∃ d, cc ||| 2 ^ k = d := ⟨_, rfl⟩
    rw [hd] at h8 h9 h10
    have hor : nI cc ||| nI (2 ^ k) = nI d := by rw [nI_or, hd]
    refine (bk_X11_firstExaminer_15 ..).trans ?_
    rw [hd]
    cases ho : okm M e k cc with
    | false => simp (disch := omega) only [xR, cgI hc.1, cS hc, l_lit, nI_leI, Nat.not_le.mpr hk, X11_mayMark_ok _ hc hg hk he, xV, ho, bI_f, yi_b, nI_add, if_true, if_false, Bool.false_eq_true, Bool.false_and]
    | true => simp (disch := omega) only [xR, cgI hc.1, cS hc, l_lit, nI_leI, Nat.not_le.mpr hk, X11_mayMark_ok _ hc hg hk he, xV, ho, bI_t, yi_b, nI_add, nI_eq, Nat.one_ne_zero, if_false, nI_bitat, hor, nI_mul, Nat.mul_comm _ 64, r78, h10, Bool.true_and, decide_eq_true_eq]
  · show _ = (some (some (Value.int (ocd (exE M e cc))), A) : Option yR)
    cases hf : exE M e cc with
    | some i =>
      unfold exE at hf
      rw [hf]
      rfl
    | none =>
      unfold exE at hf
      rw [hf]
      refine (bk_X11_firstExaminer_15 ..).trans ?_
      simp (disch := omega) only [xR, cgI hc.1, cS hc, l_lit, nI_leI, Nat.le_refl, if_true]
      rfl
def exC (M : Mt) : Nat → Nat
  | 0 => 0
  | k + 1 => match exE M k (exC M k) with
    | none => exC M k
    | some s => exC M k ||| 2 ^ s
theorem exC_lt (M : Mt) : ∀ k, exC M k < 2 ^ M 0 0 := by
  intro k
  induction k with
  | zero => exact Nat.two_pow_pos _
  | succ k ih =>
    show (match exE M k (exC M k) with | none => exC M k | some s => exC M k ||| 2 ^ s) < 2 ^ M 0 0
    cases hx : exE M k (exC M k) with
    | none => exact ih
    | some s => exact or_lt ih (fst_some hx).1
def exP (M : Mt) : Nat → Int32
  | 0 => -nI 4
  | k + 1 => ocd (exE M k (exC M k))
theorem X11_examinerOf_ok (hn : 4 ≤ n) (hc : Col A 2 M) (hg : Good M) (he : e < M 0 1) (hT : T78 78 A M (2 ^ M 0 0) 0) : ycall n 109 [.ref 1, .int (nI e)] A = some (some (.int (ocd (exE M e (exC M e)))), A) := by
  obtain ⟨n, rfl⟩ := Nat.exists_eq_add_of_le' hn
  have hS := gS hg
  have hE := gE hg
  rw [en_X11_examinerOf]
  refine (for_up (fun k => yb_X11_examinerOf (ycall (n + 3)) (8, [some (.ref 1), some (.int (nI e)), some (.int (nI (exC M k))), some (.int (exP M k)), some (.int (nI k))], [], A)) (e + 1) (fun k hk => ?_)).trans ?_
  · have h1 := X11_firstExaminer_ok (n := n + 3) (by omega) hc hg (show k < M 0 1 by omega) (exC_lt M k) hT
    refine (bk_X11_examinerOf_8 ..).trans ?_
    show _ = yb_X11_examinerOf (ycall (n + 3)) (8, [some (.ref 1), some (.int (nI e)), some (.int (nI (match exE M k (exC M k) with | none => exC M k | some s => exC M k ||| 2 ^ s))), some (.int (ocd (exE M k (exC M k)))), some (.int (nI (k + 1)))], [], A)
    cases hx : exE M k (exC M k) with
    | none =>
      rw [hx] at h1
      simp (disch := omega) only [xV, h1, l_lit, yi_b, nI_ltI, show ¬ e < k by omega, if_false, ocd, neg4, if_true, nI_add]
    | some s =>
      rw [hx] at h1
      have hs := (fst_some hx).1
      simp (disch := omega) only [xV, h1, l_lit, yi_b, nI_ltI, show ¬ e < k by omega, if_false, ocd, Nat.not_lt_zero, nI_add, nI_bitat, nI_or]
  · refine (bk_X11_examinerOf_8 ..).trans ?_
    rw [if_pos ((nI_ltI (by omega) (by omega)).mpr (by omega))]
    rfl
theorem nI_sh6 {e : Nat} (he : e < 14) : nI e <<< (nI 6 &&& nI 31) = nI (64 * e) := (by decide +kernel : ∀ e, e < 14 → nI e <<< (nI 6 &&& nI 31) = nI (64 * e)) e he
theorem nI_or64 {e c : Nat} (hc : c < 64) : nI (64 * e) ||| nI c = nI (64 * e + c) := by
  rw [nI_or, Nat.two_pow_add_eq_or_of_lt (i := 6) hc]
theorem nI_or64d {e c d f : Nat} (hc : c < 64) (hf : c ||| d = f) (hf2 : f < 64) : nI (64 * e + c) ||| nI d = nI (64 * e + f) := by
  rw [nI_or, Nat.two_pow_add_eq_or_of_lt (i := 6) hc, Nat.or_assoc, hf, ← Nat.two_pow_add_eq_or_of_lt (i := 6) hf2]
theorem X12_examines_in (hn : 3 ≤ n) (hr : Row A 80 M) (hg : Good M) (he : e ≤ M 0 1) (hcc : cc < 64) (hT : T78 85 A M 64 (e + 1)) : yb_X12_examines (ycall n) (13, [some (.ref 79), some (.int (nI e)), some (.int (nI cc)), none, none], [], A) = yb_X12_examines (ycall n) (13, [some (.ref 79), some (.int (nI e)), some (.int (nI (cc + 1))), none, none], [], yup A 85 (64 * e + cc) (nI (exN M (M 0 1 - e) cc))) := by
  have hS := gS hg
  have hE := gE hg
  have hend : ∀ m, yb_X12_examines (ycall n) (133, [some (.ref 79), some (.int (nI e)), some (.int (nI cc)), some (.int (nI m)), none], [], A) = yb_X12_examines (ycall n) (13, [some (.ref 79), some (.int (nI e)), some (.int (nI (cc + 1))), none, none], [], yup A 85 (64 * e + cc) (nI m)) := fun m => by
    refine (bk_X12_examines_133 ..).trans ?_
    simp (disch := omega) only [mR, l_lit, nI_sh6, nI_or64, w85, nI_add]
  refine (bk_X12_examines_13 ..).trans ?_
  by_cases hEe : e = M 0 1
  · subst hEe
    simp (disch := omega) only [mR, qD hr.1, rE hr, l_lit, nI_leI, Nat.not_le.mpr hcc, if_false, if_true]
    refine (bk_X12_examines_50 ..).trans ?_
    rw [Nat.sub_self]
    show _ = yb_X12_examines (ycall n) (13, [some (.ref 79), some (.int (nI (M 0 1))), some (.int (nI (cc + 1))), none, none], [], yup A 85 (64 * M 0 1 + cc) (nI 0))
    by_cases h0 : M 0 0 ≤ 0
    · simp (disch := omega) only [mR, qD hr.1, rE hr, rS hr, l_lit, nI_leI, if_true, h0]
      exact hend 0
    · simp (disch := omega) only [mR, qD hr.1, rE hr, rS hr, l_lit, nI_leI, if_true, if_false, Nat.le_refl, h0]
      exact hend 0
  · have he2 : e < M 0 1 := by omega
    obtain ⟨j, hj⟩ : ∃ j, M 0 1 - e = j + 1 := ⟨M 0 1 - e - 1, by omega⟩
    have hj2 : M 0 1 - (e + 1) = j := by omega
    have hj3 : M 0 1 - (j + 1) = e := by omega
    have hTj : ∀ c, c < 64 → A 85 (64 * (e + 1) + c) = nI (exN M j c) := fun c hc => by
      rw [← hj2]
      exact hT (e + 1) (by omega) (by omega) c hc
    rw [hj, exN_s, hj3]
    simp (disch := omega) only [mR, qD hr.1, rE hr, l_lit, nI_leI, nI_eq, hEe, Nat.not_le.mpr hcc, if_false, nI_add, nI_sh6, nI_or64, r85, hTj _ hcc]
    refine (for_up (fun k => yb_X12_examines (ycall n) (50, [some (.ref 79), some (.int (nI e)), some (.int (nI cc)), some (.int (nI (fo (fun s m => if okm M e s cc = true then max m (1 + exN M j (cc ||| 2 ^ s)) else m) (exN M j cc) k))), some (.int (nI k))], [], A)) (M 0 0) (fun k hk => ?_)).trans ?_
    · have h6 : fo (fun s m => if okm M e s cc = true then max m (1 + exN M j (cc ||| 2 ^ s)) else m) (exN M j cc) (k + 1) = if okm M e k cc = true then max (fo (fun s m => if okm M e s cc = true then max m (1 + exN M j (cc ||| 2 ^ s)) else m) (exN M j cc) k) (1 + exN M j (cc ||| 2 ^ k)) else fo (fun s m => if okm M e s cc = true then max m (1 + exN M j (cc ||| 2 ^ s)) else m) (exN M j cc) k := rfl
      have h7 : fo (fun s m => if okm M e s cc = true then max m (1 + exN M j (cc ||| 2 ^ s)) else m) (exN M j cc) k ≤ j + 1 := fo_inv (fun m => m ≤ j + 1) (by have := exN_le M j cc; omega) (fun s m _ hm => by
        have := exN_le M j (cc ||| 2 ^ s)
        split <;> omega)
      generalize fo (fun s m => if okm M e s cc = true then max m (1 + exN M j (cc ||| 2 ^ s)) else m) (exN M j cc) k = m at h6 h7
      have h8 : cc ||| 2 ^ k < 64 := or_lt (S := 6) hcc (by omega)
      have h9 := exN_le M j (cc ||| 2 ^ k)
      have h10 := hTj _ h8
      obtain ⟨d, hd⟩ : ∃ d, cc ||| 2 ^ k = d := ⟨_, rfl⟩
      rw [hd] at h8 h9 h10
      have hor : nI (64 * (e + 1) + cc) ||| nI (2 ^ k) = nI (64 * (e + 1) + d) := nI_or64d hcc hd h8
      refine (bk_X12_examines_50 ..).trans ?_
      rw [h6, hd]
      cases ho : okm M e k cc with
      | false => simp (disch := omega) only [mR, mV, qD hr.1, rE hr, rS hr, l_lit, nI_leI, Nat.not_le.mpr hk, Nat.not_le.mpr he2, X12_canMark_ok _ hr hg hk he2, ho, bI_f, yi_b, nI_add, if_true, if_false, Bool.false_eq_true]
      | true =>
        simp (disch := omega) only [mR, mV, qD hr.1, rE hr, rS hr, l_lit, nI_leI, Nat.not_le.mpr hk, Nat.not_le.mpr he2, X12_canMark_ok _ hr hg hk he2, ho, bI_t, yi_b, nI_add, nI_eq, Nat.one_ne_zero, if_true, if_false, nI_sh6, nI_or64, nI_bitat, hor, r85, h10]
        by_cases h11 : 1 + exN M j d ≤ m
        · rw [if_pos h11, Nat.max_eq_left h11]
        · rw [if_neg h11, Nat.max_eq_right (by omega)]
    · refine (bk_X12_examines_50 ..).trans ?_
      simp (disch := omega) only [mR, qD hr.1, rE hr, rS hr, l_lit, nI_leI, Nat.le_refl, if_true]
      exact hend _
theorem X12_examines_ok (hn : 4 ≤ n) (hr : Row A 80 M) (hg : Good M) : ∃ A', ycall n 209 [.ref 79] A = some (none, A') ∧ Fq 85 A A' ∧ T78 85 A' M 64 0 := by
  obtain ⟨n, rfl⟩ := Nat.exists_eq_add_of_le' hn
  have hE := gE hg
  rw [en_X12_examines]
  simp (disch := omega) only [mR, qD hr.1, rE hr, l_lit]
  obtain ⟨A2, e3, f2, t2⟩ := for_ex (fun i A => yb_X12_examines (ycall (n + 3)) (7, [some (.ref 79), some (.int (nI (M 0 1) - nI i)), none, none, none], [], A)) (fun i A' => Fq 85 A A' ∧ T78 85 A' M 64 (M 0 1 + 1 - i)) (M 0 1 + 1) A (fun i B hi hP => by
    obtain ⟨fB, tB⟩ := hP
    have hv : nI (M 0 1) - nI i = nI (M 0 1 - i) := nI_sub (by omega)
    have hcn := cnt_d (M 0 1) i
    have he1 : M 0 1 - i + 1 = M 0 1 + 1 - i := by omega
    obtain ⟨B1, g1, g2, g3, g4⟩ := for_ex (fun k A => yb_X12_examines (ycall (n + 3)) (13, [some (.ref 79), some (.int (nI (M 0 1 - i))), some (.int (nI k)), none, none], [], A)) (fun k A' => Fq 85 B A' ∧ T78 85 A' M 64 (M 0 1 + 1 - i) ∧ ∀ c, c < k → A' 85 (64 * (M 0 1 - i) + c) = nI (exN M (M 0 1 - (M 0 1 - i)) c)) 64 B (fun k B2 hk hP => by
      obtain ⟨p1, p2, p3⟩ := hP
      have hr' : Row B2 80 M := Row_Fq hr (by omega) (Fq_t fB p1)
      refine ⟨_, X12_examines_in (by omega) hr' hg (by omega) hk (by rw [he1]; exact p2), Fq_t p1 Fq_up, T78_up p2 hk (by omega) _ (by omega), fun c hc => ?_⟩
      by_cases hck : c = k
      · subst hck; exact yup_eq
      · rw [yup_ne2 (by omega)]; exact p3 c (by omega)) ⟨Fq_r 85 B, tB, fun c hc => by omega⟩
    refine ⟨B1, ?_, Fq_t fB g2, fun e h1 h2 c h3 => ?_⟩
    · refine (bk_X12_examines_7 ..).trans ?_
      rw [hv]
      simp (disch := omega) only [l_lit, nI_ltI, Nat.not_lt_zero, if_false]
      refine g1.trans ?_
      refine (bk_X12_examines_13 ..).trans ?_
      rw [← hv]
      simp (disch := omega) only [l_lit, nI_leI, Nat.le_refl, if_true, hcn]
    · by_cases h4 : e = M 0 1 - i
      · rw [h4]; exact g4 c h3
      · exact g3 e (by omega) h2 c h3) ⟨Fq_r 85 A, fun e h1 h2 => by omega⟩
  have h00 : nI (M 0 1) - nI 0 = nI (M 0 1) := nI_sub (Nat.zero_le _)
  rw [h00] at e3
  refine ⟨A2, e3.trans ?_, f2, by rw [Nat.sub_self] at t2; exact t2⟩
  have hneg : nI (M 0 1) - nI (M 0 1 + 1) < 0 := pk_sneg (by omega) (by omega)
  refine (bk_X12_examines_7 ..).trans ?_
  rw [if_pos hneg]
theorem X12_markerOf_ok (hn : 4 ≤ n) (hr : Row A 80 M) (hg : Good M) (he : e < M 0 1) (hcc : cc < 64) (hT : T78 85 A M 64 0) : ycall n 210 [.ref 79, .int (nI e), .int (nI cc)] A = some (some (.int (ocd (exE M e cc))), A) := by
  obtain ⟨n, rfl⟩ := Nat.exists_eq_add_of_le' hn
  have hS := gS hg
  have hE := gE hg
  rw [en_X12_markerOf]
  have h0 := hT e (by omega) (by omega) cc hcc
  have b0 := exN_le M (M 0 1 - e) cc
  refine (for_ret (fun k => yb_X12_markerOf (ycall (n + 3)) (2, [some (.ref 79), some (.int (nI e)), some (.int (nI cc)), some (.int (nI k))], [], A)) (fun k => some (some (.int (nI k)), A)) (fun s => okm M e s cc && decide (1 + exN M (M 0 1 - (e + 1)) (cc ||| 2 ^ s) = exN M (M 0 1 - e) cc)) (M 0 0) (fun k hk => ?_)).trans ?_
  · have h8 : cc ||| 2 ^ k < 64 := or_lt (S := 6) hcc (by omega)
    have h9 := exN_le M (M 0 1 - (e + 1)) (cc ||| 2 ^ k)
    have h10 := hT (e + 1) (by omega) (by omega) _ h8
    obtain ⟨d, hd⟩ : ∃ d, cc ||| 2 ^ k = d := ⟨_, rfl⟩
    rw [hd] at h8 h9 h10
    have hor : nI (64 * (e + 1) + cc) ||| nI (2 ^ k) = nI (64 * (e + 1) + d) := nI_or64d hcc hd h8
    refine (bk_X12_markerOf_2 ..).trans ?_
    rw [hd]
    cases ho : okm M e k cc with
    | false => simp (disch := omega) only [mR, mV, qD hr.1, rE hr, rS hr, l_lit, nI_leI, Nat.not_le.mpr hk, X12_canMark_ok _ hr hg hk he, ho, bI_f, yi_b, nI_add, if_true, if_false, Bool.false_eq_true, Bool.false_and]
    | true => simp (disch := omega) only [mR, mV, qD hr.1, rE hr, rS hr, l_lit, nI_leI, Nat.not_le.mpr hk, X12_canMark_ok _ hr hg hk he, ho, bI_t, yi_b, nI_add, nI_eq, Nat.one_ne_zero, if_false, nI_sh6, nI_or64, nI_bitat, hor, r85, h10, h0, Bool.true_and, decide_eq_true_eq]
  · show _ = (some (some (Value.int (ocd (exE M e cc))), A) : Option yR)
    cases hf : exE M e cc with
    | some i =>
      unfold exE at hf
      rw [hf]
      rfl
    | none =>
      unfold exE at hf
      rw [hf]
      refine (bk_X12_markerOf_2 ..).trans ?_
      simp (disch := omega) only [mR, qD hr.1, rE hr, rS hr, l_lit, nI_leI, Nat.le_refl, if_true]
      rfl
theorem X12_examiners_34 (hn : 5 ≤ n) (hr : Row A 80 M) (hg : Good M) (he : e < M 0 1) (hT : T78 85 A M 64 0) : yb_X12_examiners (ycall n) (34, [some (.ref 79), some (.int (nI e)), some (.int (nI 0)), some (.int (nI 0)), none], [], A) = some (some (.int (ocd (exE M e (exC M e)))), A) := by
  have hS := gS hg
  have hE := gE hg
  have h64 := pow6 hS
  refine (for_up (fun k => yb_X12_examiners (ycall n) (34, [some (.ref 79), some (.int (nI e)), some (.int (nI (exC M k))), some (.int (nI k)), none], [], A)) e (fun k hk => ?_)).trans ?_
  · have h0 := exC_lt M k
    have h1 := X12_markerOf_ok (n := n) (by omega) hr hg (show k < M 0 1 by omega) (show exC M k < 64 by omega) hT
    refine (bk_X12_examiners_34 ..).trans ?_
    show _ = yb_X12_examiners (ycall n) (34, [some (.ref 79), some (.int (nI e)), some (.int (nI (match exE M k (exC M k) with | none => exC M k | some s => exC M k ||| 2 ^ s))), some (.int (nI (k + 1))), none], [], A)
    cases hx : exE M k (exC M k) with
    | none =>
      rw [hx] at h1
      have hno : ¬ nI 0 ≤ -nI 4 := by decide +kernel
      simp (disch := omega) only [mV, h1, l_lit, yi_b, nI_leI, Nat.not_le.mpr hk, if_false, ocd, hno, nI_add, nI_or, Nat.or_zero]
    | some s =>
      rw [hx] at h1
      have hs := (fst_some hx).1
      simp (disch := omega) only [mV, h1, l_lit, yi_b, nI_leI, Nat.not_le.mpr hk, if_false, if_true, ocd, Nat.zero_le, nI_add, nI_bitat, nI_or]
  · have h0 := exC_lt M e
    refine (bk_X12_examiners_34 ..).trans ?_
    simp (disch := omega) only [mV, X12_markerOf_ok _ hr hg he _ hT, l_lit, yi_b, nI_leI, Nat.le_refl, if_true]
theorem Sc_Fq2 {A A' : yM} {q : Nat} (hq : scr q) (h79 : q ≠ 79) (h : Fq q A A') : Sc A A' := ⟨fun p hp => h p (fun e => hp (by rw [e]; exact hq)), by rw [h 79 (fun e => h79 e.symm)]⟩
theorem api_examiners (hi : InvX A M I hI T c g) (w : Int32) : Api 105 211 [.int w] A g := by
  have hc := iC hi
  have hg := iG hi
  have hS := gS hg
  have hE := gE hg
  obtain ⟨A1, a1, a2, a3⟩ := X11_tellMarkable_ok (n := 19) (by omega) hc hg
  have hc1 : Col A1 2 M := Col_fr hc (fun p hp => a2 p (by omega))
  have w0 : 0 < 2 ^ M 0 0 := Nat.two_pow_pos _
  have hX := fun (A1 : yM) (hi : InvX A1 M I hI T c g) => X12_examines_ok (n := 19) (by omega) (iR hi) hg
  by_cases h1 : w = -nI 1
  · subst h1
    have z := a3 0 (by omega) (by omega) 0 w0
    rw [Nat.mul_zero, Nat.add_zero] at z
    refine api_read hi (.int (nI (exN M (M 0 1 - 0) 0))) ⟨A1, ?_, Sc_Fq2 (by unfold scr; omega) (by omega) a2⟩ (fun B hi => ?_)
    · simp (disch := omega) only [en_X11_examiners, l_lit, if_true]
      refine (bk_X11_examiners_18 ..).trans ?_
      simp (disch := omega) only [xV, a1, yv_b, l_lit, if_true, xR, r78, z]
    · obtain ⟨B1, b1, b2, b3⟩ := hX B hi
      have z := b3 0 (by omega) (by omega) 0 (by omega)
      rw [Nat.mul_zero, Nat.add_zero] at z
      refine ⟨B1, ?_, Sc_Fq2 (by unfold scr; omega) (by omega) b2⟩
      have hno : ¬ nI 0 ≤ -nI 1 := by decide +kernel
      simp (disch := omega) only [en_X12_examiners, l_lit, if_true]
      refine (bk_X12_examiners_15 ..).trans ?_
      simp (disch := omega) only [mV, b1, yv_b, l_lit, if_false, hno, mR, r85, z]
  · by_cases hs : okI w (M 0 1) = true
    · obtain ⟨e, he, rfl⟩ := okI_of (by omega) hs
      refine api_read hi (.int (ocd (exE M e (exC M e)))) ⟨A1, ?_, Sc_Fq2 (by unfold scr; omega) (by omega) a2⟩ (fun B hi => ?_)
      · simp (disch := omega) only [en_X11_examiners, l_lit, h1, if_false, xR, cV hc.1, X0_hasError_ok _ hc, hs, bI_t, yi_b, nI_eq, Nat.one_ne_zero]
        refine (bk_X11_examiners_18 ..).trans ?_
        simp (disch := omega) only [xV, a1, yv_b, yi_b, l_lit, h1, if_false, X11_examinerOf_ok _ hc1 hg he a3]
      · obtain ⟨B1, b1, b2, b3⟩ := hX B hi
        have hr := iR hi
        have hr1 : Row B1 80 M := Row_Fq hr (by omega) b2
        refine ⟨B1, ?_, Sc_Fq2 (by unfold scr; omega) (by omega) b2⟩
        simp (disch := omega) only [en_X12_examiners, l_lit, h1, if_false, mV, X12_isError_ok _ hr hg, hs, bI_t, yi_b, nI_eq, Nat.one_ne_zero]
        refine (bk_X12_examiners_15 ..).trans ?_
        simp (disch := omega) only [mV, b1, yv_b, l_lit, nI_leI, Nat.zero_le, if_true, X12_examiners_34 _ hr1 hg he b3]
    · have hs := okI_f hs
      refine api_read hi (.int (-1)) ⟨_, ?_, Sc_r A⟩ (fun A1 hi => ⟨_, ?_, Sc_r A1⟩)
      · rw [en_X11_examiners, if_neg (show ¬ w = -1 from h1), (xR _ _).1, cV hc.1, X0_hasError_ok (by omega) hc, yi_b, hs, bI_f]
        exact if_pos rfl
      · have hr := iR hi
        rw [en_X12_examiners, if_neg (show ¬ w = -1 from h1), mV, X12_isError_ok (by omega) hr hg, yi_b, hs, bI_f]
        exact if_pos rfl
end B3
