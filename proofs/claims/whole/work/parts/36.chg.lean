/-! what changes a college -/
theorem yup_ne {A : yM} {a i p j : Nat} {v : Int32} (h : p ≠ a) : yup A a i v p j = A p j := by unfold yup; rw [if_neg (fun q => h q.1)]
theorem yup_ne1 {A : yM} {a i p : Nat} {v : Int32} (h : p ≠ a) : yup A a i v p = A p := by funext j; exact yup_ne h
theorem yup_ne2 {A : yM} {a i j : Nat} {v : Int32} (h : j ≠ i) : yup A a i v a j = A a j := by unfold yup; rw [if_neg (fun q => h q.2)]
theorem yup_eq {A : yM} {a i : Nat} {v : Int32} : yup A a i v a i = v := by unfold yup; rw [if_pos ⟨rfl, rfl⟩]
theorem ycy_ne {A : yM} {a sp b dp n p j : Nat} (h : p ≠ b) : ycy A a sp b dp n p j = A p j := by unfold ycy; rw [if_neg (fun q => h q.1)]
theorem ycy_ne1 {A : yM} {a sp b dp n p : Nat} (h : p ≠ b) : ycy A a sp b dp n p = A p := by funext j; exact ycy_ne h
theorem ycy_in {A : yM} {a b n j : Nat} (h : j < n) : ycy A a 0 b 0 n b j = A a j := by
  unfold ycy
  rw [if_pos ⟨rfl, by omega, by omega⟩]
  congr 1
  omega
theorem ycpy_ok {A : yM} {a b na nb n : Nat} (ha : yln A a = some na) (hb : yln A b = some nb) (h1 : n ≤ na) (h2 : n ≤ nb) (hn : n < 1000) : ycpy [.ref a, .int (nI 0), .ref b, .int (nI 0), .int (nI n)] A = some (ycy A a 0 b 0 n) := by
  unfold ycpy
  dsimp only
  rw [ha, hb]
  dsimp only
  rw [nI_clamp (show (0:Nat) < 2 ^ 31 by omega), nI_clamp (show n < 2 ^ 31 by omega), if_neg]
  intro h
  rcases h with h | h | h | h | h
  · exact nI_pos (by omega) h
  · exact nI_pos (by omega) h
  · exact nI_pos (by omega) h
  · omega
  · omega
theorem tb_bts {f : Nat → Nat} {n k : Nat} (h : ∀ k, k < n → f k < 2) : (bts f n).testBit k = decide (k < n ∧ f k = 1) := by
  by_cases hk : k < n
  · rw [Nat.testBit_eq_decide_div_mod_eq, bts_bit h hk]
    simp [hk]
  · have h1 := bts_lt h
    have h2 : 2 ^ n ≤ 2 ^ k := Nat.pow_le_pow_right (by omega) (by omega)
    rw [Nat.testBit_lt_two_pow (by omega)]
    simp [hk]
theorem bts_congr {f g : Nat → Nat} {n : Nat} (h : ∀ k, k < n → f k = g k) : bts f n = bts g n := sm_congr (fun k hk => by rw [h k hk])
theorem nI_lsb (x i : Nat) (hi : i < 32) : (nI x).toBitVec.getLsbD i = x.testBit i := by
  show (BitVec.ofNat 32 x).getLsbD i = _
  rw [BitVec.getLsbD_ofNat]
  simp [hi]
theorem bts_or {f : Nat → Nat} {n k : Nat} (h : ∀ k, k < n → f k < 2) (hk : k < n) (hn : n < 31) : nI (bts f n) ||| nI (2 ^ k) = nI (bts (fun j => if j = k then 1 else f j) n) := by
  rw [nI_or]
  congr 1
  apply Nat.eq_of_testBit_eq
  intro i
  rw [Nat.testBit_or, tb_bts h, tb_bts (fun j hj => by split; omega; exact h j hj), Nat.testBit_two_pow]
  by_cases hi : i = k
  · subst hi; simp [hk]
  · have hki : ¬ k = i := fun q => hi q.symm
    simp [hi, hki]
theorem nI_xor (a b : Nat) : nI a ^^^ nI b = nI (a ^^^ b) := by
  apply Int32.toBitVec_inj.1
  show BitVec.ofNat 32 a ^^^ BitVec.ofNat 32 b = BitVec.ofNat 32 (a ^^^ b)
  apply BitVec.eq_of_getLsbD_eq
  intro i hi
  simp [hi]
theorem bts_xor {f : Nat → Nat} {n k : Nat} (h : ∀ k, k < n → f k < 2) (hk : k < n) : nI (bts f n) ^^^ nI (2 ^ k) = nI (bts (fun j => if j = k then 1 - f k else f j) n) := by
  rw [nI_xor]
  congr 1
  apply Nat.eq_of_testBit_eq
  intro i
  have hk2 := h k hk
  rw [Nat.testBit_xor, tb_bts h, tb_bts (fun j hj => by split; omega; exact h j hj), Nat.testBit_two_pow]
  by_cases hi : i = k
  · subst hi
    have : f i = 0 ∨ f i = 1 := by omega
    rcases this with q | q <;> simp [hk, q]
  · have hki : ¬ k = i := fun q => hi q.symm
    simp [hi, hki]
theorem bts_andn {f : Nat → Nat} {n k : Nat} (h : ∀ k, k < n → f k < 2) (hk : k < n) (hn : n < 31) : nI (bts f n) &&& (nI (2 ^ k) ^^^ -nI 1) = nI (bts (fun j => if j = k then 0 else f j) n) := by
  apply Int32.toBitVec_inj.1
  apply BitVec.eq_of_getLsbD_eq
  intro i hi
  have hm : (-nI 1 : Int32).toBitVec.getLsbD i = true := (by decide +kernel : ∀ i, i < 32 → (-nI 1 : Int32).toBitVec.getLsbD i = true) i hi
  rw [Int32.toBitVec_and, Int32.toBitVec_xor, BitVec.getLsbD_and, BitVec.getLsbD_xor, hm, nI_lsb _ _ hi, nI_lsb _ _ hi, nI_lsb _ _ hi, tb_bts h, tb_bts (fun j hj => by split; omega; exact h j hj), Nat.testBit_two_pow]
  by_cases hik : i = k
  · subst hik; simp
  · have hki : ¬ k = i := fun q => hik q.symm
    simp [hik, hki]
/-- of the state: one number more or another -/
def mu (M : Mt) (t k v : Nat) : Mt := fun a j => if a = t ∧ j = k then v else M a j
theorem mu_ne {M : Mt} {t k v a j : Nat} (h : a ≠ t) : mu M t k v a j = M a j := by unfold mu; rw [if_neg (fun q => h q.1)]
theorem mu_ne1 {M : Mt} {t k v a : Nat} (h : a ≠ t) : mu M t k v a = M a := by funext j; exact mu_ne h
theorem mu_ne2 {M : Mt} {t k v j : Nat} (h : j ≠ k) : mu M t k v t j = M t j := by unfold mu; rw [if_neg (fun q => h q.2)]
theorem mu_eq {M : Mt} {t k v : Nat} : mu M t k v t k = v := by unfold mu; rw [if_pos ⟨rfl, rfl⟩]
/-- nothing but the college at b -/
def Fr (b : Nat) (A A' : yM) : Prop := ∀ p, ¬ (b ≤ p ∧ p < b + 19) → A' p = A p
theorem Fr_r (b : Nat) (A : yM) : Fr b A A := fun _ _ => rfl
theorem Fr_t {b : Nat} {A B C : yM} (h1 : Fr b A B) (h2 : Fr b B C) : Fr b A C := fun p hp => (h2 p hp).trans (h1 p hp)
theorem isB_ge {b : Nat} (h : isB b) : 2 ≤ b ∧ b ≤ 40 := by rcases h with rfl | rfl | rfl <;> omega
theorem isB_apart {b d : Nat} (h : isB b) (h2 : isB d) (h3 : b ≠ d) : b + 19 ≤ d ∨ d + 19 ≤ b := by
  rcases h with rfl | rfl | rfl <;> rcases h2 with rfl | rfl | rfl <;> omega
theorem Col_Fr {A A' : yM} {b d : Nat} {M : Mt} (hc : Col A b M) (hd : isB d) (h : b ≠ d) (hf : Fr d A A') : Col A' b M := by
  have := isB_apart hc.1 hd h
  exact Col_fr hc (fun p hp => hf p (by omega))
section CG
variable {n b p e : Nat} {A : yM} {M : Mt}
def asN (M : Mt) (k f : Nat) : Mt := mu (mu (mu (mu M 0 0 (M 0 0 + 1)) 1 (M 0 0) k) 2 (M 0 0) f) 3 (M 0 0) 1
theorem asN_good (hg : Good M) {k f : Nat} (hk : k < 8) (hf : f < 10) (hS : M 0 0 < 6) : Good (asN M k f) := by
  obtain ⟨g1, g2, g3, g4, g5⟩ := hg
  unfold asN
  refine ⟨?_, ?_, ?_, fun p hp => ?_, fun e he => ?_⟩
  · simp (disch := omega) only [mu_ne, mu_eq]; omega
  · simp (disch := omega) only [mu_ne, mu_ne2]; omega
  · simp (disch := omega) only [mu_ne, mu_ne2]; omega
  · simp (disch := omega) only [mu_ne, mu_eq] at hp
    by_cases hq : p = M 0 0
    · subst hq
      simp (disch := omega) only [mu_ne, mu_eq]
      omega
    · have := g4 p (by omega)
      simp (disch := omega) only [mu_ne, mu_ne2]
      exact this
  · simp (disch := omega) only [mu_ne, mu_ne2] at he
    have := g5 e he
    simp (disch := omega) only [mu_ne, mu_eq]
    omega
theorem citN_mu {M M' : Mt} (h1 : M' 0 1 = M 0 1) (h7 : ∀ e, e < M 0 1 → M' 7 e = M 7 e) (e : Nat) : citN M' e = citN M e := by
  unfold citN
  rw [h1]
  exact sm_congr (fun k hk => by rw [h7 k hk])
theorem X0_addStudent_ok (hn : 1 ≤ n) (hc : Col A b M) (hg : Good M) {k f : Nat} (hk : k < 8) (hf : f < 10) (hS : M 0 0 < 6) : ∃ A', ycall n 5 [.ref b, .int (nI k), .int (nI f)] A = some (some (.int (nI (M 0 0))), A') ∧ Col A' b (asN M k f) ∧ Fr b A A' := by
  obtain ⟨n, rfl⟩ := Nat.exists_eq_add_of_le' hn
  have hb := hc.1
  have hb2 := isB_ge hb
  have h2 : ∀ k, k < M 0 0 → M 3 k < 2 := fun k hk => (gP hg hk).2.2
  have h3 := bts_lt h2
  have h := en_X0_addStudent n A b (nI k) (nI f)
  simp (disch := omega) only [l_lit, nI_add, nI_mul, yi_b, yv_b, yl_b, if_true, if_false, or_true, true_or, or_false, false_or, and_true, true_and, and_false, false_and, not_true_eq_false, not_false_eq_true, Nat.reduceEqDiff, ↓reduceIte, nI_eq, nI_leI, nI_ltI, Nat.not_le.mpr hk, Nat.not_lt_zero, cgI hb, cpI hb, cR hb, cS hc, cW6 hb, yup_ne, yup_ne2, yup_eq, cIn hc, nI_orbit _ h3, nI_sub, Nat.add_sub_cancel, hf, hS] at h
  refine ⟨_, h, ⟨hb, ?_, ?_, ?_, ?_, ?_, fun p hp => ?_, fun e he => ?_⟩, fun p hp => ?_⟩
  · unfold asN
    simp (disch := omega) only [yup_ne, yup_ne2, yup_eq, mu_ne, mu_eq]
  · unfold asN
    simp (disch := omega) only [yup_ne, yup_ne2, yup_eq, mu_ne, mu_ne2, mu_eq, cE hc]
  · unfold asN
    simp (disch := omega) only [yup_ne, yup_ne2, yup_eq, mu_ne, mu_ne2, mu_eq, cWk hc]
  · unfold asN
    simp (disch := omega) only [yup_ne, yup_ne2, yup_eq, mu_ne, mu_eq]
    congr 1
    show _ = bts _ (M 0 0) + _ * 2 ^ M 0 0
    rw [mu_eq, Nat.one_mul]
    congr 1
    exact bts_congr (fun j hj => by simp (disch := omega) only [mu_ne, mu_ne2])
  · unfold asN
    simp (disch := omega) only [yup_ne, yup_ne2, yup_eq, mu_ne, mu_ne1, mu_ne2, mu_eq, cCo hc]
  · unfold asN at hp ⊢
    simp (disch := omega) only [mu_ne, mu_eq] at hp
    by_cases hq : p = M 0 0
    · subst hq
      simp (disch := omega) only [yup_ne, yup_eq, mu_ne, mu_eq, and_self]
    · simp (disch := omega) only [yup_ne, yup_ne2, mu_ne, mu_ne2, cKd hc, cFg hc, and_self]
  · unfold asN at he ⊢
    simp (disch := omega) only [mu_ne, mu_ne2] at he
    rw [citN_mu (M := M) (by simp (disch := omega) only [mu_ne, mu_ne2]) (fun e _ => by simp (disch := omega) only [mu_ne])]
    simp (disch := omega) only [yup_ne, mu_ne, cBy hc, cTp hc, cSz hc, cCt hc, cTc hc, and_self]
  · rw [yup_ne1 (by omega), yup_ne1 (by omega), yup_ne1 (by omega), yup_ne1 (by omega)]
def tuN (M : Mt) (s : Nat) : Mt := mu M 3 s (1 - M 3 s)
theorem tuN_good (hg : Good M) {s : Nat} : Good (tuN M s) := by
  obtain ⟨g1, g2, g3, g4, g5⟩ := hg
  unfold tuN
  refine ⟨?_, ?_, ?_, fun p hp => ?_, fun e he => ?_⟩
  · simp (disch := omega) only [mu_ne]; omega
  · simp (disch := omega) only [mu_ne]; omega
  · simp (disch := omega) only [mu_ne]; omega
  · simp (disch := omega) only [mu_ne] at hp
    have := g4 p hp
    by_cases hq : p = s
    · subst hq
      simp (disch := omega) only [mu_ne, mu_eq]
      omega
    · simp (disch := omega) only [mu_ne, mu_ne2]
      exact this
  · simp (disch := omega) only [mu_ne] at he
    have := g5 e he
    simp (disch := omega) only [mu_ne]
    exact this
theorem X0_turnStudent_ok (hn : 2 ≤ n) (hc : Col A b M) (hg : Good M) {s : Nat} (hs : s < M 0 0) : ∃ A', ycall n 8 [.ref b, .int (nI s)] A = some (some (.int (nI (1 - M 3 s))), A') ∧ Col A' b (tuN M s) ∧ Fr b A A' := by
  obtain ⟨n, rfl⟩ := Nat.exists_eq_add_of_le' hn
  have hb := hc.1
  have hS := gS hg
  have h2 : ∀ k, k < M 0 0 → M 3 k < 2 := fun k hk => (gP hg hk).2.2
  have h2' : ∀ k, k < M 0 0 → (fun j => if j = s then 1 - M 3 s else M 3 j) k < 2 := fun k hk => by have := h2 k hk; have := h2 s hs; show (if k = s then 1 - M 3 s else M 3 k) < 2; split <;> omega
  have h3 := bts_lt h2'
  have h4 : 2 ^ M 0 0 ≤ 2 ^ 6 := Nat.pow_le_pow_right (by omega) hS
  have h := en_X0_turnStudent (n + 1) A b (nI s)
  have hok : bI (okI (nI s) (M 0 0)) = nI 1 := by rw [okI_nI (by omega) (by omega)]; simp [bI, hs]
  have hbit := bts_bit h2' hs
  simp (disch := omega) only [l_lit, nI_add, nI_mul, yi_b, yv_b, yl_b, if_true, if_false, or_true, true_or, or_false, false_or, and_true, true_and, and_false, false_and, not_true_eq_false, not_false_eq_true, Nat.reduceEqDiff, ↓reduceIte, cV hb, X0_hasStudent_ok _ hc, hok, nI_eq, Nat.one_ne_zero, cgI hb, cpI hb, cIn hc, yup_eq, nI_bitat, bts_xor h2 hs, nI_bit, hbit] at h
  refine ⟨_, h, ⟨hb, ?_, ?_, ?_, ?_, ?_, fun p hp => ?_, fun e he => ?_⟩, fun p hp => ?_⟩
  · unfold tuN
    simp (disch := omega) only [yup_ne2, mu_ne, cS hc]
  · unfold tuN
    simp (disch := omega) only [yup_ne2, mu_ne, cE hc]
  · unfold tuN
    simp (disch := omega) only [yup_ne2, mu_ne, cWk hc]
  · unfold tuN
    simp (disch := omega) only [yup_eq, mu_ne]
    congr 1
    refine bts_congr (fun j hj => ?_)
    by_cases hj2 : j = s
    · subst hj2
      rw [if_pos rfl, mu_eq]
    · rw [if_neg hj2, mu_ne2 hj2]
  · unfold tuN
    simp (disch := omega) only [yup_ne2, mu_ne, mu_ne1, cCo hc]
  · unfold tuN at hp ⊢
    simp (disch := omega) only [mu_ne] at hp
    simp (disch := omega) only [yup_ne, mu_ne, cKd hc, cFg hc, and_self]
  · unfold tuN at he ⊢
    simp (disch := omega) only [mu_ne] at he
    rw [citN_mu (M := M) (by simp (disch := omega) only [mu_ne]) (fun e _ => by simp (disch := omega) only [mu_ne])]
    simp (disch := omega) only [yup_ne, mu_ne, cBy hc, cTp hc, cSz hc, cCt hc, cTc hc, and_self]
  · have := isB_ge hb
    rw [yup_ne1 (by omega)]
def aeN (M : Mt) (s t z c : Nat) : Mt := mu (mu (mu (mu (mu (mu M 0 1 (M 0 1 + 1)) 4 (M 0 1) s) 5 (M 0 1) t) 6 (M 0 1) z) 7 (M 0 1) c) 8 (M 0 1) 0
theorem aeN_good (hg : Good M) {s t z c : Nat} (hs : s < M 0 0) (ht : t < 6) (hz : z < 100) (hc : c = 99 ∨ c < M 0 1) (hE : M 0 1 < 12) : Good (aeN M s t z c) := by
  obtain ⟨g1, g2, g3, g4, g5⟩ := hg
  unfold aeN
  refine ⟨?_, ?_, ?_, fun p hp => ?_, fun e he => ?_⟩
  · simp (disch := omega) only [mu_ne, mu_ne2]; omega
  · simp (disch := omega) only [mu_ne, mu_eq]; omega
  · simp (disch := omega) only [mu_ne, mu_ne2]; omega
  · simp (disch := omega) only [mu_ne, mu_ne2] at hp
    have := g4 p hp
    simp (disch := omega) only [mu_ne]
    exact this
  · simp (disch := omega) only [mu_ne, mu_eq] at he
    by_cases hq : e = M 0 1
    · subst hq
      simp (disch := omega) only [mu_ne, mu_ne2, mu_eq]
      omega
    · have := g5 e (by omega)
      simp (disch := omega) only [mu_ne, mu_ne2]
      exact this
theorem citN_ae (hg : Good M) {s t z c : Nat} (hc : c = 99 ∨ c < M 0 1) {e : Nat} (he : e ≤ M 0 1) (hE : M 0 1 < 12) : citN (aeN M s t z c) e = if e = M 0 1 then 0 else citN M e + (if c = e then 1 else 0) := by
  have h0 : (aeN M s t z c) 0 1 = M 0 1 + 1 := by unfold aeN; simp (disch := omega) only [mu_ne, mu_eq]
  have h7 : (aeN M s t z c) 7 (M 0 1) = c := by unfold aeN; simp (disch := omega) only [mu_ne, mu_eq]
  have h8 : ∀ j, j < M 0 1 → (aeN M s t z c) 7 j = M 7 j := fun j hj => by unfold aeN; simp (disch := omega) only [mu_ne, mu_ne2]
  unfold citN
  rw [h0]
  show sm (fun k => if (aeN M s t z c) 7 k = e then 1 else 0) (M 0 1) + (if (aeN M s t z c) 7 (M 0 1) = e then 1 else 0) = _
  rw [h7, sm_congr (g := fun k => if M 7 k = e then 1 else 0) (fun k hk => by rw [h8 k hk])]
  by_cases hq : e = M 0 1
  · subst hq
    rw [if_pos rfl, if_neg (by omega), Nat.add_zero]
    have : sm (fun k => if M 7 k = M 0 1 then 1 else 0) (M 0 1) ≤ M 0 1 * 0 := sm_le (fun k hk => by have := gEr hg hk; rw [if_neg (by omega)]; omega)
    omega
  · rw [if_neg hq]
theorem X0_addError_ok (hn : 2 ≤ n) (hc : Col A b M) (hg : Good M) {s t z c : Nat} (hs : s < M 0 0) (ht : t < 6) (hz : z < 100) (hct : c = 99 ∨ c < M 0 1) (hE : M 0 1 < 12) (hin : M 3 s = 1) : ∃ A', ycall n 6 [.ref b, .int (nI s), .int (nI t), .int (nI z), .int (nI c)] A = some (some (.int (nI (M 0 1))), A') ∧ Col A' b (aeN M s t z c) ∧ Fr b A A' := by
  obtain ⟨n, rfl⟩ := Nat.exists_eq_add_of_le' hn
  have hb := hc.1
  have hb2 := isB_ge hb
  have hS := gS hg
  have hok : bI (okI (nI s) (M 0 0)) = nI 1 := by rw [okI_nI (by omega) (by omega)]; simp [bI, hs]
  -- the memory behind it, with TIMES CITED as they become
  have key : ∀ A', (A' b 1 = A b 1 ∧ A' b 4 = A b 4 ∧ A' b 5 = nI (M 0 1 + 1) ∧ A' b 11 = A b 11 ∧ A' b 12 = A b 12) → A' (b + 10) = A (b + 10) → A' (b + 11) = A (b + 11) → (∀ e, e < M 0 1 → A' (b + 12) e = A (b + 12) e ∧ A' (b + 13) e = A (b + 13) e ∧ A' (b + 14) e = A (b + 14) e ∧ A' (b + 15) e = A (b + 15) e ∧ A' (b + 16) e = nI (citN M e + (if c = e then 1 else 0))) → (A' (b + 12) (M 0 1) = nI s ∧ A' (b + 13) (M 0 1) = nI t ∧ A' (b + 14) (M 0 1) = nI z ∧ A' (b + 15) (M 0 1) = nI c ∧ A' (b + 16) (M 0 1) = nI 0) → Col A' b (aeN M s t z c) := by
    intro A' ⟨k1, k2, k3, k4, k5⟩ k6 k7 k8 ⟨k9, k10, k11, k12, k13⟩
    refine ⟨hb, ?_, ?_, ?_, ?_, ?_, fun p hp => ?_, fun e he => ?_⟩
    · rw [k1, cS hc]; unfold aeN; simp (disch := omega) only [mu_ne, mu_ne2]
    · rw [k3]; unfold aeN; simp (disch := omega) only [mu_ne, mu_eq]
    · rw [k5, cWk hc]; unfold aeN; simp (disch := omega) only [mu_ne, mu_ne2]
    · rw [k2, cIn hc]; unfold aeN; simp (disch := omega) only [mu_ne, mu_ne1, mu_ne2]
    · rw [k4, cCo hc]; unfold aeN; simp (disch := omega) only [mu_ne, mu_eq]
      congr 1
      show _ = bts _ (M 0 1) + _ * 2 ^ M 0 1
      rw [mu_eq, Nat.zero_mul, Nat.add_zero]
      exact bts_congr (fun j hj => by simp (disch := omega) only [mu_ne, mu_ne2])
    · unfold aeN at hp ⊢
      simp (disch := omega) only [mu_ne, mu_ne2] at hp
      rw [k6, k7]
      simp (disch := omega) only [mu_ne, cKd hc, cFg hc, and_self]
    · have he2 : e < M 0 1 + 1 := by unfold aeN at he; simpa (disch := omega) only [mu_ne, mu_eq] using he
      rw [citN_ae hg hct (by omega) hE]
      by_cases hq : e = M 0 1
      · subst hq
        rw [k9, k10, k11, k12, k13, if_pos rfl]
        unfold aeN
        simp (disch := omega) only [mu_ne, mu_ne2, mu_eq, and_self]
      · obtain ⟨a1, a2, a3, a4, a5⟩ := k8 e (by omega)
        rw [a1, a2, a3, a4, a5, if_neg hq]
        unfold aeN
        simp (disch := omega) only [mu_ne, mu_ne2, cBy hc, cTp hc, cSz hc, cCt hc, and_self]
  have h := en_X0_addError (n + 1) A b (nI s) (nI t) (nI z) (nI c)
  have h46 := bk_X0_addError_46 (ycall (n + 1)) A b (nI s) (nI t) (nI z) (nI c)
  have hlt6 : ¬ 6 ≤ t := by omega
  have hlt99 : ¬ 99 < z := by omega
  have hX : ycall (n + 1 + 1) 6 [.ref b, .int (nI s), .int (nI t), .int (nI z), .int (nI c)] A = yb_X0_addError (ycall (n + 1)) (46, [some (.ref b), some (.int (nI s)), some (.int (nI t)), some (.int (nI z)), some (.int (nI c))], [], A) := by
    rw [h]
    rcases hct with rfl | hct
    · simp (disch := omega) only [l_lit, nI_add, nI_mul, yi_b, yv_b, yl_b, if_true, if_false, or_true, true_or, or_false, false_or, and_true, true_and, and_false, false_and, not_true_eq_false, not_false_eq_true, Nat.reduceEqDiff, ↓reduceIte, cV hb, X0_hasStudent_ok _ hc, hok, nI_eq, nI_leI, nI_ltI, Nat.one_ne_zero, Nat.not_lt_zero, hlt6, hlt99]
    · have hok2 : bI (okI (nI c) (M 0 1)) = nI 1 := by rw [okI_nI (by omega) (by omega)]; simp [bI, hct]
      simp (disch := omega) only [l_lit, nI_add, nI_mul, yi_b, yv_b, yl_b, if_true, if_false, or_true, true_or, or_false, false_or, and_true, true_and, and_false, false_and, not_true_eq_false, not_false_eq_true, Nat.reduceEqDiff, ↓reduceIte, cV hb, X0_hasStudent_ok _ hc, X0_hasError_ok _ hc, hok, hok2, nI_eq, nI_leI, nI_ltI, Nat.one_ne_zero, Nat.not_lt_zero, hlt6, hlt99]
      rw [if_neg (by omega)]
  rw [hX, h46]
  simp (disch := omega) only [l_lit, nI_add, nI_mul, yi_b, yv_b, yl_b, if_true, if_false, or_true, true_or, or_false, false_or, and_true, true_and, and_false, false_and, not_true_eq_false, not_false_eq_true, Nat.reduceEqDiff, ↓reduceIte, cV hb, X0_isIn_ok _ hc hg hs, hin, cgI hb, cR hb, cE hc, nI_eq, nI_leI, nI_ltI, hE, Nat.one_ne_zero, cW12 hb, yup_ne]
  rcases hct with rfl | hct
  · rw [if_pos rfl, bk_X0_addError_138]
    simp (disch := omega) only [l_lit, nI_add, nI_mul, yi_b, yv_b, yl_b, if_true, if_false, or_true, true_or, or_false, false_or, and_true, true_and, and_false, false_and, not_true_eq_false, not_false_eq_true, Nat.reduceEqDiff, ↓reduceIte, cgI hb, cpI hb, yup_ne, yup_ne2, yup_eq, cE hc, nI_sub, Nat.add_sub_cancel]
    refine ⟨_, rfl, key _ ?_ ?_ ?_ (fun e he => ?_) ?_, fun p hp => ?_⟩
    · simp (disch := omega) only [yup_ne, yup_ne2, yup_eq, and_self]
    · simp (disch := omega) only [yup_ne1]
    · simp (disch := omega) only [yup_ne1]
    · rw [if_neg (by omega)]
      simp (disch := omega) only [yup_ne, yup_ne2, cTc hc, and_self, Nat.add_zero]
    · simp (disch := omega) only [yup_ne, yup_ne2, yup_eq, and_self]
    · simp (disch := omega) only [yup_ne1]
  · rw [if_neg (by omega)]
    simp (disch := omega) only [l_lit, nI_add, nI_mul, yi_b, yv_b, yl_b, if_true, if_false, or_true, true_or, or_false, false_or, and_true, true_and, and_false, false_and, not_true_eq_false, not_false_eq_true, Nat.reduceEqDiff, ↓reduceIte, cD12 hb, cW12 hb, yup_ne, yup_ne2, cTc hc]
    rw [bk_X0_addError_138]
    simp (disch := omega) only [l_lit, nI_add, nI_mul, yi_b, yv_b, yl_b, if_true, if_false, or_true, true_or, or_false, false_or, and_true, true_and, and_false, false_and, not_true_eq_false, not_false_eq_true, Nat.reduceEqDiff, ↓reduceIte, cgI hb, cpI hb, yup_ne, yup_ne2, yup_eq, cE hc, nI_sub, Nat.add_sub_cancel]
    refine ⟨_, rfl, key _ ?_ ?_ ?_ (fun e he => ?_) ?_, fun p hp => ?_⟩
    · simp (disch := omega) only [yup_ne, yup_ne2, yup_eq, and_self]
    · simp (disch := omega) only [yup_ne1]
    · simp (disch := omega) only [yup_ne1]
    · by_cases hq : c = e
      · subst hq
        simp (disch := omega) only [yup_ne, yup_ne2, yup_eq, and_self, if_true]
      · rw [if_neg hq]
        simp (disch := omega) only [yup_ne, yup_ne2, cTc hc, and_self, Nat.add_zero]
    · simp (disch := omega) only [yup_ne, yup_ne2, yup_eq, and_self]
    · simp (disch := omega) only [yup_ne1]
def ceM (M : Mt) (s e : Nat) : Mt := mu (mu (mu M 8 e 1) 6 e (M 6 e / 2)) 3 s 0
theorem ceM_good (hg : Good M) {s e : Nat} : Good (ceM M s e) := by
  obtain ⟨g1, g2, g3, g4, g5⟩ := hg
  unfold ceM
  refine ⟨?_, ?_, ?_, fun p hp => ?_, fun e' he => ?_⟩
  · simp (disch := omega) only [mu_ne]; omega
  · simp (disch := omega) only [mu_ne]; omega
  · simp (disch := omega) only [mu_ne]; omega
  · simp (disch := omega) only [mu_ne] at hp
    have := g4 p hp
    by_cases hq : p = s
    · subst hq
      simp (disch := omega) only [mu_ne, mu_eq]
      omega
    · simp (disch := omega) only [mu_ne, mu_ne2]
      exact this
  · simp (disch := omega) only [mu_ne] at he
    have := g5 e' he
    by_cases hq : e' = e
    · subst hq
      simp (disch := omega) only [mu_ne, mu_eq]
      omega
    · simp (disch := omega) only [mu_ne, mu_ne2]
      exact this
theorem X0_correctError_ok (hn : 2 ≤ n) (hc : Col A b M) (hg : Good M) {s e : Nat} (hs : s < M 0 0) (he : e < M 0 1) (hin : M 3 s = 1) (hby : M 4 e ≠ s) (hco : M 8 e = 0) : ∃ A', ycall n 7 [.ref b, .int (nI s), .int (nI e)] A = some (some (.int (nI (M 6 e / 2))), A') ∧ Col A' b (ceM M s e) ∧ Fr b A A' := by
  obtain ⟨n, rfl⟩ := Nat.exists_eq_add_of_le' hn
  have hb := hc.1
  have hb2 := isB_ge hb
  have hS := gS hg
  have hE := gE hg
  have h1 := gEr hg he
  have h2 : ∀ k, k < M 0 0 → M 3 k < 2 := fun k hk => (gP hg hk).2.2
  have h28 : ∀ k, k < M 0 1 → M 8 k < 2 := fun k hk => (gEr hg hk).2.2.2.2
  have hok : bI (okI (nI s) (M 0 0)) = nI 1 := by rw [okI_nI (by omega) (by omega)]; simp [bI, hs]
  have hok2 : bI (okI (nI e) (M 0 1)) = nI 1 := by rw [okI_nI (by omega) (by omega)]; simp [bI, he]
  have h := en_X0_correctError (n + 1) A b (nI s) (nI e)
  simp (disch := omega) only [l_lit, nI_add, nI_mul, yi_b, yv_b, yl_b, if_true, if_false, or_true, true_or, or_false, false_or, and_true, true_and, and_false, false_and, not_true_eq_false, not_false_eq_true, Nat.reduceEqDiff, ↓reduceIte, cV hb, X0_hasStudent_ok _ hc, X0_hasError_ok _ hc, X0_isIn_ok _ hc hg hs, X0_isCorrected_ok _ hc hg he, hok, hok2, hin, hco, nI_eq, nI_leI, nI_ltI, Nat.one_ne_zero, cgI hb, cpI hb, cR hb, cD12 hb, cW12 hb, cBy hc, hby, cCo hc, nI_bitat, bts_or h28 he, yup_ne, yup_ne2, yup_eq, cSz hc, nI_div, cIn hc, bts_andn h2 hs] at h
  refine ⟨_, h, ⟨hb, ?_, ?_, ?_, ?_, ?_, fun p hp => ?_, fun e' he' => ?_⟩, fun p hp => ?_⟩
  · unfold ceM
    simp (disch := omega) only [yup_ne, yup_ne2, mu_ne, cS hc]
  · unfold ceM
    simp (disch := omega) only [yup_ne, yup_ne2, mu_ne, cE hc]
  · unfold ceM
    simp (disch := omega) only [yup_ne, yup_ne2, mu_ne, cWk hc]
  · unfold ceM
    simp (disch := omega) only [yup_eq, mu_ne]
    congr 1
    refine bts_congr (fun j hj => ?_)
    by_cases hj2 : j = s
    · subst hj2
      rw [if_pos rfl, mu_eq]
    · rw [if_neg hj2]
      simp (disch := omega) only [mu_ne, mu_ne2]
  · unfold ceM
    simp (disch := omega) only [yup_ne, yup_ne2, yup_eq, mu_ne]
    congr 1
    refine bts_congr (fun j hj => ?_)
    by_cases hj2 : j = e
    · subst hj2
      rw [if_pos rfl]
      simp (disch := omega) only [mu_ne, mu_eq]
    · rw [if_neg hj2]
      simp (disch := omega) only [mu_ne, mu_ne2]
  · unfold ceM at hp ⊢
    simp (disch := omega) only [mu_ne] at hp
    simp (disch := omega) only [yup_ne, mu_ne, cKd hc, cFg hc, and_self]
  · unfold ceM at he' ⊢
    simp (disch := omega) only [mu_ne] at he'
    rw [citN_mu (M := M) (by simp (disch := omega) only [mu_ne]) (fun e _ => by simp (disch := omega) only [mu_ne])]
    by_cases hq : e' = e
    · subst hq
      simp (disch := omega) only [yup_ne, yup_eq, mu_ne, mu_eq, cBy hc, cTp hc, cCt hc, cTc hc, and_self]
    · simp (disch := omega) only [yup_ne, yup_ne2, mu_ne, mu_ne2, cBy hc, cTp hc, cSz hc, cCt hc, cTc hc, and_self]
  · simp (disch := omega) only [yup_ne1]
end CG
