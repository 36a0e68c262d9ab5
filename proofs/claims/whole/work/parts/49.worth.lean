/-! worths: in parts of u; from the last ERROR down, each handed on to the one that it cites -/
def wT (M : Mt) (u : Nat) : Nat → Nat → Nat
  | 0 => fun _ => u
  | i + 1 => fun e => if M 7 (M 0 1 - 1 - i) < M 0 1 - 1 - i ∧ e = M 7 (M 0 1 - 1 - i) then wT M u i e + wT M u i (M 0 1 - 1 - i) / 2 else wT M u i e
theorem wT_le (M : Mt) (u : Nat) : ∀ (i e : Nat), wT M u i e ≤ u * 2 ^ i := by
  intro i
  induction i with
  | zero => intro e; show u ≤ u * 1; omega
  | succ i ih =>
    intro e
    have h1 := ih e
    have h2 := ih (M 0 1 - 1 - i)
    show (if _ then _ else _) ≤ _
    rw [Nat.pow_succ, ← Nat.mul_assoc]
    generalize u * 2 ^ i = z at h1 h2 ⊢
    have h3 : wT M u i e + wT M u i (M 0 1 - 1 - i) / 2 ≤ z * 2 := by omega
    have h4 : wT M u i e ≤ z * 2 := by omega
    split
    · exact h3
    · exact h4
theorem wT_dvd {M : Mt} (hE : M 0 1 ≤ 12) : ∀ (i e : Nat), i ≤ M 0 1 → e ≤ 11 → 2 ^ e ∣ wT M 2048 i e := by
  intro i
  induction i with
  | zero =>
    intro e _ he
    show 2 ^ e ∣ 2 ^ 11
    exact Nat.pow_dvd_pow 2 he
  | succ i ih =>
    intro e hi he
    have h1 := ih e (by omega) he
    show 2 ^ e ∣ (if _ then _ else _)
    split
    · rename_i hq
      obtain ⟨q1, q2⟩ := hq
      refine Nat.dvd_add h1 ?_
      have h2 := ih (M 0 1 - 1 - i) (by omega) (by omega)
      obtain ⟨z, hz⟩ := h2
      obtain ⟨d, hd⟩ : ∃ d, M 0 1 - 1 - i = e + d + 1 := ⟨M 0 1 - 1 - i - e - 1, by omega⟩
      rw [hz, hd, Nat.pow_succ, Nat.pow_add]
      refine ⟨2 ^ d * z, ?_⟩
      rw [show 2 ^ e * 2 ^ d * 2 * z = 2 * (2 ^ e * (2 ^ d * z)) by simp only [Nat.mul_assoc, Nat.mul_comm, Nat.mul_left_comm]]
      exact Nat.mul_div_cancel_left _ (by omega)
    · exact h1
theorem wT_two {M : Mt} (hE : M 0 1 ≤ 12) : ∀ (i e : Nat), i ≤ M 0 1 → wT M 4096 i e = 2 * wT M 2048 i e := by
  intro i
  induction i with
  | zero => intro e _; rfl
  | succ i ih =>
    intro e hi
    have h1 := ih e (by omega)
    have h2 := ih (M 0 1 - 1 - i) (by omega)
    show (if _ then _ else _) = 2 * (if _ then _ else _)
    split
    · rename_i hq
      obtain ⟨z, hz⟩ := wT_dvd hE i (M 0 1 - 1 - i) (by omega) (by omega)
      obtain ⟨d, hd⟩ : ∃ d, M 0 1 - 1 - i = d + 1 := ⟨M 0 1 - 1 - i - 1, by omega⟩
      have h3 : wT M 2048 i (M 0 1 - 1 - i) = 2 * (2 ^ d * z) := by
        rw [hz, hd, Nat.pow_succ]
        simp only [Nat.mul_assoc, Nat.mul_comm, Nat.mul_left_comm]
      have h4 : 2 * wT M 2048 i e + 2 * wT M 2048 i (M 0 1 - 1 - i) / 2 = 2 * (wT M 2048 i e + wT M 2048 i (M 0 1 - 1 - i) / 2) := by
        rw [h3]
        generalize 2 ^ d * z = y
        omega
      rw [h1, h2]
      exact h4
    · exact h1
/-- what is told of one stays when lesser ones are handed on -/
theorem wT_stay {M : Mt} {u k : Nat} (hk : k < M 0 1) : ∀ (i : Nat), M 0 1 - 1 - k ≤ i → i ≤ M 0 1 → wT M u i k = wT M u (M 0 1 - 1 - k) k := by
  intro i
  induction i with
  | zero => intro h _; have : M 0 1 - 1 - k = 0 := by omega
            rw [this]
  | succ i ih =>
    intro h1 h2
    by_cases hq : M 0 1 - 1 - k = i + 1
    · rw [hq]
    · rw [← ih (by omega) (by omega)]
      show (if _ then _ else _) = _
      rw [if_neg (fun q => by omega)]
def wN (M : Mt) (u e : Nat) : Nat := wT M u (M 0 1) e
theorem sm_rev (f : Nat → Nat) : ∀ (n : Nat), sm (fun m => f (n - 1 - m)) n = sm f n := by
  have sh : ∀ (n : Nat) (f : Nat → Nat), sm f (n + 1) = f 0 + sm (fun m => f (m + 1)) n := by
    intro n
    induction n with
    | zero => intro f; show 0 + f 0 = f 0 + 0; omega
    | succ n ih =>
      intro f
      show sm f (n + 1) + f (n + 1) = f 0 + (sm (fun m => f (m + 1)) n + f (n + 1))
      rw [ih f]; omega
  intro n
  induction n with
  | zero => rfl
  | succ n ih =>
    rw [sh n (fun m => f (n + 1 - 1 - m))]
    show f (n + 1 - 1 - 0) + sm (fun m => f (n + 1 - 1 - (m + 1))) n = sm f n + f n
    rw [show n + 1 - 1 - 0 = n by omega, ← ih, Nat.add_comm]
    congr 1
    exact sm_congr (fun k hk => by rw [show n + 1 - 1 - (k + 1) = n - 1 - k by omega])
theorem wN_eq {M : Mt} (hg : Good M) (u e : Nat) (he : e < M 0 1) : wN M u e = u + sm (fun k => if M 7 k = e then wN M u k / 2 else 0) (M 0 1) := by
  have key : ∀ i, i ≤ M 0 1 → wT M u i e = u + sm (fun m => if M 7 (M 0 1 - 1 - m) = e then wN M u (M 0 1 - 1 - m) / 2 else 0) i := by
    intro i
    induction i with
    | zero => intro _; rfl
    | succ i ih =>
      intro hi
      have hk : M 0 1 - 1 - i < M 0 1 := by omega
      have h1 := gEr hg hk
      have hE := gE hg
      have hst := wT_stay (u := u) hk (M 0 1) (by omega) (Nat.le_refl _)
      have hst2 := wT_stay (u := u) hk i (by omega) (by omega)
      have hw : wN M u (M 0 1 - 1 - i) = wT M u i (M 0 1 - 1 - i) := by unfold wN; rw [hst, hst2]
      show (if _ then _ else _) = u + (sm _ i + (if M 7 (M 0 1 - 1 - i) = e then wN M u (M 0 1 - 1 - i) / 2 else 0))
      rw [hw, ih (by omega)]
      by_cases hq : M 7 (M 0 1 - 1 - i) = e
      · by_cases hl : M 7 (M 0 1 - 1 - i) < M 0 1 - 1 - i
        · rw [if_pos ⟨hl, hq.symm⟩, if_pos hq]; omega
        · have h99 : M 7 (M 0 1 - 1 - i) = 99 := by omega
          rw [if_neg (fun q => hl q.1), if_pos hq]
          exact absurd hq (by omega)
      · rw [if_neg (fun q => hq q.2.symm), if_neg hq, Nat.add_zero]
  unfold wN
  rw [key (M 0 1) (Nat.le_refl _)]
  congr 1
  exact sm_rev (fun k => if M 7 k = e then wT M u (M 0 1) k / 2 else 0) (M 0 1)
theorem wN_le {M : Mt} (hg : Good M) {u : Nat} (hu : u ≤ 4096) (e : Nat) : wN M u e ≤ 16777216 := by
  have h1 := wT_le M u (M 0 1) e
  have h2 : 2 ^ M 0 1 ≤ 2 ^ 12 := Nat.pow_le_pow_right (by omega) (gE hg)
  have h3 : u * 2 ^ M 0 1 ≤ 4096 * 2 ^ 12 := Nat.mul_le_mul hu h2
  unfold wN
  omega
theorem wT_le2 {M : Mt} (hg : Good M) {i : Nat} (hi : i ≤ M 0 1) (e : Nat) : wT M 2048 i e ≤ 16777216 := by
  have h1 := wT_le M 2048 i e
  have hE := gE hg
  have h2 : 2 ^ i ≤ 2 ^ 12 := Nat.pow_le_pow_right (by omega) (by omega)
  have h3 : 2048 * 2 ^ i ≤ 2048 * 2 ^ 12 := Nat.mul_le_mul_left _ h2
  omega
/-! longs -/
theorem ll_lit (n : Nat) : (OfNat.ofNat n : Int64) = lN n := Eq.trans (b := Int64.ofNat n) rfl rfl
theorem lgc {a b : Nat} (ha : a < 2 ^ 63) (hb : b < 2 ^ 63) : (lg_cmp (lN a) (lN b) = nI 0) = (a = b) := by
  apply propext
  unfold lg_cmp
  by_cases h1 : lN a > lN b
  · rw [if_pos h1]
    have := (pk_lLT hb ha).mp h1
    constructor
    · intro h; exact absurd h (by decide +kernel)
    · intro h; omega
  · rw [if_neg h1]
    by_cases h2 : lN a = lN b
    · rw [if_pos h2]
      exact ⟨fun _ => (pk_lEQ ha hb).mp h2, fun _ => rfl⟩
    · rw [if_neg h2]
      constructor
      · intro h; exact absurd h (by decide +kernel)
      · intro h; exact absurd ((pk_lEQ ha hb).mpr h) h2
theorem lgc_le {a b : Nat} (ha : a < 2 ^ 63) (hb : b < 2 ^ 63) : (lg_cmp (lN a) (lN b) ≤ nI 0) = (a ≤ b) := by
  apply propext
  unfold lg_cmp
  by_cases h1 : lN a > lN b
  · rw [if_pos h1]
    have := (pk_lLT hb ha).mp h1
    constructor
    · intro h; exact absurd h (by decide +kernel)
    · intro h; omega
  · rw [if_neg h1]
    have h3 : ¬ b < a := fun q => h1 ((pk_lLT hb ha).mpr q)
    by_cases h2 : lN a = lN b
    · rw [if_pos h2]
      exact ⟨fun _ => by omega, fun _ => by decide +kernel⟩
    · rw [if_neg h2]
      exact ⟨fun _ => by omega, fun _ => by decide +kernel⟩
theorem gcd_s (x y : Nat) : Nat.gcd x y = Nat.gcd y (x % y) := by
  rw [Nat.gcd_comm x y, Nat.gcd_rec y x, Nat.gcd_comm]
section LG
variable {A : yM} {n : Nat}
theorem X12_gcd_ok (hn : 1 ≤ n) {a b : Nat} (ha : a < 2 ^ 63) (hb : b < 2 ^ 63) : ycall n 193 [.long (lN a), .long (lN b)] A = some (some (.long (lN (Nat.gcd a b))), A) := by
  obtain ⟨n, rfl⟩ := Nat.exists_eq_add_of_le' hn
  rw [en_X12_gcd]
  have lp : ∀ (y x : Nat), x < 2 ^ 63 → y < 2 ^ 63 → yb_X12_gcd (ycall n) (6, [none, none, none, none, some (.long (lN x)), none, some (.long (lN y)), none, none, none], [], A) = some (some (.long (lN (Nat.gcd x y))), A) := by
    intro y
    induction y using Nat.strongRecOn with
    | ind y ih =>
      intro x hx hy
      refine (bk_X12_gcd_6 ..).trans ?_
      by_cases h0 : y = 0
      · subst h0
        simp (disch := omega) only [l_lit, ll_lit, lgc, if_true]
        rw [Nat.gcd_zero_right]
      · have hlt : x % y < y := Nat.mod_lt _ (by omega)
        simp (disch := omega) only [l_lit, ll_lit, lgc, pk_lEQ, h0, if_false, pk_lRem]
        rw [ih (x % y) hlt y hy (by omega), ← gcd_s]
  exact lp b a ha hb
theorem X11_cd_ok (hn : 1 ≤ n) {a b : Nat} (ha : a < 2 ^ 62) (hb : b < 2 ^ 62) : ycall n 102 [.long (lN a), .long (lN b)] A = some (some (.long (lN (Nat.gcd a b))), A) := by
  obtain ⟨n, rfl⟩ := Nat.exists_eq_add_of_le' hn
  rw [en_X11_commonDivisor]
  have lp : ∀ (m i x y : Nat), y < x → x * y < 2 ^ m → i + m < 190 → x < 2 ^ 63 → yb_X11_commonDivisor (ycall n) (9, [none, none, none, none, some (.long (lN x)), none, some (.long (lN y)), none, some (.int (nI i)), none, none], [], A) = some (some (.long (lN (Nat.gcd x y))), A) := by
    intro m
    induction m with
    | zero =>
      intro i x y hyx hm hi hx
      have h0 : y = 0 := by
        by_cases h : y = 0
        · exact h
        · have : 1 * 1 ≤ x * y := Nat.mul_le_mul (by omega) (by omega)
          omega
      subst h0
      refine (bk_X11_commonDivisor_9 ..).trans ?_
      simp (disch := omega) only [l_lit, ll_lit, lgc, nI_leI, show ¬ 200 ≤ i by omega, if_true, if_false]
      rw [Nat.gcd_zero_right]
    | succ m ih =>
      intro i x y hyx hm hi hx
      refine (bk_X11_commonDivisor_9 ..).trans ?_
      by_cases h0 : y = 0
      · subst h0
        simp (disch := omega) only [l_lit, ll_lit, lgc, nI_leI, show ¬ 200 ≤ i by omega, if_true, if_false]
        rw [Nat.gcd_zero_right]
      · have hlt : x % y < y := Nat.mod_lt _ (by omega)
        have h2 : 2 * (x % y) ≤ x := by
          have h3 := Nat.div_add_mod x y
          have h4 : 1 ≤ x / y := (Nat.le_div_iff_mul_le (by omega)).mpr (by omega)
          have h5 : y * 1 ≤ y * (x / y) := Nat.mul_le_mul_left y h4
          omega
        have h6 : y * (x % y) < 2 ^ m := by
          have h7 : y * (2 * (x % y)) ≤ y * x := Nat.mul_le_mul_left y h2
          rw [Nat.mul_comm y x, Nat.mul_left_comm] at h7
          rw [Nat.pow_succ] at hm
          omega
        simp (disch := omega) only [l_lit, ll_lit, lgc, nI_leI, nI_add, pk_lEQ, h0, show ¬ 200 ≤ i by omega, if_false, pk_lRem]
        rw [ih (i + 1) y (x % y) hlt h6 (by omega) (by omega), ← gcd_s]
  by_cases h0 : b = 0
  · subst h0
    refine (bk_X11_commonDivisor_9 ..).trans ?_
    simp (disch := omega) only [l_lit, ll_lit, lgc, nI_leI, show ¬ 200 ≤ 0 by omega, if_true, if_false]
    rw [Nat.gcd_zero_right]
  · have hlt : a % b < b := Nat.mod_lt _ (by omega)
    have h1 : b * (a % b) < 2 ^ 124 := by
      have h2 : b * (a % b) ≤ b * b := Nat.mul_le_mul_left b (by omega)
      have h3 : b * b < 2 ^ 62 * 2 ^ 62 := Nat.mul_lt_mul_of_lt_of_le hb (by omega) (by omega)
      rw [← Nat.pow_add] at h3
      omega
    refine (bk_X11_commonDivisor_9 ..).trans ?_
    simp (disch := omega) only [l_lit, ll_lit, lgc, nI_leI, nI_add, pk_lEQ, h0, show ¬ 200 ≤ 0 by omega, if_false, pk_lRem]
    rw [lp 124 (0 + 1) b (a % b) hlt h1 (by omega) (by omega), ← gcd_s]
/-- a part of a fraction in least terms -/
def fpN (a b part : Nat) : Nat := if a = 0 then part else if part = 0 then a / Nat.gcd a b else b / Nat.gcd a b
theorem X11_pof_ok (hn : 2 ≤ n) {a b part : Nat} (ha : a < 2 ^ 62) (hb : b < 2 ^ 62) (hb0 : 0 < b) (hp : part < 2) : ycall n 101 [.long (lN a), .long (lN b), .int (nI part)] A = some (some (.long (lN (fpN a b part))), A) := by
  obtain ⟨n, rfl⟩ := Nat.exists_eq_add_of_le' hn
  have hg0 : 0 < Nat.gcd a b := Nat.gcd_pos_of_pos_right a hb0
  have hgb : Nat.gcd a b ≤ b := Nat.gcd_le_right a hb0
  have hg1 : ¬ Nat.gcd a b = 0 := by omega
  simp (disch := omega) only [en_X11_partOfFraction, X11_cd_ok, yl_b, l_lit, ll_lit, lgc, pk_lEQ, hg1, if_false, nI_eq, pk_lDiv]
  unfold fpN
  by_cases h0 : a = 0
  · subst h0
    rw [Nat.gcd_zero_left] at *
    have hd : b / b = 1 := Nat.div_self hb0
    have : part = 0 ∨ part = 1 := by omega
    rcases this with rfl | rfl
    · simp
    · simp [hd]
  · rw [if_neg h0]
    by_cases h1 : part = 0
    · simp [h1]
    · simp [h1]
theorem X12_po_ok (hn : 2 ≤ n) {a b part : Nat} (ha : a < 2 ^ 62) (hb : b < 2 ^ 62) (hab : a = 0 ∨ 0 < b) (hp : part < 2) : ycall n 194 [.long (lN a), .long (lN b), .int (nI part)] A = some (some (.long (lN (fpN a b part))), A) := by
  obtain ⟨n, rfl⟩ := Nat.exists_eq_add_of_le' hn
  unfold fpN
  by_cases h0 : a = 0
  · subst h0
    simp (disch := omega) only [en_X12_partOf, l_lit, ll_lit, lgc, if_true, nI_l]
  · have hg0 : 0 < Nat.gcd a b := Nat.gcd_pos_of_pos_left b (by omega)
    have hgb : Nat.gcd a b ≤ a := Nat.gcd_le_left b (by omega)
    have hg1 : ¬ Nat.gcd a b = 0 := by omega
    simp (disch := omega) only [en_X12_partOf, l_lit, ll_lit, lgc, h0, if_false, X12_gcd_ok, yl_b, pk_lEQ, hg1, nI_eq, pk_lDiv]
    by_cases h1 : part = 0
    · simp [h1]
    · simp [h1]
theorem fpN_two {a b part : Nat} : fpN (2 * a) (2 * b) part = fpN a b part := by
  unfold fpN
  by_cases h0 : a = 0
  · subst h0; rfl
  · rw [if_neg (by omega), if_neg h0, Nat.gcd_mul_left, Nat.mul_div_mul_left _ _ (by omega), Nat.mul_div_mul_left _ _ (by omega)]
theorem X11_isPart_ok (hn : 1 ≤ n) (x : Int32) : ycall n 99 [.int x] A = some (some (.int (bI (okI x 2))), A) := by
  obtain ⟨n, rfl⟩ := Nat.exists_eq_add_of_le' hn
  by_cases h : okI x 2 = true
  · obtain ⟨j, hj, rfl⟩ := okI_of (by omega) h
    have : j = 0 ∨ j = 1 := by omega
    rcases this with rfl | rfl
    · simp (disch := omega) only [en_X11_isPart, l_lit, nI_add, nI_mul, yi_b, yv_b, yl_b, if_true, if_false, or_true, true_or, or_false, false_or, and_true, true_and, and_false, false_and, not_true_eq_false, not_false_eq_true, Nat.reduceEqDiff, ↓reduceIte, nI_eq, nI_leI, nI_ltI, h, bI_t]
    · simp (disch := omega) only [en_X11_isPart, l_lit, nI_add, nI_mul, yi_b, yv_b, yl_b, if_true, if_false, or_true, true_or, or_false, false_or, and_true, true_and, and_false, false_and, not_true_eq_false, not_false_eq_true, Nat.reduceEqDiff, ↓reduceIte, nI_eq, nI_leI, nI_ltI, h, bI_t, Nat.one_ne_zero]
  · have h := okI_f h
    have hk := ok_cases (by omega) h
    simp (disch := omega) only [en_X11_isPart, l_lit, nI_add, nI_mul, yi_b, yv_b, yl_b, if_true, if_false, or_true, true_or, or_false, false_or, and_true, true_and, and_false, false_and, not_true_eq_false, not_false_eq_true, Nat.reduceEqDiff, ↓reduceIte, nI_eq, nI_leI, nI_ltI, h, bI_f, hk]
theorem asL : (1000000000 : Int64) - (-1 : Int32).toInt64 = 1000000001 := by decide +kernel
end LG
