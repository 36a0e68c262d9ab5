/-! MEANING: numbers, reads of memory, loops -/
abbrev yR : Type := Option Value × yM
theorem l_lit (n : Nat) : (OfNat.ofNat n : Int32) = nI n := Eq.trans (b := Int32.ofNat n) rfl rfl
theorem l_0 : (0 : Int32) = nI 0 := rfl
theorem l_1 : (1 : Int32) = nI 1 := rfl
theorem nI_sub {a b : Nat} (h : b ≤ a) : nI a - nI b = nI (a - b) := pk_sub h
theorem nI_mul (a b : Nat) : nI a * nI b = nI (a * b) := pk_mul a b
theorem nI_div {a d : Nat} (ha : a < 2 ^ 31) (h0 : 0 < d) (hd : d < 2 ^ 31) : nI a / nI d = nI (a / d) := pk_div ha h0 hd
theorem nI_min (a b : Nat) (ha : a < 2 ^ 31) (hb : b < 2 ^ 31) : (if nI b < nI a then nI b else nI a) = nI (min a b) := by
  simp only [nI_ltI hb ha]
  split
  · rw [Nat.min_eq_right (by omega)]
  · rw [Nat.min_eq_left (by omega)]
theorem nI_max (a b : Nat) (ha : a < 2 ^ 31) (hb : b < 2 ^ 31) : (if nI a < nI b then nI b else nI a) = nI (max a b) := by
  simp only [nI_ltI ha hb]
  split
  · rw [Nat.max_eq_right (by omega)]
  · rw [Nat.max_eq_left (by omega)]
theorem nI_minN (a b : Nat) : (if b < a then nI b else nI a) = nI (min a b) := by
  split
  · rw [Nat.min_eq_right (by omega)]
  · rw [Nat.min_eq_left (by omega)]
theorem nI_maxN (a b : Nat) : (if a < b then nI b else nI a) = nI (max a b) := by
  split
  · rw [Nat.max_eq_right (by omega)]
  · rw [Nat.max_eq_left (by omega)]
/-- how far apart -/
def ds (a b : Nat) : Nat := (a - b) + (b - a)
theorem nI_abs {a b : Nat} (ha : a < 2 ^ 30) (hb : b < 2 ^ 30) : (if nI 0 ≤ nI a - nI b then nI a - nI b else nI 0 - (nI a - nI b)) = nI (ds a b) := by
  by_cases h : b ≤ a
  · rw [nI_sub h, if_pos (nI_le (Nat.zero_le _) (by omega))]
    congr 1
    unfold ds
    omega
  · have h2 : nI a - nI b < 0 := pk_sneg hb (by omega)
    rw [if_neg (by
      intro q
      rw [← l_0] at q
      exact absurd h2 (Int32.not_lt.mpr q))]
    have : nI 0 - (nI a - nI b) = nI b - nI a := by
      rw [show nI 0 = 0 from rfl, Int32.sub_eq_add_neg, Int32.zero_add, Int32.neg_sub]
    rw [this, nI_sub (by omega)]
    congr 1
    unfold ds
    omega
theorem yi_b {σ : Type} {v : Int32} {A : yM} {F : Int32 × yM → Option σ} : (yi (some (some (.int v), A))).bind F = F (v, A) := rfl
theorem yl_b {σ : Type} {v : Int64} {A : yM} {F : Int64 × yM → Option σ} : (yl (some (some (.long v), A))).bind F = F (v, A) := rfl
theorem yv_b {σ : Type} {A : yM} {F : yM → Option σ} : (yv (some (none, A))).bind F = F A := rfl
theorem for_up {α : Type} (X : Nat → α) (N : Nat) (h : ∀ k, k < N → X k = X (k + 1)) : X 0 = X N := by
  induction N with
  | zero => rfl
  | succ N ih => rw [ih (fun k hk => h k (by omega)), h N (by omega)]
/-- the first of k, k + 1 .. (j of them) with P -/
def ff (P : Nat → Bool) : Nat → Nat → Option Nat
  | _, 0 => none
  | k, j + 1 => if P k = true then some k else ff P (k + 1) j
/-- the first below N with P -/
abbrev fst (P : Nat → Bool) (N : Nat) : Option Nat := ff P 0 N
theorem for_retA {α : Type} (X R : Nat → α) (P : Nat → Bool) : ∀ (j k : Nat), (∀ i, k ≤ i → i < k + j → X i = if P i = true then R i else X (i + 1)) → X k = (match ff P k j with | some i => R i | none => X (k + j)) := by
  intro j
  induction j with
  | zero => intro k h; rfl
  | succ j ih =>
    intro k h
    rw [h k (Nat.le_refl k) (by omega)]
    unfold ff
    by_cases hp : P k = true
    · rw [if_pos hp, if_pos hp]
    · rw [if_neg hp, if_neg hp, ih (k + 1) (fun i h1 h2 => h i (by omega) (by omega)), show k + 1 + j = k + (j + 1) by omega]
theorem for_ret {α : Type} (X R : Nat → α) (P : Nat → Bool) (N : Nat) (h : ∀ i, i < N → X i = if P i = true then R i else X (i + 1)) : X 0 = (match fst P N with | some i => R i | none => X N) := by
  have := for_retA X R P N 0 (fun i _ h2 => h i (by omega))
  rw [Nat.zero_add] at this
  exact this
theorem ff_congr {P Q : Nat → Bool} : ∀ (j k : Nat), (∀ i, k ≤ i → i < k + j → P i = Q i) → ff P k j = ff Q k j := by
  intro j
  induction j with
  | zero => intro k _; rfl
  | succ j ih =>
    intro k h
    unfold ff
    rw [h k (Nat.le_refl k) (by omega), ih (k + 1) (fun i h1 h2 => h i (by omega) (by omega))]
theorem fst_congr {P Q : Nat → Bool} {N : Nat} (h : ∀ i, i < N → P i = Q i) : fst P N = fst Q N := ff_congr N 0 (fun i _ h2 => h i (by omega))
theorem ff_some {P : Nat → Bool} : ∀ (j k i : Nat), ff P k j = some i → k ≤ i ∧ i < k + j ∧ P i = true := by
  intro j
  induction j with
  | zero => intro k i h; cases h
  | succ j ih =>
    intro k i h
    unfold ff at h
    split at h
    · rename_i hp; cases h; exact ⟨Nat.le_refl k, by omega, hp⟩
    · obtain ⟨a, b, c⟩ := ih _ _ h
      exact ⟨by omega, by omega, c⟩
theorem fst_some {P : Nat → Bool} {N i : Nat} (h : fst P N = some i) : i < N ∧ P i = true := by
  obtain ⟨-, b, c⟩ := ff_some N 0 i h
  exact ⟨by omega, c⟩
/-- f at 0, 1 .. below n, one after the other -/
def fo {α : Type} (f : Nat → α → α) (a : α) : Nat → α
  | 0 => a
  | n + 1 => f n (fo f a n)
theorem fo_congr {α : Type} {f g : Nat → α → α} {a : α} : ∀ {n : Nat}, (∀ k x, k < n → f k x = g k x) → fo f a n = fo g a n := by
  intro n
  induction n with
  | zero => intro _; rfl
  | succ n ih =>
    intro h
    show f n (fo f a n) = g n (fo g a n)
    rw [ih (fun k x hk => h k x (by omega)), h n _ (by omega)]
theorem fo_inv {α : Type} {f : Nat → α → α} {a : α} (P : α → Prop) (h0 : P a) : ∀ {n : Nat}, (∀ k x, k < n → P x → P (f k x)) → P (fo f a n) := by
  intro n
  induction n with
  | zero => intro _; exact h0
  | succ n ih => intro h; exact h n _ (by omega) (ih (fun k x hk => h k x (by omega)))
/-- sums -/
abbrev sm (f : Nat → Nat) (n : Nat) : Nat := fo (fun k s => s + f k) 0 n
theorem sm_le {f : Nat → Nat} {c : Nat} : ∀ {n : Nat}, (∀ k, k < n → f k ≤ c) → sm f n ≤ n * c := by
  intro n
  induction n with
  | zero => intro _; exact Nat.zero_le _
  | succ n ih =>
    intro h
    have h1 := ih (fun k hk => h k (by omega))
    have h2 := h n (by omega)
    show sm f n + f n ≤ (n + 1) * c
    rw [Nat.succ_mul]
    omega
theorem sm_congr {f g : Nat → Nat} {n : Nat} (h : ∀ k, k < n → f k = g k) : sm f n = sm g n := fo_congr (fun k x hk => by rw [h k hk])
/-! where things lie -/
def isB (b : Nat) : Prop := b = 2 ∨ b = 21 ∨ b = 40
section RD
variable {A : yM} {b k : Nat}
theorem cgI (hb : isB b) {K : Int32 → Option yR} (hk : k = 1 ∨ k = 4 ∨ k = 5 ∨ k = 11 ∨ k = 12) : ygI A b 0 k K = K (A b k) := by
  rcases hb with rfl | rfl | rfl <;> rcases hk with rfl | rfl | rfl | rfl | rfl <;> rfl
theorem cpI (hb : isB b) {v : Int32} {K : yM → Option yR} (hk : k = 1 ∨ k = 4 ∨ k = 5 ∨ k = 11 ∨ k = 12) : ypI A b 0 k v K = K (yup A b k v) := by
  rcases hb with rfl | rfl | rfl <;> rcases hk with rfl | rfl | rfl | rfl | rfl <;> rfl
theorem cR (hb : isB b) : (∀ (A : yM) (K : Nat → Option yR), ygR A b 0 0 K = K (b + 1)) ∧ (∀ (A : yM) (K : Nat → Option yR), ygR A b 0 2 K = K (b + 10)) ∧ (∀ (A : yM) (K : Nat → Option yR), ygR A b 0 3 K = K (b + 11)) ∧ (∀ (A : yM) (K : Nat → Option yR), ygR A b 0 6 K = K (b + 12)) ∧ (∀ (A : yM) (K : Nat → Option yR), ygR A b 0 7 K = K (b + 13)) ∧ (∀ (A : yM) (K : Nat → Option yR), ygR A b 0 8 K = K (b + 14)) ∧ (∀ (A : yM) (K : Nat → Option yR), ygR A b 0 9 K = K (b + 15)) ∧ (∀ (A : yM) (K : Nat → Option yR), ygR A b 0 10 K = K (b + 16)) ∧ (∀ (A : yM) (K : Nat → Option yR), ygR A b 0 13 K = K (b + 17)) ∧ (∀ (A : yM) (K : Nat → Option yR), ygR A b 0 14 K = K (b + 18)) := by
  rcases hb with rfl | rfl | rfl <;> exact ⟨fun _ _ => rfl, fun _ _ => rfl, fun _ _ => rfl, fun _ _ => rfl, fun _ _ => rfl, fun _ _ => rfl, fun _ _ => rfl, fun _ _ => rfl, fun _ _ => rfl, fun _ _ => rfl⟩
theorem yln12 (hb : isB b) {j : Nat} (hj : 12 ≤ j ∧ j ≤ 16) : yln A (b + j) = some 12 := by
  obtain ⟨h1, h2⟩ := hj
  have : j = 12 ∨ j = 13 ∨ j = 14 ∨ j = 15 ∨ j = 16 := by omega
  rcases hb with rfl | rfl | rfl <;> rcases this with rfl | rfl | rfl | rfl | rfl <;> rfl
theorem yln6 (hb : isB b) {j : Nat} (hj : j = 10 ∨ j = 11 ∨ j = 17 ∨ j = 18) : yln A (b + j) = some 6 := by
  rcases hb with rfl | rfl | rfl <;> rcases hj with rfl | rfl | rfl | rfl <;> rfl
theorem yrd_at0 {a n : Nat} {K : Int32 → Option yR} (hn : yla A a = some n) (hn2 : n < 2 ^ 31) (hk : k < n) : yrd A a (nI k) K = K (A a k) := by
  unfold yrd
  rw [hn]
  dsimp only
  rw [if_neg (nI_in hk hn2), nI_clamp (by omega)]
theorem yrd_at {a n : Nat} {K : Int32 → Option yR} (hn : yln A a = some n) (hn2 : n < 2 ^ 31) (hk : k < n) : yrd A a (nI k) K = K (A a k) := yrd_at0 (yla_of hn) hn2 hk
theorem ywr_at {a n : Nat} {v : Int32} {K : yM → Option yR} (hn : yln A a = some n) (hn2 : n < 2 ^ 31) (hk : k < n) : ywr A a (nI k) v K = K (yup A a k v) := by
  unfold ywr
  rw [hn]
  dsimp only
  rw [if_neg (nI_in hk hn2), nI_clamp (by omega)]
theorem cD12 (hb : isB b) {j : Nat} {K : Int32 → Option yR} (hj : 12 ≤ j ∧ j ≤ 16) (hk : k < 12) : yrd A (b + j) (nI k) K = K (A (b + j) k) := yrd_at (yln12 hb hj) (by omega) hk
theorem cD6 (hb : isB b) {j : Nat} {K : Int32 → Option yR} (hj : j = 10 ∨ j = 11 ∨ j = 17 ∨ j = 18) (hk : k < 6) : yrd A (b + j) (nI k) K = K (A (b + j) k) := yrd_at (yln6 hb hj) (by omega) hk
theorem cW12 (hb : isB b) {j : Nat} {v : Int32} {K : yM → Option yR} (hj : 12 ≤ j ∧ j ≤ 16) (hk : k < 12) : ywr A (b + j) (nI k) v K = K (yup A (b + j) k v) := ywr_at (yln12 hb hj) (by omega) hk
theorem cW6 (hb : isB b) {j : Nat} {v : Int32} {K : yM → Option yR} (hj : j = 10 ∨ j = 11 ∨ j = 17 ∨ j = 18) (hk : k < 6) : ywr A (b + j) (nI k) v K = K (yup A (b + j) k v) := ywr_at (yln6 hb hj) (by omega) hk
theorem cV (hb : isB b) {m : Nat} {C : yC} {as : List Value} : yvt [(0, m)] C (.ref b :: as) A = C m (.ref b :: as) A := by
  rcases hb with rfl | rfl | rfl <;> rfl
theorem cK (hb : isB b) {K : Nat → Option yR} (hk : k < 8) : yrR A (b + 1) (nI k) K = K (b + 2 + k) := by
  have h1 : yrw A (b + 1) = some (8, fun i => if i < 8 then some (b + 2 + i) else none) := by rcases hb with rfl | rfl | rfl <;> rfl
  unfold yrR
  rw [h1]
  dsimp only
  rw [if_neg (nI_in hk (by omega)), nI_clamp (by omega), if_pos hk]
theorem qD {q : Nat} {K : Int32 → Option yR} (hq : 80 ≤ q ∧ q ≤ 83) (hk : k < 81) : yrd A q (nI k) K = K (A q k) := by
  have : q = 80 ∨ q = 81 ∨ q = 82 ∨ q = 83 := by omega
  exact yrd_at (n := 81) (by rcases this with rfl | rfl | rfl | rfl <;> rfl) (by omega) hk
theorem qW {q : Nat} {v : Int32} {K : yM → Option yR} (hq : 80 ≤ q ∧ q ≤ 83) (hk : k < 81) : ywr A q (nI k) v K = K (yup A q k v) := by
  have : q = 80 ∨ q = 81 ∨ q = 82 ∨ q = 83 := by omega
  exact ywr_at (n := 81) (by rcases this with rfl | rfl | rfl | rfl <;> rfl) (by omega) hk
theorem mV {m : Nat} {C : yC} {as : List Value} : yvt [(11, m)] C (.ref 79 :: as) A = C m (.ref 79 :: as) A := rfl
end RD
/-! the state of a college: numbers of STUDENTS, ERRORS, WEEK; KIND, FIGURE, IN; by, TOPIC, SIZE, CITING, CORRECTED -/
abbrev Mt : Type := Nat → Nat → Nat
def bts (f : Nat → Nat) (n : Nat) : Nat := sm (fun k => f k * 2 ^ k) n
def citN (M : Mt) (e : Nat) : Nat := sm (fun k => if M 7 k = e then 1 else 0) (M 0 1)
def Good (M : Mt) : Prop := M 0 0 ≤ 6 ∧ M 0 1 ≤ 12 ∧ M 0 2 < 5000 ∧ (∀ p, p < M 0 0 → M 1 p < 8 ∧ M 2 p < 10 ∧ M 3 p < 2) ∧ (∀ e, e < M 0 1 → M 4 e < M 0 0 ∧ M 5 e < 6 ∧ M 6 e < 100 ∧ (M 7 e = 99 ∨ M 7 e < e) ∧ M 8 e < 2)
def Col (A : yM) (b : Nat) (M : Mt) : Prop := isB b ∧ A b 1 = nI (M 0 0) ∧ A b 5 = nI (M 0 1) ∧ A b 12 = nI (M 0 2) ∧ A b 4 = nI (bts (M 3) (M 0 0)) ∧ A b 11 = nI (bts (M 8) (M 0 1)) ∧ (∀ p, p < M 0 0 → A (b + 10) p = nI (M 1 p) ∧ A (b + 11) p = nI (M 2 p)) ∧ (∀ e, e < M 0 1 → A (b + 12) e = nI (M 4 e) ∧ A (b + 13) e = nI (M 5 e) ∧ A (b + 14) e = nI (M 6 e) ∧ A (b + 15) e = nI (M 7 e) ∧ A (b + 16) e = nI (citN M e))
def Row (A : yM) (q : Nat) (M : Mt) : Prop := (80 ≤ q ∧ q ≤ 83) ∧ A q 0 = nI (M 0 0) ∧ A q 1 = nI (M 0 1) ∧ A q 2 = nI (M 0 2) ∧ (∀ p, p < M 0 0 → A q (3 + 3 * p) = nI (M 1 p) ∧ A q (3 + 3 * p + 1) = nI (M 2 p) ∧ A q (3 + 3 * p + 2) = nI (M 3 p)) ∧ (∀ e, e < M 0 1 → A q (21 + 5 * e) = nI (M 4 e) ∧ A q (21 + 5 * e + 1) = nI (M 5 e) ∧ A q (21 + 5 * e + 2) = nI (M 6 e) ∧ A q (21 + 5 * e + 3) = nI (M 7 e) ∧ A q (21 + 5 * e + 4) = nI (M 8 e))
theorem bts_lt {f : Nat → Nat} : ∀ {n : Nat}, (∀ k, k < n → f k < 2) → bts f n < 2 ^ n := by
  intro n
  induction n with
  | zero => intro _; exact Nat.one_pos
  | succ n ih =>
    intro h
    have h1 := ih (fun k hk => h k (by omega))
    have h2 := h n (by omega)
    show bts f n + f n * 2 ^ n < 2 ^ (n + 1)
    rw [Nat.pow_succ]
    have : f n * 2 ^ n ≤ 1 * 2 ^ n := Nat.mul_le_mul_right _ (by omega)
    omega
theorem bts_bit {f : Nat → Nat} : ∀ {n k : Nat}, (∀ k, k < n → f k < 2) → k < n → bts f n / 2 ^ k % 2 = f k := by
  intro n
  induction n with
  | zero => intro k _ h; omega
  | succ n ih =>
    intro k h hk
    show (bts f n + f n * 2 ^ n) / 2 ^ k % 2 = f k
    by_cases hkn : k = n
    · subst hkn
      have h1 := bts_lt (f := f) (n := k) (fun i hi => h i (by omega))
      have h2 := h k (by omega)
      rw [Nat.add_mul_div_right _ _ (Nat.two_pow_pos k), Nat.div_eq_of_lt h1]
      omega
    · have h1 : k < n := by omega
      obtain ⟨d, hd⟩ : ∃ d, n = k + (d + 1) := ⟨n - k - 1, by omega⟩
      have e : f n * 2 ^ n = (f n * 2 ^ d * 2) * 2 ^ k := by
        rw [hd, Nat.pow_add, Nat.pow_succ]
        simp only [Nat.mul_assoc, Nat.mul_comm, Nat.mul_left_comm]
      rw [e, Nat.add_mul_div_right _ _ (Nat.two_pow_pos k), Nat.add_mul_mod_self_right]
      exact ih (fun i hi => h i (by omega)) h1
theorem nI_bit {x k : Nat} (hx : x < 2 ^ 31) (hk : k < 31) : (nI x >>> (nI k &&& nI 31)) &&& nI 1 = nI (x / 2 ^ k % 2) := by
  rw [pk_shrN hx _ k (by
    exact (by decide +kernel : ∀ k, k < 31 → ((nI k &&& nI 31).toBitVec.smod 32).toNat = k) k hk)]
  exact pk_andN (n := x / 2 ^ k) (by
    have := Nat.div_le_self x (2 ^ k)
    omega) (m := 1) 1 (by decide)
theorem nI_bitat {k : Nat} (hk : k < 31) : nI 1 <<< (nI k &&& nI 31) = nI (2 ^ k) := by
  exact (by decide +kernel : ∀ k, k < 31 → nI 1 <<< (nI k &&& nI 31) = nI (2 ^ k)) k hk
theorem nI_or (a b : Nat) : nI a ||| nI b = nI (a ||| b) := by
  apply Int32.toBitVec_inj.1
  show BitVec.ofNat 32 a ||| BitVec.ofNat 32 b = BitVec.ofNat 32 (a ||| b)
  apply BitVec.eq_of_getLsbD_eq
  intro i hi
  simp [hi]
theorem nI_orbit {x k : Nat} (hk : k < 31) (hx : x < 2 ^ k) : nI x ||| (nI 1 <<< (nI k &&& nI 31)) = nI (x + 2 ^ k) := by
  rw [nI_bitat hk, nI_or]
  congr 1
  have h1 := Nat.two_pow_add_eq_or_of_lt hx 1
  rw [Nat.mul_one] at h1
  rw [Nat.add_comm, h1, Nat.or_comm]
