/-! the odds that enough is left of him: ways counted by one after the other, and by sets -/
def pd (f : Nat → Nat) : Nat → Nat
  | 0 => 1
  | k + 1 => pd f k * f k
def odH (h : Nat → Nat) (t y i : Nat) : Nat := if h i = 1 then (if y / 2 ^ i % 2 = 0 then t - 1 else 1) else 1
def odM (h m : Nat → Nat) (y i : Nat) : Nat := if h i = 1 ∧ y / 2 ^ i % 2 = 0 then m i else 0
def odF (h m : Nat → Nat) (t v E y : Nat) : Nat := if sm (odM h m y) E < v then 0 else pd (odH h t y) E
def odG (h m : Nat → Nat) (t v E y : Nat) : Nat := if y &&& bts h E = y then odF h m t v E y else 0
def rl (t : Nat) : Nat → (Nat → Nat) → (Nat → Nat) → Nat → Nat
  | 0, _, _, l => if l = 0 then 1 else 0
  | j + 1, h, m, l => if h 0 = 1 then (t - 1) * rl t j (fun i => h (i + 1)) (fun i => m (i + 1)) (l - m 0) + rl t j (fun i => h (i + 1)) (fun i => m (i + 1)) l else rl t j (fun i => h (i + 1)) (fun i => m (i + 1)) l
theorem sm_1 {f : Nat → Nat} : ∀ n, sm f (n + 1) = f 0 + sm (fun i => f (i + 1)) n := by
  intro n
  induction n with
  | zero => show 0 + f 0 = f 0 + 0; omega
  | succ n ih =>
    show sm f (n + 1) + f (n + 1) = f 0 + (sm (fun i => f (i + 1)) n + f (n + 1))
    rw [ih]; omega
theorem pd_1 {f : Nat → Nat} : ∀ n, pd f (n + 1) = f 0 * pd (fun i => f (i + 1)) n := by
  intro n
  induction n with
  | zero => show 1 * f 0 = f 0 * 1; omega
  | succ n ih =>
    show pd f (n + 1) * f (n + 1) = f 0 * (pd (fun i => f (i + 1)) n * f (n + 1))
    rw [ih, Nat.mul_assoc]
theorem pd_congr {f g : Nat → Nat} : ∀ {n : Nat}, (∀ k, k < n → f k = g k) → pd f n = pd g n := by
  intro n
  induction n with
  | zero => intro _; rfl
  | succ n ih =>
    intro h
    show pd f n * f n = pd g n * g n
    rw [ih (fun k hk => h k (by omega)), h n (by omega)]
theorem sm_two {f : Nat → Nat} : ∀ n, sm f (2 * n) = sm (fun k => f (2 * k) + f (2 * k + 1)) n := by
  intro n
  induction n with
  | zero => rfl
  | succ n ih =>
    show sm f (2 * n + 1 + 1) = sm (fun k => f (2 * k) + f (2 * k + 1)) n + (f (2 * n) + f (2 * n + 1))
    rw [← ih]
    show sm f (2 * n) + f (2 * n) + f (2 * n + 1) = _
    omega
theorem sm_add {f g : Nat → Nat} : ∀ n, sm (fun k => f k + g k) n = sm f n + sm g n := by
  intro n
  induction n with
  | zero => rfl
  | succ n ih =>
    show sm (fun k => f k + g k) n + (f n + g n) = sm f n + f n + (sm g n + g n)
    rw [ih]; omega
theorem sm_mul {f : Nat → Nat} {a : Nat} : ∀ n, sm (fun k => a * f k) n = a * sm f n := by
  intro n
  induction n with
  | zero => rfl
  | succ n ih =>
    show sm (fun k => a * f k) n + a * f n = a * (sm f n + f n)
    rw [ih, Nat.mul_add]
theorem bts_1 {f : Nat → Nat} (n : Nat) : bts f (n + 1) = 2 * bts (fun i => f (i + 1)) n + f 0 := by
  unfold bts
  rw [sm_1, ← sm_mul]
  have : sm (fun i => f (i + 1) * 2 ^ (i + 1)) n = sm (fun k => 2 * (f (k + 1) * 2 ^ k)) n := sm_congr (fun k _ => by
    rw [Nat.pow_succ, Nat.mul_comm (2 ^ k) 2, Nat.mul_left_comm])
  rw [this]
  simp
  omega
theorem and_dm (a b c d : Nat) (hb : b < 2) (hd : d < 2) : (2 * a + b) &&& (2 * c + d) = 2 * (a &&& c) + (b &&& d) := by
  have hbd : b &&& d < 2 := Nat.lt_of_le_of_lt Nat.and_le_left hb
  refine Nat.eq_of_testBit_eq (fun i => ?_)
  cases i with
  | zero =>
    rw [Nat.testBit_and, Nat.testBit_zero, Nat.testBit_zero, Nat.testBit_zero]
    have e1 : (2 * a + b) % 2 = b := by omega
    have e2 : (2 * c + d) % 2 = d := by omega
    have e3 : (2 * (a &&& c) + (b &&& d)) % 2 = b &&& d := by omega
    rw [e1, e2, e3]
    have hb2 : b = 0 ∨ b = 1 := by omega
    have hd2 : d = 0 ∨ d = 1 := by omega
    rcases hb2 with rfl | rfl <;> rcases hd2 with rfl | rfl <;> rfl
  | succ i =>
    rw [Nat.testBit_and, Nat.testBit_succ, Nat.testBit_succ, Nat.testBit_succ]
    have e1 : (2 * a + b) / 2 = a := by omega
    have e2 : (2 * c + d) / 2 = c := by omega
    have e3 : (2 * (a &&& c) + (b &&& d)) / 2 = a &&& c := by omega
    rw [e1, e2, e3, Nat.testBit_and]
theorem rl_sets {t : Nat} : ∀ (E : Nat) (h m : Nat → Nat) (v : Nat), (∀ i, i < E → h i < 2) → sm (odG h m t v E) (2 ^ E) = rl t E h m v := by
  intro E
  induction E with
  | zero =>
    intro h m v _
    show 0 + odG h m t v 0 0 = _
    unfold odG odF
    show 0 + (if 0 &&& 0 = 0 then (if 0 < v then 0 else 1) else 0) = (if v = 0 then 1 else 0)
    by_cases hv : v = 0
    · subst hv; simp
    · simp [hv, show 0 < v by omega]
  | succ j ih =>
    intro h m v hh
    have h0 := hh 0 (by omega)
    have hb := bts_1 (f := h) j
    have i1 := ih (fun i => h (i + 1)) (fun i => m (i + 1)) v (fun i hi => hh (i + 1) (by omega))
    have i2 := ih (fun i => h (i + 1)) (fun i => m (i + 1)) (v - m 0) (fun i hi => hh (i + 1) (by omega))
    have bit : ∀ y b i, b < 2 → (2 * y + b) / 2 ^ (i + 1) % 2 = y / 2 ^ i % 2 := fun y b i hb => by
      rw [Nat.pow_succ', ← Nat.div_div_eq_div_mul]
      rw [show (2 * y + b) / 2 = y by omega]
    have b0 : ∀ y b, b < 2 → (2 * y + b) / 2 ^ 0 % 2 = b := fun y b hb => by rw [Nat.pow_zero, Nat.div_one]; omega
    have hM : ∀ y b, b < 2 → sm (odM h m (2 * y + b)) (j + 1) = (if h 0 = 1 ∧ b = 0 then m 0 else 0) + sm (odM (fun i => h (i + 1)) (fun i => m (i + 1)) y) j := fun y b hb => by
      rw [sm_1]
      have e1 : odM h m (2 * y + b) 0 = (if h 0 = 1 ∧ b = 0 then m 0 else 0) := by unfold odM; rw [b0 _ _ hb]
      rw [e1]
      congr 1
      refine sm_congr (fun k _ => ?_)
      unfold odM; rw [bit _ _ _ hb]
    have hP : ∀ y b, b < 2 → pd (odH h t (2 * y + b)) (j + 1) = (if h 0 = 1 then (if b = 0 then t - 1 else 1) else 1) * pd (odH (fun i => h (i + 1)) t y) j := fun y b hb => by
      rw [pd_1]
      have e1 : odH h t (2 * y + b) 0 = (if h 0 = 1 then (if b = 0 then t - 1 else 1) else 1) := by unfold odH; rw [b0 _ _ hb]
      rw [e1]
      congr 1
      refine pd_congr (fun k _ => ?_)
      unfold odH; rw [bit _ _ _ hb]
    rw [show 2 ^ (j + 1) = 2 * 2 ^ j by rw [Nat.pow_succ, Nat.mul_comm], sm_two]
    show _ = (if h 0 = 1 then _ else _)
    rw [← i1, ← i2]
    have hs : ∀ y b, b < 2 → ((2 * y + b) &&& bts h (j + 1) = 2 * y + b) = (y &&& bts (fun i => h (i + 1)) j = y ∧ (b = 1 → h 0 = 1)) := fun y b hb1 => by
      rw [hb, and_dm _ _ _ _ hb1 h0]
      have hbh : b &&& h 0 = if b = 1 ∧ h 0 = 1 then 1 else 0 := by
        have q1 : b = 0 ∨ b = 1 := by omega
        have q2 : h 0 = 0 ∨ h 0 = 1 := by omega
        rcases q1 with rfl | rfl <;> rcases q2 with q | q <;> rw [q] <;> rfl
      rw [hbh]
      apply propext
      constructor
      · intro q
        split at q
        · exact ⟨by omega, fun _ => by omega⟩
        · exact ⟨by omega, fun _ => by omega⟩
      · intro ⟨q1, q2⟩
        rw [q1]
        by_cases q3 : b = 1
        · rw [if_pos ⟨q3, q2 q3⟩]; omega
        · rw [if_neg (fun z => q3 z.1)]; omega
    by_cases hz : h 0 = 1
    · rw [if_pos hz, ← sm_mul, ← sm_add]
      refine sm_congr (fun y _ => ?_)
      unfold odG odF
      have s0 := hs y 0 (by omega)
      rw [Nat.add_zero] at s0
      have m0 := hM y 0 (by omega)
      have p0 := hP y 0 (by omega)
      rw [Nat.add_zero] at m0 p0
      have s1 := hs y 1 (by omega)
      have m1 := hM y 1 (by omega)
      have p1 := hP y 1 (by omega)
      simp only [s0, s1, m0, p0, m1, p1, hz, and_self, true_and, if_true, implies_true, and_true, Nat.one_ne_zero, if_false, and_false, Nat.zero_add, Nat.one_mul, Nat.zero_ne_one, false_implies]
      by_cases q : y &&& bts (fun i => h (i + 1)) j = y
      · simp only [q, if_true]
        congr 1
        by_cases q1 : m 0 + sm (odM (fun i => h (i + 1)) (fun i => m (i + 1)) y) j < v
        · rw [if_pos q1, if_pos (by omega), Nat.mul_zero]
        · rw [if_neg q1]
          by_cases q2 : sm (odM (fun i => h (i + 1)) (fun i => m (i + 1)) y) j < v - m 0
          · exact absurd q2 (by omega)
          · rw [if_neg q2]
      · simp only [q, if_false, Nat.mul_zero]
    · rw [if_neg hz]
      refine sm_congr (fun y _ => ?_)
      unfold odG odF
      have s0 := hs y 0 (by omega)
      rw [Nat.add_zero] at s0
      have m0 := hM y 0 (by omega)
      have p0 := hP y 0 (by omega)
      rw [Nat.add_zero] at m0 p0
      have s1 := hs y 1 (by omega)
      simp only [s0, s1, m0, p0, hz, false_and, if_false, implies_true, and_true, Nat.zero_add, Nat.one_mul, Nat.zero_ne_one, false_implies, forall_const, and_false, Nat.add_zero, imp_false, not_true_eq_false, not_false_eq_true]
/-- the marks of those that are his, one behind the other -/
def cl (h m : Nat → Nat) : Nat → List Nat
  | 0 => []
  | e + 1 => if h e = 1 then cl h m e ++ [m e] else cl h m e
def wy (t : Nat) : List Nat → Nat → Nat
  | [], l => if l = 0 then 1 else 0
  | m :: ms, l => (t - 1) * wy t ms (l - m) + wy t ms l
theorem cl_cons {h m : Nat → Nat} : ∀ j, cl h m (j + 1) = if h 0 = 1 then m 0 :: cl (fun i => h (i + 1)) (fun i => m (i + 1)) j else cl (fun i => h (i + 1)) (fun i => m (i + 1)) j := by
  intro j
  induction j with
  | zero => rfl
  | succ j ih =>
    show (if h (j + 1) = 1 then cl h m (j + 1) ++ [m (j + 1)] else cl h m (j + 1)) = _
    rw [ih]
    show _ = (if h 0 = 1 then m 0 :: (if h (j + 1) = 1 then _ else _) else (if h (j + 1) = 1 then _ else _))
    by_cases q : h (j + 1) = 1
    · rw [if_pos q, if_pos q]
      by_cases q2 : h 0 = 1
      · rw [if_pos q2, if_pos q2]; rfl
      · rw [if_neg q2, if_neg q2]
    · rw [if_neg q, if_neg q]
theorem rl_wy {t : Nat} : ∀ (j : Nat) (h m : Nat → Nat) (l : Nat), rl t j h m l = wy t (cl h m j) l := by
  intro j
  induction j with
  | zero => intro h m l; rfl
  | succ j ih =>
    intro h m l
    rw [cl_cons]
    show (if h 0 = 1 then _ else _) = _
    rw [ih, ih]
    by_cases q : h 0 = 1
    · rw [if_pos q, if_pos q]; rfl
    · rw [if_neg q, if_neg q]
theorem wy_0 {t : Nat} (ht : 1 ≤ t) : ∀ ms : List Nat, wy t ms 0 = t ^ ms.length := by
  intro ms
  induction ms with
  | nil => rfl
  | cons m ms ih =>
    show (t - 1) * wy t ms (0 - m) + wy t ms 0 = t ^ (ms.length + 1)
    rw [Nat.zero_sub, ih, Nat.pow_succ]
    obtain ⟨u, rfl⟩ := Nat.exists_eq_add_of_le' ht
    rw [Nat.add_sub_cancel, Nat.mul_comm u, Nat.mul_add, Nat.mul_one]
theorem wy_le {t : Nat} (ht : 1 ≤ t) : ∀ (ms : List Nat) (l : Nat), wy t ms l ≤ t ^ ms.length := by
  intro ms
  induction ms with
  | nil => intro l; show (if l = 0 then 1 else 0) ≤ 1; split <;> omega
  | cons m ms ih =>
    intro l
    show (t - 1) * wy t ms (l - m) + wy t ms l ≤ t ^ (ms.length + 1)
    obtain ⟨u, rfl⟩ := Nat.exists_eq_add_of_le' ht
    rw [Nat.add_sub_cancel, Nat.pow_succ, Nat.mul_add, Nat.mul_one, Nat.mul_comm _ u]
    exact Nat.add_le_add (Nat.mul_le_mul_left _ (ih _)) (ih _)
theorem cl_len {h m : Nat → Nat} : ∀ {e : Nat}, (∀ i, i < e → h i < 2) → (cl h m e).length = sm h e := by
  intro e
  induction e with
  | zero => intro _; rfl
  | succ e ih =>
    intro hh
    have h1 := hh e (by omega)
    show (if h e = 1 then cl h m e ++ [m e] else cl h m e).length = sm h e + h e
    rw [← ih (fun i hi => hh i (by omega))]
    by_cases q : h e = 1
    · rw [if_pos q, q, List.length_append]; rfl
    · rw [if_neg q]; omega
theorem cl_le {h m : Nat → Nat} : ∀ (e : Nat), (cl h m e).length ≤ e := by
  intro e
  induction e with
  | zero => exact Nat.le_refl _
  | succ e ih =>
    show (if h e = 1 then cl h m e ++ [m e] else cl h m e).length ≤ e + 1
    by_cases q : h e = 1
    · rw [if_pos q, List.length_append]; show _ + 1 ≤ _; omega
    · rw [if_neg q]; omega
theorem sm_gap {f : Nat → Nat} {a : Nat} : ∀ b, a ≤ b → (∀ z, a ≤ z → z < b → f z = 0) → sm f b = sm f a := by
  intro b
  induction b with
  | zero => intro h _; rw [show a = 0 by omega]
  | succ b ih =>
    intro h hz
    by_cases hab : a = b + 1
    · rw [hab]
    · show sm f b + f b = _
      rw [ih (by omega) (fun z h1 h2 => hz z h1 (by omega)), hz b (by omega) (by omega)]
      omega
/-- the next smaller set -/
theorem sub_next : ∀ (n H x y : Nat), x < 2 ^ n → x &&& H = x → y &&& H = y → y < x → y ≤ (x - 1) &&& H := by
  intro n
  induction n with
  | zero => intro H x y h1 _ _ h4; omega
  | succ n ih =>
    intro H x y h1 h2 h3 h4
    have ex : x = 2 * (x / 2) + x % 2 := by omega
    have ey : y = 2 * (y / 2) + y % 2 := by omega
    have eH : H = 2 * (H / 2) + H % 2 := by omega
    have a1 := and_dm (x / 2) (x % 2) (H / 2) (H % 2) (by omega) (by omega)
    rw [← ex, ← eH, h2] at a1
    have a2 := and_dm (y / 2) (y % 2) (H / 2) (H % 2) (by omega) (by omega)
    rw [← ey, ← eH, h3] at a2
    have l1 : x % 2 &&& H % 2 ≤ x % 2 := Nat.and_le_left
    have l2 : y % 2 &&& H % 2 ≤ y % 2 := Nat.and_le_left
    have l3 : y % 2 &&& H % 2 ≤ H % 2 := Nat.and_le_right
    have hx2 : x / 2 &&& H / 2 = x / 2 := by omega
    have hy2 : y / 2 &&& H / 2 = y / 2 := by omega
    by_cases q : x % 2 = 1
    · have e1 : x - 1 = 2 * (x / 2) + 0 := by omega
      have a3 := and_dm (x / 2) 0 (H / 2) (H % 2) (by omega) (by omega)
      rw [← e1, ← eH, hx2, Nat.zero_and] at a3
      omega
    · have hx0 : x / 2 ≠ 0 := by omega
      have e1 : x - 1 = 2 * (x / 2 - 1) + 1 := by omega
      have a3 := and_dm (x / 2 - 1) 1 (H / 2) (H % 2) (by omega) (by omega)
      have o1 : 1 &&& H % 2 = H % 2 := by
        have : H % 2 = 0 ∨ H % 2 = 1 := by omega
        rcases this with z | z <;> rw [z] <;> rfl
      rw [← e1, ← eH, o1] at a3
      have := ih (H / 2) (x / 2) (y / 2) (by rw [Nat.pow_succ] at h1; omega) hx2 hy2 (by omega)
      omega
theorem nI_and (a b : Nat) : nI a &&& nI b = nI (a &&& b) := by
  apply Int32.toBitVec_inj.1
  show BitVec.ofNat 32 a &&& BitVec.ofNat 32 b = BitVec.ofNat 32 (a &&& b)
  apply BitVec.eq_of_getLsbD_eq
  intro i hi
  simp [hi]
theorem bits_sm {f : Nat → Nat} {E n : Nat} (h : ∀ k, k < E → f k < 2) (hE : E ≤ n) : sm (fun i => bts f E / 2 ^ i % 2) n = sm f E := by
  have e1 : ∀ k, E ≤ k → sm (fun i => if i < E then f i else 0) k = sm f E := by
    intro k hk
    induction k with
    | zero => rw [show E = 0 by omega]; rfl
    | succ k ih =>
      by_cases q : E = k + 1
      · subst q
        exact sm_congr (fun i hi => if_pos hi)
      · show sm (fun i => if i < E then f i else 0) k + (if k < E then f k else 0) = _
        rw [ih (by omega), if_neg (by omega)]; omega
  rw [← e1 n hE]
  refine sm_congr (fun i _ => ?_)
  by_cases q : i < E
  · rw [if_pos q, bts_bit h q]
  · rw [if_neg q, Nat.div_eq_of_lt (Nat.lt_of_lt_of_le (bts_lt h) (Nat.pow_le_pow_right (by omega) (by omega)))]
/-- is it his, and does it still count -/
def ohN (M : Mt) (s e : Nat) : Nat := if M 4 e = s ∧ M 8 e = 0 then 1 else 0
theorem ohN_2 (M : Mt) (s e : Nat) : ohN M s e < 2 := by unfold ohN; split <;> omega
def TL (A : yM) (o : Nat) (L : List Nat) : Prop := ∀ i x, L[i]? = some x → A 76 (o + i) = nI x ∧ x < 1000
section B12
variable {A : yM} {M I : Mt} {hI : Nat} {T : Nat → Nat → Nat} {c : Nat → Nat → Int32} {g : Nat} {n a b e f k N w s t v : Nat}
theorem r76 {A : yM} {k : Nat} {K : Int32 → Option yR} (h : k < 12) : yrd A 76 (nI k) K = K (A 76 k) := yrd_at (n := 12) rfl (by omega) h
theorem w76 {A : yM} {k : Nat} {v : Int32} {K : yM → Option yR} (h : k < 12) : ywr A 76 (nI k) v K = K (yup A 76 k v) := ywr_at (n := 12) rfl (by omega) h
theorem X11_power_ok (hn : 1 ≤ n) {k : Nat} (ht : t < 1000) (hk : k < 1000) : ycall n 120 [.int (nI t), .int (nI k)] A = some (some (.long (lN (t ^ k))), A) := by
  obtain ⟨n, rfl⟩ := Nat.exists_eq_add_of_le' hn
  rw [en_X11_power]
  refine (for_up (fun i => yb_X11_power (ycall n) (5, [some (.int (nI t)), some (.int (nI k)), some (.long (lN (t ^ i))), none, some (.int (nI i))], [], A)) k (fun i hi => ?_)).trans ?_
  · refine (bk_X11_power_5 ..).trans ?_
    simp (disch := omega) only [l_lit, nI_leI, Nat.not_le.mpr hi, ↓reduceIte, nI_l, lN_mul, nI_add]
    rw [Nat.pow_succ]
  · refine (bk_X11_power_5 ..).trans ?_
    simp (disch := omega) only [nI_leI, Nat.le_refl, ↓reduceIte]
theorem lt1_pos {x : Int32} (h : x < nI 1) : (nI 0 < x) = False := by
  refine eq_false (fun q => ?_)
  rw [Int32.lt_iff_toInt_lt] at h q
  have e1 : (nI 1).toInt = 1 := by decide +kernel
  have e0 : (nI 0).toInt = 0 := by decide +kernel
  omega
theorem X11_ways_ok (ht1 : 1 ≤ t) (ht : t < 1000) : ∀ (ms : List Nat) (o n l : Nat) (x : Int32) (N : Nat), o + ms.length = N → N ≤ 12 → TL A o ms → ms.length + 2 ≤ n → ((l = 0 ∧ (nI 0 < x) = False) ∨ (0 < l ∧ l < 1000 ∧ x = nI l)) → ycall n 119 [.int x, .ref 76, .int (nI o), .int (nI N), .int (nI t)] A = some (some (.long (lN (wy t ms l))), A) := by
  intro ms
  induction ms with
  | nil =>
    intro o n l x N ho hN hT hn hx
    simp only [List.length_nil] at ho hn
    obtain ⟨n, rfl⟩ := Nat.exists_eq_add_of_le' (show 2 ≤ n by omega)
    rw [en_X11_waysToHave]
    rcases hx with ⟨rfl, hx⟩ | ⟨h1, h2, rfl⟩
    · simp (disch := omega) only [l_lit, hx, ↓reduceIte, nI_sub, X11_power_ok, yl_b]
      rw [wy_0 ht1, show N - o = 0 by omega]; rfl
    · simp (disch := omega) only [l_lit, nI_ltI, h1, show ¬ o < N by omega, ↓reduceIte]
      unfold wy
      rw [if_neg (by omega)]; rfl
  | cons m ms ih =>
    intro o n l x N ho hN hT hn hx
    simp only [List.length_cons] at ho hn
    obtain ⟨n, rfl⟩ := Nat.exists_eq_add_of_le' (show 1 ≤ n by omega)
    rw [en_X11_waysToHave]
    rcases hx with ⟨rfl, hx⟩ | ⟨h1, h2, rfl⟩
    · simp (disch := omega) only [l_lit, hx, ↓reduceIte, nI_sub, X11_power_ok, yl_b]
      rw [wy_0 ht1, List.length_cons, show N - o = ms.length + 1 by omega]
    · have e0 := hT 0 m rfl
      rw [Nat.add_zero] at e0
      have hT2 : TL A (o + 1) ms := fun i y hy => by
        have := hT (i + 1) y (by rw [List.getElem?_cons_succ]; exact hy)
        rw [show o + 1 + i = o + (i + 1) by omega]; exact this
      have r1 := ih (o + 1) n (l - m) (nI l - nI m) N (by omega) hN hT2 (by omega) (by
        by_cases q : m < l
        · exact Or.inr ⟨by omega, by omega, nI_sub (by omega)⟩
        · refine Or.inl ⟨by omega, lt1_pos ?_⟩
          rw [pow_sub_lt (by omega) (by omega) (by omega)]; omega)
      have r2 := ih (o + 1) n l (nI l) N (by omega) hN hT2 (by omega) (Or.inr ⟨h1, h2, rfl⟩)
      simp (disch := omega) only [l_lit, nI_ltI, h1, show o < N by omega, ↓reduceIte, r76, e0.1, nI_add, r1, r2, yl_b, nI_sub, nI_l, lN_mul, lN_add]
      rfl
theorem od_class (hg : Good M) (hc : Col A 2 M) (hs : s < M 0 0) (hv : v < 1000) (ht1 : 2 ≤ t) (ht : t ≤ 20) (hw : w < 2) : ∃ A', yb_X11_odds (ycall 19) (52, [some (.ref 1), some (.int (nI s)), some (.int (nI v)), some (.int (nI t)), some (.int (nI w)), some (.int (nI 0)), some (.int (nI 0)), none], [], A) = some (some (.long (lN (fpN (wy t (cl (ohN M s) (markN M) (M 0 1)) v) (t ^ (cl (ohN M s) (markN M) (M 0 1)).length) w))), A') ∧ Fq 76 A A' := by
  have hE := gE hg
  have hS := gS hg
  have hlen := cl_le (h := ohN M s) (m := markN M)
  obtain ⟨A1, a1, a2, a3⟩ := for_ex (fun k A => yb_X11_odds (ycall 19) (52, [some (.ref 1), some (.int (nI s)), some (.int (nI v)), some (.int (nI t)), some (.int (nI w)), some (.int (nI (cl (ohN M s) (markN M) k).length)), some (.int (nI k)), none], [], A)) (fun k A' => TL A' 0 (cl (ohN M s) (markN M) k) ∧ Fq 76 A A') (M 0 1) A (fun k A2 hk h => by
    obtain ⟨hT, hf⟩ := h
    have hc2 : Col A2 2 M := Col_fr hc (fun p hp => hf p (by omega))
    have h1 := gEr hg hk
    have hlk := hlen k
    have e1 : cl (ohN M s) (markN M) (k + 1) = if ohN M s k = 1 then cl (ohN M s) (markN M) k ++ [markN M k] else cl (ohN M s) (markN M) k := rfl
    have hmk := markN_le hg hk
    by_cases hb : M 4 k = s
    · by_cases h8 : M 8 k = 0
      · have ho : ohN M s k = 1 := if_pos ⟨hb, h8⟩
        refine ⟨yup A2 76 (cl (ohN M s) (markN M) k).length (nI (markN M k)), ?_, ?_, Fq_t hf Fq_up⟩
        · refine (bk_X11_odds_52 ..).trans ?_
          simp (disch := omega) only [↓xR, cgI hc.1, cE hc2, l_lit, nI_leI, Nat.not_le.mpr hk, ↓reduceIte, cR hc.1, cD12 hc.1, cBy hc2, hb, cV hc.1, X0_isCorrected_ok _ hc2 hg hk, h8, yi_b, X0_noveltyOf_ok _ hc2 hg hk, X0_mark_ok _ hc2 hg hk, w76, nI_add]
          rw [e1, if_pos ho, List.length_append]; rfl
        · rw [e1, if_pos ho]
          intro i x hx
          rw [Nat.zero_add]
          by_cases q : i < (cl (ohN M s) (markN M) k).length
          · rw [List.getElem?_append_left q] at hx
            rw [yup_ne2 (by omega)]
            have := hT i x hx
            rw [Nat.zero_add] at this; exact this
          · rw [List.getElem?_append_right (by omega)] at hx
            by_cases q2 : i = (cl (ohN M s) (markN M) k).length
            · rw [q2, Nat.sub_self] at hx
              cases hx
              rw [q2, yup_eq]; exact ⟨rfl, by omega⟩
            · rw [show i - (cl (ohN M s) (markN M) k).length = i - (cl (ohN M s) (markN M) k).length - 1 + 1 by omega] at hx
              cases hx
      · have h81 : M 8 k = 1 := by omega
        have ho : ¬ ohN M s k = 1 := by unfold ohN; rw [if_neg (fun z => h8 z.2)]; omega
        refine ⟨A2, ?_, by rw [e1, if_neg ho]; exact hT, hf⟩
        have n10 : (nI 1 = nI 0) = False := eq_false (by decide +kernel)
        refine (bk_X11_odds_52 ..).trans ?_
        simp (disch := omega) only [↓xR, cgI hc.1, cE hc2, l_lit, nI_leI, Nat.not_le.mpr hk, ↓reduceIte, cR hc.1, cD12 hc.1, cBy hc2, hb, cV hc.1, X0_isCorrected_ok _ hc2 hg hk, h81, n10, yi_b, nI_add]
        rw [e1, if_neg ho]
    · have ho : ¬ ohN M s k = 1 := by unfold ohN; rw [if_neg (fun z => hb z.1)]; omega
      refine ⟨A2, ?_, by rw [e1, if_neg ho]; exact hT, hf⟩
      refine (bk_X11_odds_52 ..).trans ?_
      simp (disch := omega) only [↓xR, cgI hc.1, cE hc2, l_lit, nI_leI, Nat.not_le.mpr hk, ↓reduceIte, cR hc.1, cD12 hc.1, cBy hc2, nI_eq, hb, nI_add]
      rw [e1, if_neg ho]) ⟨(fun i x hx => by cases hx), Fq_r _ _⟩
  refine ⟨A1, ?_, a3⟩
  have hc2 : Col A1 2 M := Col_fr hc (fun p hp => a3 p (by omega))
  have hl2 := hlen (M 0 1)
  have hways := X11_ways_ok (A := A1) (t := t) (by omega) (by omega) (cl (ohN M s) (markN M) (M 0 1)) 0 19 v (nI v) (cl (ohN M s) (markN M) (M 0 1)).length (by omega) (by omega) a2 (by omega) (by
    by_cases q : v = 0
    · subst q; exact Or.inl ⟨rfl, eq_false (by decide +kernel)⟩
    · exact Or.inr ⟨by omega, hv, rfl⟩)
  have hpw : t ^ (cl (ohN M s) (markN M) (M 0 1)).length < 2 ^ 62 := by
    refine Nat.lt_of_le_of_lt (Nat.pow_le_pow_left ht _) (Nat.lt_of_le_of_lt (Nat.pow_le_pow_right (by omega) (show _ ≤ 12 by omega)) (by decide))
  have hwl := wy_le (t := t) (by omega) (cl (ohN M s) (markN M) (M 0 1)) v
  have hpos : 0 < t ^ (cl (ohN M s) (markN M) (M 0 1)).length := Nat.pow_pos (by omega)
  refine a1.trans ((bk_X11_odds_52 ..).trans ?_)
  simp (disch := omega) only [↓xR, cgI hc.1, cE hc2, l_lit, nI_leI, Nat.le_refl, ↓reduceIte, hways, yl_b, X11_power_ok]
  rw [X11_pof_ok (by omega) (by omega) hpw hpos hw, yl_b]
theorem X12_bits_ok (hn : 1 ≤ n) {x : Nat} (hx : x < 2 ^ 31) : ycall n 148 [.int (nI x)] A = some (some (.int (nI (sm (fun i => x / 2 ^ i % 2) 12))), A) := by
  obtain ⟨n, rfl⟩ := Nat.exists_eq_add_of_le' hn
  rw [en_X12_bits]
  refine (for_up (fun k => yb_X12_bits (ycall n) (4, [some (.int (nI x)), some (.int (nI (sm (fun i => x / 2 ^ i % 2) k))), some (.int (nI k))], [], A)) 12 (fun k hk => ?_)).trans ?_
  · refine (bk_X12_bits_4 ..).trans ?_
    simp (disch := omega) only [l_lit, nI_leI, Nat.not_le.mpr hk, ↓reduceIte]
    rw [nI_bit hx (by omega), nI_add, nI_add]
    rfl
  · refine (bk_X12_bits_4 ..).trans ?_
    simp (disch := omega) only [l_lit, nI_leI, Nat.le_refl, ↓reduceIte]
theorem od_one (hr : Row A 80 M) (hg : Good M) (ht1 : 2 ≤ t) (ht : t ≤ 20) (hv : v < 1000) (hw : w < 2) {y : Nat} (hy : y < 4096) (p a : Int64) : yb_X12_odds (ycall 19) (158, [some (.ref 79), none, some (.int (nI v)), some (.int (nI t)), some (.int (nI w)), some (.int (nI (bts (ohN M s) (M 0 1)))), some (.long p), none, some (.long a), none, some (.int (nI y)), some (.long 1), none, some (.int (nI 0)), some (.int (nI 0))], [], A) = yb_X12_odds (ycall 19) (144, [some (.ref 79), none, some (.int (nI v)), some (.int (nI t)), some (.int (nI w)), some (.int (nI (bts (ohN M s) (M 0 1)))), some (.long p), none, some (.long (a + lN (odF (ohN M s) (markN M) t v (M 0 1) y))), none, some (.int (if y = 0 then -nI 1 else nI ((y - 1) &&& bts (ohN M s) (M 0 1)))), none, none, none, none], [], A) := by
  have hE := gE hg
  have hb : ∀ k, k < M 0 1 → ohN M s k < 2 := fun k _ => ohN_2 M s k
  have hH : bts (ohN M s) (M 0 1) < 4096 := Nat.lt_of_lt_of_le (bts_lt hb) (Nat.pow_le_pow_right (by omega) hE)
  have n10 : (nI 1 = nI 0) = False := eq_false (by decide +kernel)
  have hsm : ∀ k, k ≤ M 0 1 → sm (odM (ohN M s) (markN M) y) k ≤ k * 300 := fun k hk => sm_le (fun i hi => by
    unfold odM
    split
    · exact markN_le hg (by omega)
    · omega)
  refine (for_up (fun k => yb_X12_odds (ycall 19) (158, [some (.ref 79), none, some (.int (nI v)), some (.int (nI t)), some (.int (nI w)), some (.int (nI (bts (ohN M s) (M 0 1)))), some (.long p), none, some (.long a), none, some (.int (nI y)), some (.long (lN (pd (odH (ohN M s) t y) k))), none, some (.int (nI (sm (odM (ohN M s) (markN M) y) k))), some (.int (nI k))], [], A)) (M 0 1) (fun k hk => ?_)).trans ?_
  · have ep : pd (odH (ohN M s) t y) (k + 1) = pd (odH (ohN M s) t y) k * odH (ohN M s) t y k := rfl
    have em : sm (odM (ohN M s) (markN M) y) (k + 1) = sm (odM (ohN M s) (markN M) y) k + odM (ohN M s) (markN M) y k := rfl
    have hbit := bts_bit hb hk
    have h2 := ohN_2 M s k
    refine (bk_X12_odds_158 ..).trans ?_
    by_cases h0 : ohN M s k = 0
    · have o1 : odH (ohN M s) t y k = 1 := by unfold odH; rw [if_neg (by omega)]
      have o2 : odM (ohN M s) (markN M) y k = 0 := by unfold odM; rw [if_neg (fun z => by omega)]
      simp (disch := omega) only [↓mR, qD hr.1, rE hr, l_lit, nI_leI, Nat.not_le.mpr hk, ↓reduceIte, X12_has_ok, yi_b, hbit, h0, nI_add]
      rw [ep, em, o1, o2, Nat.mul_one]
      rfl
    · have h1 : ohN M s k = 1 := by omega
      have hy2 : y / 2 ^ k % 2 = 0 ∨ y / 2 ^ k % 2 = 1 := by omega
      rcases hy2 with q | q
      · have o1 : odH (ohN M s) t y k = t - 1 := by unfold odH; rw [if_pos h1, if_pos q]
        have o2 : odM (ohN M s) (markN M) y k = markN M k := by unfold odM; rw [if_pos ⟨h1, q⟩]
        simp (disch := omega) only [↓mR, qD hr.1, rE hr, l_lit, nI_leI, Nat.not_le.mpr hk, ↓reduceIte, X12_has_ok, yi_b, hbit, h1, n10, q, X12_markOf_ok _ hr hg hk, nI_add, nI_sub, nI_l, lN_mul]
        rw [ep, em, o1, o2]
      · have o1 : odH (ohN M s) t y k = 1 := by unfold odH; rw [if_pos h1, if_neg (by omega)]
        have o2 : odM (ohN M s) (markN M) y k = 0 := by unfold odM; rw [if_neg (fun z => by omega)]
        have l1 : (1 : Int64) = lN 1 := rfl
        simp (disch := omega) only [↓mR, qD hr.1, rE hr, l_lit, l1, nI_leI, Nat.not_le.mpr hk, ↓reduceIte, X12_has_ok, yi_b, hbit, h1, n10, q, nI_add, lN_mul]
        rw [ep, em, o1, o2]
  · have hs2 := hsm (M 0 1) (Nat.le_refl _)
    refine (bk_X12_odds_158 ..).trans ?_
    have l0 : (0 : Int64) = lN 0 := rfl
    have ey : (nI y = nI 0) = (y = 0) := propext (nI_eq (by omega) (by omega))
    simp (disch := omega) only [↓mR, qD hr.1, rE hr, l_lit, l0, nI_leI, Nat.le_refl, ↓reduceIte, nI_ltI, ey]
    unfold odF
    by_cases q1 : sm (odM (ohN M s) (markN M) y) (M 0 1) < v
    · rw [if_pos q1, if_pos q1]
      by_cases q2 : y = 0
      · rw [if_pos q2, if_pos q2]
      · rw [if_neg q2, if_neg q2, nI_sub (by omega), nI_and]
    · rw [if_neg q1, if_neg q1]
      by_cases q2 : y = 0
      · rw [if_pos q2, if_pos q2]
      · rw [if_neg q2, if_neg q2, nI_sub (by omega), nI_and]
theorem od_all (hr : Row A 80 M) (hg : Good M) (ht1 : 2 ≤ t) (ht : t ≤ 20) (hv : v < 1000) (hw : w < 2) (p : Int64) : ∀ (y : Nat) (a : Nat), y < 4096 → y &&& bts (ohN M s) (M 0 1) = y → yb_X12_odds (ycall 19) (144, [some (.ref 79), none, some (.int (nI v)), some (.int (nI t)), some (.int (nI w)), some (.int (nI (bts (ohN M s) (M 0 1)))), some (.long p), none, some (.long (lN a)), none, some (.int (nI y)), none, none, none, none], [], A) = (yl (ycall 19 194 [.long (lN (a + sm (odG (ohN M s) (markN M) t v (M 0 1)) (y + 1))), .long p, .int (nI w)] A)).bind (fun z1 => some (some (.long z1.1), z1.2)) := by
  intro y
  induction y using Nat.strongRecOn with
  | ind y ih =>
    intro a hy hsub
    refine (bk_X12_odds_144 ..).trans ?_
    have hpos : (nI y < nI 0) = False := eq_false (nI_pos (by omega))
    have h1 := od_one (A := A) (s := s) hr hg ht1 ht hv hw hy p (lN a)
    simp (disch := omega) only [l_lit, hpos, ↓reduceIte]
    refine (show _ = _ from h1).trans ?_
    have eg : sm (odG (ohN M s) (markN M) t v (M 0 1)) (y + 1) = sm (odG (ohN M s) (markN M) t v (M 0 1)) y + odF (ohN M s) (markN M) t v (M 0 1) y := by
      show _ + odG (ohN M s) (markN M) t v (M 0 1) y = _
      unfold odG
      rw [if_pos hsub]
    rw [lN_add]
    by_cases h0 : y = 0
    · subst h0
      rw [if_pos rfl]
      refine (bk_X12_odds_144 ..).trans ?_
      have nn : (-nI 1 < nI 0) = True := eq_true (by decide +kernel)
      simp (disch := omega) only [l_lit, nn, ↓reduceIte]
      rw [eg]
      have z0 : sm (odG (ohN M s) (markN M) t v (M 0 1)) 0 = 0 := rfl
      rw [z0, Nat.zero_add]
    · rw [if_neg h0]
      have hlt : (y - 1) &&& bts (ohN M s) (M 0 1) < y := Nat.lt_of_le_of_lt Nat.and_le_left (by omega)
      have hss : (y - 1) &&& bts (ohN M s) (M 0 1) &&& bts (ohN M s) (M 0 1) = (y - 1) &&& bts (ohN M s) (M 0 1) := by
        rw [Nat.and_assoc, Nat.and_self]
      rw [ih _ hlt _ (by omega) hss]
      have gap : sm (odG (ohN M s) (markN M) t v (M 0 1)) y = sm (odG (ohN M s) (markN M) t v (M 0 1)) (((y - 1) &&& bts (ohN M s) (M 0 1)) + 1) := sm_gap y (by omega) (fun z hz1 hz2 => by
        unfold odG
        refine if_neg (fun hz => ?_)
        have := sub_next 12 _ y z (by omega) hsub hz hz2
        omega)
      rw [eg, gap]
      congr 6
      omega
theorem od_ref (hr : Row A 80 M) (hg : Good M) (hs : s < M 0 0) (ht1 : 2 ≤ t) (ht : t ≤ 20) (hv : v < 1000) (hw : w < 2) : yb_X12_odds (ycall 19) (52, [some (.ref 79), some (.int (nI s)), some (.int (nI v)), some (.int (nI t)), some (.int (nI w)), some (.int (nI 0)), some (.long 1), none, some (.int (nI 0)), none, none, none, none, none, none], [], A) = some (some (.long (lN (fpN (wy t (cl (ohN M s) (markN M) (M 0 1)) v) (t ^ (cl (ohN M s) (markN M) (M 0 1)).length) w))), A) := by
  have hE := gE hg
  have hS := gS hg
  have hb : ∀ k, k < M 0 1 → ohN M s k < 2 := fun k _ => ohN_2 M s k
  have hH : bts (ohN M s) (M 0 1) < 4096 := Nat.lt_of_lt_of_le (bts_lt hb) (Nat.pow_le_pow_right (by omega) hE)
  have n10 : (nI 1 = nI 0) = False := eq_false (by decide +kernel)
  have hcl := cl_len (m := markN M) hb
  have l1 : (1 : Int64) = lN 1 := rfl
  have l0 : (0 : Int64) = lN 0 := rfl
  refine (for_up (fun k => yb_X12_odds (ycall 19) (52, [some (.ref 79), some (.int (nI s)), some (.int (nI v)), some (.int (nI t)), some (.int (nI w)), some (.int (nI (bts (ohN M s) k))), some (.long 1), none, some (.int (nI k)), none, none, none, none, none, none], [], A)) (M 0 1) (fun k hk => ?_)).trans ?_
  · have h1 := gEr hg hk
    have hstep := bts_step (f := ohN M s) (k := k) (by omega) (fun j _ => ohN_2 M s j)
    refine (bk_X12_odds_52 ..).trans ?_
    by_cases hq : M 4 k = s
    · by_cases h8 : M 8 k = 0
      · have ho : ohN M s k = 1 := if_pos ⟨hq, h8⟩
        rw [ho] at hstep
        simp (disch := omega) only [↓mR, qD hr.1, rE hr, l_lit, nI_leI, Nat.not_le.mpr hk, ↓reduceIte, en_X12_ofE, nI_mul, nI_add, yi_b, rBy hr, hq, rCo hr, h8, hstep]
      · have ho : ohN M s k = 0 := if_neg (fun z => h8 z.2)
        have h81 : M 8 k = 1 := by omega
        have e1 : bts (ohN M s) (k + 1) = bts (ohN M s) k := by
          show bts (ohN M s) k + ohN M s k * 2 ^ k = _
          rw [ho]; omega
        simp (disch := omega) only [↓mR, qD hr.1, rE hr, l_lit, nI_leI, Nat.not_le.mpr hk, ↓reduceIte, en_X12_ofE, nI_mul, nI_add, yi_b, rBy hr, hq, rCo hr, h81, n10, nI_or, Nat.or_zero, e1]
    · have ho : ohN M s k = 0 := if_neg (fun z => hq z.1)
      have e1 : bts (ohN M s) (k + 1) = bts (ohN M s) k := by
        show bts (ohN M s) k + ohN M s k * 2 ^ k = _
        rw [ho]; omega
      have hq2 : (nI (M 4 k) = nI s) = False := eq_false (fun z => hq ((nI_eq (by omega) (by omega)).mp z))
      simp (disch := omega) only [↓mR, qD hr.1, rE hr, l_lit, nI_leI, Nat.not_le.mpr hk, ↓reduceIte, en_X12_ofE, nI_mul, nI_add, yi_b, rBy hr, hq2, nI_or, Nat.or_zero, e1]
  · refine (bk_X12_odds_52 ..).trans ?_
    have hbs := bits_sm (n := 12) hb (by omega)
    simp (disch := omega) only [↓mR, qD hr.1, rE hr, l_lit, nI_leI, Nat.le_refl, ↓reduceIte]
    refine (for_up (fun k => yb_X12_odds (ycall 19) (114, [some (.ref 79), none, some (.int (nI v)), some (.int (nI t)), some (.int (nI w)), some (.int (nI (bts (ohN M s) (M 0 1)))), some (.long (lN (t ^ k))), none, some (.int (nI k)), none, none, none, none, none, none], [], A)) (cl (ohN M s) (markN M) (M 0 1)).length (fun k hk => ?_)).trans ?_
    · have := cl_le (h := ohN M s) (m := markN M) (M 0 1)
      refine (bk_X12_odds_114 ..).trans ?_
      simp (disch := omega) only [X12_bits_ok, hbs, ← hcl, yi_b, nI_leI, Nat.not_le.mpr hk, ↓reduceIte, l_lit, nI_l, lN_mul, nI_add]
      rw [Nat.pow_succ]
    · have := cl_le (h := ohN M s) (m := markN M) (M 0 1)
      refine (bk_X12_odds_114 ..).trans ?_
      simp (disch := omega) only [X12_bits_ok, hbs, ← hcl, yi_b, nI_leI, Nat.le_refl, ↓reduceIte]
      rw [l0, od_all hr hg ht1 ht hv hw _ _ 0 hH (Nat.and_self _), Nat.zero_add]
      have gall : sm (odG (ohN M s) (markN M) t v (M 0 1)) (bts (ohN M s) (M 0 1) + 1) = wy t (cl (ohN M s) (markN M) (M 0 1)) v := by
        rw [← rl_wy, ← rl_sets _ _ _ _ hb]
        refine (sm_gap _ (bts_lt hb) (fun z hz1 hz2 => ?_)).symm
        unfold odG
        refine if_neg (fun hz => ?_)
        have : z &&& bts (ohN M s) (M 0 1) ≤ bts (ohN M s) (M 0 1) := Nat.and_le_right
        omega
      rw [gall]
      have hpw : t ^ (cl (ohN M s) (markN M) (M 0 1)).length < 2 ^ 62 := by
        refine Nat.lt_of_le_of_lt (Nat.pow_le_pow_left ht _) (Nat.lt_of_le_of_lt (Nat.pow_le_pow_right (by omega) (show _ ≤ 12 by omega)) (by decide))
      have hwl := wy_le (t := t) (by omega) (cl (ohN M s) (markN M) (M 0 1)) v
      have hpos : 0 < t ^ (cl (ohN M s) (markN M) (M 0 1)).length := Nat.pow_pos (by omega)
      rw [X12_po_ok (by omega) (by omega) hpw (Or.inr hpos) hw, yl_b]
theorem asL3 : (1000000000 : Int64) - (-nI 1 : Int32).toInt64 = 1000000001 := asL2
theorem t_cases (x : Int32) : ((x < nI 2) = True ∨ ((x < nI 2) = False ∧ (nI 20 < x) = True)) ∧ decide (¬ x < nI 2 ∧ ¬ nI 20 < x) = false ∨ ∃ j, 2 ≤ j ∧ j ≤ 20 ∧ x = nI j ∧ decide (¬ x < nI 2 ∧ ¬ nI 20 < x) = true := by
  by_cases h1 : x < nI 2
  · exact Or.inl ⟨Or.inl (eq_true h1), by simp [h1]⟩
  · by_cases h2 : nI 20 < x
    · exact Or.inl ⟨Or.inr ⟨eq_false h1, eq_true h2⟩, by simp [h2]⟩
    · refine Or.inr ?_
      have h0 : ¬ x < 0 := fun q => h1 (Int32.lt_trans q (by decide +kernel))
      obtain ⟨j, hj, rfl⟩ := nI_of h0
      have a1 := mt (nI_ltI hj (show (2:Nat) < 2 ^ 31 by omega)).mpr h1
      have a2 := mt (nI_ltI (show 20 < 2 ^ 31 by omega) hj).mpr h2
      exact ⟨j, by omega, by omega, rfl, by simp [h1, h2]⟩
theorem api_odds (hi : InvX A M I hI T c g) (x y z u : Int32) : Api 118 218 [.int x, .int y, .int z, .int u] A g := by
  have hc := iC hi
  have hg := iG hi
  have hS := gS hg
  have n10 : (nI 1 = nI 0) = False := eq_false (by decide +kernel)
  have asl : ∀ (A : yM), (yl (ycall 19 100 [.int (-nI 1)] A)) = yl (some (some (.long 1000000001), A)) := fun A => by rw [en_X11_asLong, asL2]
  by_cases hs : okI x (M 0 0) = true
  · obtain ⟨s, hs2, rfl⟩ := okI_of (by omega) hs
    by_cases hv : okI y 1000 = true
    · obtain ⟨v, hv2, rfl⟩ := okI_of (by omega) hv
      rcases t_cases z with ⟨hz, hz2⟩ | ⟨t, ht1, ht2, rfl, hz2⟩
      · refine api_read hi (.long 1000000001) ⟨A, ?_, Sc_r A⟩ (fun A1 hi => ⟨A1, ?_, Sc_r A1⟩)
        · rw [en_X11_odds]
          simp (disch := omega) only [↓xR, cV hc.1, X0_hasStudent_ok _ hc, hs, bI_t, yi_b, l_lit, n10, ↓reduceIte, nI_ltI, show ¬ v < 0 by omega, show ¬ 999 < v by omega, asl, yl_b]
          rcases hz with h | ⟨h, h2⟩
          · simp only [h, ↓reduceIte]
          · simp only [h, h2, ↓reduceIte]
        · have hr := iR hi
          rw [en_X12_odds]
          simp (disch := omega) only [mV, X12_isStudent_ok _ hr hg, hs, bI_t, yi_b, l_lit, n10, ↓reduceIte, X12_in0 (k := 999), Nat.reduceAdd, hv, X12_isIn_ok (x := z), hz2, bI_f]
      · by_cases hw : okI u 2 = true
        · obtain ⟨w, hw2, rfl⟩ := okI_of (by omega) hw
          refine api_read hi (.long (lN (fpN (wy t (cl (ohN M s) (markN M) (M 0 1)) v) (t ^ (cl (ohN M s) (markN M) (M 0 1)).length) w))) ?_ (fun A1 hi => ⟨A1, ?_, Sc_r A1⟩)
          · obtain ⟨A', a1, a2⟩ := od_class (A := A) hg hc hs2 hv2 ht1 ht2 hw2
            refine ⟨A', ?_, Sc_Fq2 (by unfold scr; omega) (by omega) a2⟩
            rw [en_X11_odds]
            simp (disch := omega) only [↓xR, cV hc.1, X0_hasStudent_ok _ hc, hs, bI_t, yi_b, l_lit, n10, ↓reduceIte, nI_ltI, show ¬ v < 0 by omega, show ¬ 999 < v by omega, show ¬ t < 2 by omega, show ¬ 20 < t by omega, X11_isPart_ok, hw]
            exact a1
          · have hr := iR hi
            have b1 := od_ref (A := A1) hr hg hs2 ht1 ht2 hv2 hw2
            rw [en_X12_odds]
            simp (disch := omega) only [mV, X12_isStudent_ok _ hr hg, hs, bI_t, yi_b, l_lit, n10, ↓reduceIte, X12_in0 (k := 999), X12_in0 (k := 1), Nat.reduceAdd, hv, X12_isIn_ok (x := nI t), hz2, hw]
            exact b1
        · have hw := okI_f hw
          refine api_read hi (.long 1000000001) ⟨A, ?_, Sc_r A⟩ (fun A1 hi => ⟨A1, ?_, Sc_r A1⟩)
          · rw [en_X11_odds]
            simp (disch := omega) only [↓xR, cV hc.1, X0_hasStudent_ok _ hc, hs, bI_t, bI_f, yi_b, l_lit, n10, ↓reduceIte, nI_ltI, show ¬ v < 0 by omega, show ¬ 999 < v by omega, show ¬ t < 2 by omega, show ¬ 20 < t by omega, X11_isPart_ok, hw, asl, yl_b]
          · have hr := iR hi
            rw [en_X12_odds]
            simp (disch := omega) only [mV, X12_isStudent_ok _ hr hg, hs, bI_t, bI_f, yi_b, l_lit, n10, ↓reduceIte, X12_in0 (k := 999), X12_in0 (k := 1), Nat.reduceAdd, hv, X12_isIn_ok (x := nI t), hz2, hw]
    · have hv := okI_f hv
      refine api_read hi (.long 1000000001) ⟨A, ?_, Sc_r A⟩ (fun A1 hi => ⟨A1, ?_, Sc_r A1⟩)
      · rw [en_X11_odds]
        simp (disch := omega) only [↓xR, cV hc.1, X0_hasStudent_ok _ hc, hs, bI_t, yi_b, l_lit, n10, ↓reduceIte, asl, yl_b]
        rcases okI_no2 (k := 999) (by omega) hv with h | ⟨h, h2, h3⟩
        · simp only [h, ↓reduceIte]
        · simp only [h, h2, ↓reduceIte]
      · have hr := iR hi
        rw [en_X12_odds]
        simp (disch := omega) only [mV, X12_isStudent_ok _ hr hg, hs, bI_t, bI_f, yi_b, l_lit, n10, ↓reduceIte, X12_in0 (k := 999), Nat.reduceAdd, hv]
  · have hs := okI_f hs
    refine api_read hi (.long 1000000001) ⟨A, ?_, Sc_r A⟩ (fun A1 hi => ⟨A1, ?_, Sc_r A1⟩)
    · rw [en_X11_odds]
      simp (disch := omega) only [↓xR, cV hc.1, X0_hasStudent_ok _ hc, hs, bI_f, yi_b, l_lit, ↓reduceIte, asl, yl_b]
    · have hr := iR hi
      rw [en_X12_odds]
      simp (disch := omega) only [mV, X12_isStudent_ok _ hr hg, hs, bI_f, yi_b, l_lit, ↓reduceIte]
end B12
