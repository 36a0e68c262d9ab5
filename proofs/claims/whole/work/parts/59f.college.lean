/-! the TEXT of a COLLEGE -/
theorem byte_all : ∀ k, k < 256 → ∃ b, b < 256 ∧ (Int8.ofNat k).toInt32 &&& nI 255 = nI b ∧ (b < 128 → (Int8.ofNat k).toInt32 = nI b) ∧ (128 ≤ b → (Int8.ofNat k).toInt32 < nI 0) := by
  intro k hk
  refine ⟨k, hk, ?_⟩
  exact (by decide +kernel : ∀ k, k < 256 → ((Int8.ofNat k).toInt32 &&& nI 255 = nI k ∧ (k < 128 → (Int8.ofNat k).toInt32 = nI k) ∧ (128 ≤ k → (Int8.ofNat k).toInt32 < nI 0))) k hk
/-- a byte as a number from 0 -/
def bcN (x : Int32) : Nat := (x &&& nI 255).toNatClampNeg
def isBy (x : Int32) : Prop := x.toInt8.toInt32 = x
theorem bc_ok {x : Int32} (h : isBy x) : bcN x < 256 ∧ x &&& nI 255 = nI (bcN x) ∧ (bcN x < 128 → x = nI (bcN x)) ∧ (128 ≤ bcN x → x < nI 0) := by
  have e1 : Int8.ofNat (x.toInt8.toBitVec.toNat) = x.toInt8 := by
    apply Int8.toBitVec_inj.1
    show BitVec.ofNat 8 _ = _
    rw [BitVec.ofNat_toNat]
    exact BitVec.setWidth_eq _
  obtain ⟨b, b1, b2, b3, b4⟩ := byte_all (x.toInt8.toBitVec.toNat) (by have := x.toInt8.toBitVec.isLt; omega)
  rw [e1] at b2 b3 b4
  have h' : x.toInt8.toInt32 = x := h
  rw [h'] at b2 b3 b4
  have e2 : bcN x = b := by unfold bcN; rw [b2, nI_nat (by omega)]
  rw [e2]
  exact ⟨b1, b2, b3, b4⟩
theorem bc_eq {x : Int32} (h : isBy x) {k : Nat} (hk : k < 128) : (x = nI k) = (bcN x = k) := by
  obtain ⟨h1, h2, h3, h4⟩ := bc_ok h
  apply propext
  by_cases q : bcN x < 128
  · constructor
    · intro e
      rw [h3 q] at e
      exact (nI_eq (by omega) (by omega)).mp e
    · intro e; rw [← e]; exact h3 q
  · constructor
    · intro e
      exact absurd (h4 (by omega)) (by rw [e]; exact nI_pos (by omega))
    · intro e; omega
theorem bc_dig {α : Type} {x : Int32} (h : isBy x) {R S : α} : (if x < nI 48 then R else if x ≤ nI 57 then S else R) = if 48 ≤ bcN x ∧ bcN x ≤ 57 then S else R := by
  obtain ⟨h1, h2, h3, h4⟩ := bc_ok h
  generalize bcN x = b at *
  by_cases q : b < 128
  · rw [h3 q]
    simp (disch := omega) only [nI_ltI, nI_leI]
    by_cases q1 : b < 48
    · rw [if_pos q1, if_neg (by omega)]
    · rw [if_neg q1]
      by_cases q2 : b ≤ 57
      · rw [if_pos q2, if_pos ⟨by omega, q2⟩]
      · rw [if_neg q2, if_neg (by omega)]
  · rw [if_pos (Int32.lt_trans (h4 (by omega)) (by decide +kernel)), if_neg (by omega)]
/-- the digits behind a letter; 0, no letter of a STATEMENT -/
def dgN (k : Nat) : Nat := if k = 99 then 3 else if k = 100 then 1 else if k = 101 then 6 else if k = 115 then 2 else if k = 119 then 2 else 0
theorem dgN_le (k : Nat) : dgN k ≤ 6 := by
  unfold dgN
  repeat' split
  all_goals omega
section TXT
variable (f : Nat → Int32) (l : Nat)
def dgB (p : Nat) : Bool := decide (p < l ∧ 48 ≤ bcN (f p) ∧ bcN (f p) ≤ 57)
/-- so many digits from a place on: where it ends, and whether all are -/
def sc : Nat → Nat → Nat × Bool
  | 0, p => (p, true)
  | j + 1, p => if dgB f l p = true then sc j (p + 1) else (p, false)
def stC (r : Nat × Bool) : Option Nat := if r.2 = true ∧ r.1 < l ∧ bcN (f r.1) = 59 then none else some r.1
/-- where a STATEMENT is wrong -/
def stB (p : Nat) : Option Nat := if dgN (bcN (f p)) = 0 then some p else stC f l (sc f l (dgN (bcN (f p))) (p + 1))
def nxN (p : Nat) : Nat := p + dgN (bcN (f p)) + 2
def fmN : Nat → Nat → Option Nat
  | 0, _ => none
  | j + 1, p => if l ≤ p then none else match stB f l p with
    | some q => some q
    | none => fmN j (nxN f p)
/-- how many STATEMENTS -/
def stN : Nat → Nat → Nat
  | 0, _ => 0
  | j + 1, p => if l ≤ p then 0 else 1 + stN j (nxN f p)
end TXT
section TX2
variable {f : Nat → Int32} {l : Nat}
theorem sc_s {j p : Nat} : sc f l (j + 1) p = if dgB f l p = true then sc f l j (p + 1) else (p, false) := rfl
theorem sc_t {j : Nat} : ∀ {p : Nat}, (sc f l j p).2 = true → (sc f l j p).1 = p + j ∧ ∀ i, i < j → dgB f l (p + i) = true := by
  induction j with
  | zero => intro p _; exact ⟨rfl, fun i hi => by omega⟩
  | succ j ih =>
    intro p h
    rw [sc_s] at h ⊢
    by_cases q : dgB f l p = true
    · rw [if_pos q] at h ⊢
      obtain ⟨h1, h2⟩ := ih h
      refine ⟨by omega, fun i hi => ?_⟩
      by_cases i0 : i = 0
      · subst i0; exact q
      · have := h2 (i - 1) (by omega)
        rw [show p + 1 + (i - 1) = p + i by omega] at this
        exact this
    · rw [if_neg q] at h; cases h
theorem sc_le {j : Nat} : ∀ {p : Nat}, p ≤ l → (sc f l j p).1 ≤ l := by
  induction j with
  | zero => intro p h; exact h
  | succ j ih =>
    intro p h
    rw [sc_s]
    by_cases q : dgB f l p = true
    · rw [if_pos q]
      unfold dgB at q
      exact ih (by have := (of_decide_eq_true q).1; omega)
    · rw [if_neg q]; exact h
theorem sc_add {i j : Nat} : ∀ {p : Nat}, sc f l (i + j) p = if (sc f l i p).2 = true then sc f l j (p + i) else sc f l i p := by
  induction i with
  | zero => intro p; rw [Nat.zero_add]; exact (if_pos rfl).symm
  | succ i ih =>
    intro p
    rw [show i + 1 + j = (i + j) + 1 by omega, sc_s, sc_s]
    by_cases q : dgB f l p = true
    · rw [if_pos q, if_pos q, ih, show p + 1 + i = p + (i + 1) by omega]
    · rw [if_neg q, if_neg q]; rfl
theorem stB_n {p : Nat} (h : stB f l p = none) : dgN (bcN (f p)) ≠ 0 ∧ (∀ i, i < dgN (bcN (f p)) → dgB f l (p + 1 + i) = true) ∧ p + 1 + dgN (bcN (f p)) < l ∧ bcN (f (p + 1 + dgN (bcN (f p)))) = 59 ∧ nxN f p ≤ l := by
  unfold stB at h
  by_cases q : dgN (bcN (f p)) = 0
  · rw [if_pos q] at h; cases h
  · rw [if_neg q] at h
    unfold stC at h
    split at h
    · rename_i h1
      obtain ⟨h1, h2, h3⟩ := h1
      obtain ⟨a1, a2⟩ := sc_t h1
      rw [a1] at h2 h3
      exact ⟨q, a2, h2, h3, by unfold nxN; omega⟩
    · cases h
end TX2
/-- a SHELF with a TEXT on it -/
def Tx (A : yM) (d l : Nat) (f : Nat → Int32) : Prop := d < 8 ∧ l ≤ 100 ∧ A (60 + 2 * d) 4 = nI l ∧ A 90 d = nI l ∧ ∀ i, i < l → A (61 + 2 * d) i = f i ∧ A 91 (100 * d + i) = f i ∧ isBy (f i)
theorem Tx_eq {A A' : yM} {d l : Nat} {f : Nat → Int32} (h : Tx A d l f) (h1 : ∀ p, 60 ≤ p ∧ p ≤ 75 → A' p = A p) (h2 : ∀ p, p = 90 ∨ p = 91 → A' p = A p) : Tx A' d l f := by
  obtain ⟨a1, a2, a3, a4, a5⟩ := h
  refine ⟨a1, a2, ?_, ?_, fun i hi => ?_⟩
  · rw [h1 _ (by omega)]; exact a3
  · rw [h2 90 (Or.inl rfl)]; exact a4
  · rw [h1 _ (by omega), h2 91 (Or.inr rfl)]; exact a5 i hi
section B14
variable {A : yM} {M I : Mt} {hI : Nat} {T : Nat → Nat → Nat} {c : Nat → Nat → Int32} {g : Nat} {n d l p : Nat} {f : Nat → Int32}
theorem n1n : (-nI 1 : Int32) < nI 0 := by decide +kernel
theorem X9_digitsBehind_ok (hn : 1 ≤ n) {x : Int32} (h : isBy x) : ycall n 63 [.int x] A = some (some (.int (if dgN (bcN x) = 0 then -nI 1 else nI (dgN (bcN x)))), A) := by
  obtain ⟨n, rfl⟩ := Nat.exists_eq_add_of_le' hn
  rw [en_X9_digitsBehind]
  simp (disch := omega) only [l_lit, bc_eq h]
  unfold dgN
  repeat' split
  all_goals first | rfl | (exfalso; omega) | simp_all
theorem X7_hasPlace_ok (hn : 1 ≤ n) (ht : Tx A d l f) {i : Nat} (hi : i < 1000) : ycall n 55 [.ref (60 + 2 * d), .int (nI i)] A = some (some (.int (bI (decide (i < l)))), A) := by
  obtain ⟨n, rfl⟩ := Nat.exists_eq_add_of_le' hn
  obtain ⟨hd, hl, h4, -, -⟩ := ht
  rw [en_X7_hasPlace]
  simp (disch := omega) only [l_lit, nI_ltI, Nat.not_lt_zero, ↓reduceIte, ↓sh_I hd, h4, nI_leI, true_or, or_true]
  by_cases q : l ≤ i
  · rw [if_pos q, decide_eq_false (by omega)]; rfl
  · rw [if_neg q, decide_eq_true (by omega)]; rfl
theorem fo_in (ht : Tx A d l f) {k : Nat} (hk : k ≤ 6) (hp : p < l) : ∀ (j i : Nat), j + i = k + 1 → 1 ≤ i → p + i ≤ l → yb_X9_faultOfForm (ycall (n + 1)) (37, [some (.ref (60 + 2 * d)), some (.int (nI p)), some (.int (nI k)), some (.int (nI i)), none], [], A) = (match stC f l (sc f l j (p + i)) with
    | none => yb_X9_faultOfForm (ycall (n + 1)) (11, [some (.ref (60 + 2 * d)), some (.int (nI (p + k + 2))), none, none, none], [], A)
    | some q => some (some (.int (nI q)), A)) := by
  have hT := ht
  obtain ⟨hd, hl, h4, -, h5⟩ := ht
  intro j
  induction j with
  | zero =>
    intro i hi h1 hpl
    have n10 : (nI 1 = nI 0) = False := eq_false (by decide +kernel)
    have hik : i = k + 1 := by omega
    subst hik
    refine (bk_X9_faultOfForm_37 ..).trans ?_
    have esc : stC f l (sc f l 0 (p + (k + 1))) = if (true = true ∧ p + (k + 1) < l ∧ bcN (f (p + (k + 1))) = 59) then none else some (p + (k + 1)) := rfl
    rw [esc]
    simp (disch := omega) only [l_lit, nI_add, nI_ltI, Nat.lt_irrefl, ↓reduceIte, ↓sh_v hd, X7_hasPlace_ok _ hT, yi_b]
    by_cases q : p + (k + 1) < l
    · have hb := h5 _ q
      simp (disch := omega) only [decide_eq_true q, bI_t, n10, ↓reduceIte, ↓sh_R hd, ↓sh_rd hd, hb.1, show k < k + 1 by omega, bc_eq hb.2.2]
      by_cases q2 : bcN (f (p + (k + 1))) = 59
      · rw [if_pos q2, if_pos ⟨trivial, q, q2⟩]
        refine (bk_X9_faultOfForm_37 ..).trans ?_
        simp (disch := omega) only [l_lit, nI_add, nI_ltI, show k + 1 < k + 1 + 1 by omega, ↓reduceIte]
        rw [show p + (k + 2) = p + k + 2 by omega]
      · rw [if_neg q2, if_neg (fun z => q2 z.2.2)]
    · simp (disch := omega) only [decide_eq_false q, bI_f, ↓reduceIte, ↓sh_I hd, h4]
      rw [if_neg (fun z => q z.2.1), show p + (k + 1) = l by omega]
  | succ j ih =>
    intro i hi h1 hpl
    have n10 : (nI 1 = nI 0) = False := eq_false (by decide +kernel)
    refine (bk_X9_faultOfForm_37 ..).trans ?_
    rw [sc_s]
    simp (disch := omega) only [l_lit, nI_add, nI_ltI, show ¬ k + 1 < i by omega, ↓reduceIte, ↓sh_v hd, X7_hasPlace_ok _ hT, yi_b]
    by_cases q : p + i < l
    · have hb := h5 _ q
      simp (disch := omega) only [decide_eq_true q, bI_t, n10, ↓reduceIte, ↓sh_R hd, ↓sh_rd hd, hb.1, show ¬ k < i by omega, bc_dig hb.2.2]
      by_cases q2 : 48 ≤ bcN (f (p + i)) ∧ bcN (f (p + i)) ≤ 57
      · rw [if_pos q2, if_pos (show dgB f l (p + i) = true from decide_eq_true ⟨q, q2⟩), ih (i + 1) (by omega) (by omega) (by omega)]
        rfl
      · rw [if_neg q2, if_neg (show ¬ dgB f l (p + i) = true from fun z => q2 (of_decide_eq_true z).2)]
        rfl
    · simp (disch := omega) only [decide_eq_false q, bI_f, ↓reduceIte, ↓sh_I hd, h4]
      rw [if_neg (show ¬ dgB f l (p + i) = true from fun z => q (of_decide_eq_true z).1), show p + i = l by omega]
      rfl
def od1 : Option Nat → Int32
  | none => -nI 1
  | some q => nI q
theorem fo_loop (ht : Tx A d l f) : ∀ (j p : Nat), l ≤ p + j → p ≤ l → yb_X9_faultOfForm (ycall (n + 1)) (11, [some (.ref (60 + 2 * d)), some (.int (nI p)), none, none, none], [], A) = some (some (.int (od1 (fmN f l j p))), A) := by
  have hT := ht
  obtain ⟨hd, hl, h4, -, h5⟩ := ht
  intro j
  induction j with
  | zero =>
    intro p h1 h2
    refine (bk_X9_faultOfForm_11 ..).trans ?_
    simp (disch := omega) only [l_lit, ↓sh_I hd, h4, nI_leI, show l ≤ p by omega, ↓reduceIte]
    rfl
  | succ j ih =>
    intro p h1 h2
    by_cases hp : l ≤ p
    · refine (bk_X9_faultOfForm_11 ..).trans ?_
      have e1 : fmN f l (j + 1) p = none := if_pos hp
      simp (disch := omega) only [l_lit, ↓sh_I hd, h4, nI_leI, hp, ↓reduceIte, e1]
      rfl
    · have hb := h5 p (by omega)
      have e1 : fmN f l (j + 1) p = (match stB f l p with
        | some q => some q
        | none => fmN f l j (nxN f p)) := if_neg hp
      have hdl := dgN_le (bcN (f p))
      rw [e1]
      refine (bk_X9_faultOfForm_11 ..).trans ?_
      simp (disch := omega) only [l_lit, ↓sh_I hd, h4, nI_leI, hp, ↓reduceIte, ↓sh_R hd, ↓sh_rd hd, hb.1, X9_digitsBehind_ok _ hb.2.2, yi_b]
      unfold stB
      by_cases q : dgN (bcN (f p)) = 0
      · have n1 : (nI 0 ≤ -nI 1) = False := eq_false (by decide +kernel)
        simp only [q, ↓reduceIte, n1]
        rfl
      · have n1 : (nI 0 ≤ nI (dgN (bcN (f p)))) = True := eq_true (nI_le (Nat.zero_le _) (by omega))
        simp only [q, ↓reduceIte, n1]
        rw [fo_in hT (by omega) (by omega) (dgN (bcN (f p))) 1 (by omega) (by omega) (by omega)]
        cases hs : stC f l (sc f l (dgN (bcN (f p))) (p + 1)) with
        | some q => rfl
        | none =>
          have hs2 : stB f l p = none := by unfold stB; rw [if_neg q]; exact hs
          have hnx := (stB_n hs2).2.2.2.2
          exact ih (nxN f p) (by unfold nxN; omega) hnx
theorem X9_form_ok (hn : 2 ≤ n) (ht : Tx A d l f) : ycall n 64 [.ref (60 + 2 * d)] A = some (some (.int (if l = 0 then nI 0 else od1 (fmN f l l 0))), A) := by
  obtain ⟨n, rfl⟩ := Nat.exists_eq_add_of_le' hn
  have h := fo_loop (n := n) ht l 0 (by omega) (by omega)
  obtain ⟨hd, hl, h4, -, h5⟩ := ht
  rw [en_X9_faultOfForm]
  have e0 : (nI l = nI 0) = (l = 0) := propext (nI_eq (by omega) (by omega))
  simp (disch := omega) only [l_lit, ↓sh_I hd, h4, e0]
  by_cases q : l = 0
  · rw [if_pos q, if_pos q]
  · rw [if_neg q, if_neg q]; exact h
/-- a digit, two digits -/
def dD (f : Nat → Int32) (i : Nat) : Nat := bcN (f i) - 48
def dW (f : Nat → Int32) (i : Nat) : Nat := 10 * dD f i + dD f (i + 1)
/-- what a STATEMENT does -/
def ddN (f : Nat → Int32) (M : Mt) (p : Nat) : Option Mt :=
  if bcN (f p) = 99 then (if dD f (p + 1) < M 0 0 ∧ dW f (p + 2) < M 0 1 ∧ (M 3 (dD f (p + 1)) = 1 ∧ M 4 (dW f (p + 2)) ≠ dD f (p + 1) ∧ M 8 (dW f (p + 2)) = 0) then some (ceM M (dD f (p + 1)) (dW f (p + 2))) else none)
  else if bcN (f p) = 100 then (if dD f (p + 1) < M 0 0 then some (tuN M (dD f (p + 1))) else none)
  else if bcN (f p) = 101 then (if dD f (p + 1) < M 0 0 ∧ dD f (p + 2) < 6 ∧ (dW f (p + 5) = 99 ∨ dW f (p + 5) < M 0 1) ∧ M 3 (dD f (p + 1)) = 1 ∧ M 0 1 < 12 then some (aeN M (dD f (p + 1)) (dD f (p + 2)) (dW f (p + 3)) (dW f (p + 5))) else none)
  else if bcN (f p) = 115 then (if dD f (p + 1) < 8 ∧ M 0 0 < 6 then some (asN M (dD f (p + 1)) (dD f (p + 2))) else none)
  else (if 1 ≤ dW f (p + 1) ∧ dW f (p + 1) ≤ 60 ∧ M 0 2 + dW f (p + 1) ≤ 999 then some (wsN M (dW f (p + 1))) else none)
theorem dg_ok {i : Nat} (h : dgB f l i = true) : i < l ∧ 48 ≤ bcN (f i) ∧ bcN (f i) ≤ 57 ∧ dD f i < 10 := by
  obtain ⟨h1, h2, h3⟩ := of_decide_eq_true h
  exact ⟨h1, h2, h3, by unfold dD; omega⟩
/-- the letters, and the digits behind each -/
theorem st_cases (h : stB f l p = none) : (bcN (f p) = 99 ∧ dgB f l (p + 1) = true ∧ dgB f l (p + 2) = true ∧ dgB f l (p + 3) = true) ∨ (bcN (f p) = 100 ∧ dgB f l (p + 1) = true) ∨ (bcN (f p) = 101 ∧ dgB f l (p + 1) = true ∧ dgB f l (p + 2) = true ∧ dgB f l (p + 3) = true ∧ dgB f l (p + 4) = true ∧ dgB f l (p + 5) = true ∧ dgB f l (p + 6) = true) ∨ (bcN (f p) = 115 ∧ dgB f l (p + 1) = true ∧ dgB f l (p + 2) = true) ∨ (bcN (f p) = 119 ∧ dgB f l (p + 1) = true ∧ dgB f l (p + 2) = true) := by
  obtain ⟨h1, h2, -⟩ := stB_n h
  by_cases q1 : bcN (f p) = 99
  · have e : dgN (bcN (f p)) = 3 := by rw [q1]; rfl
    rw [e] at h2
    exact Or.inl ⟨q1, h2 0 (by omega), h2 1 (by omega), h2 2 (by omega)⟩
  by_cases q2 : bcN (f p) = 100
  · have e : dgN (bcN (f p)) = 1 := by rw [q2]; rfl
    rw [e] at h2
    exact Or.inr (Or.inl ⟨q2, h2 0 (by omega)⟩)
  by_cases q3 : bcN (f p) = 101
  · have e : dgN (bcN (f p)) = 6 := by rw [q3]; rfl
    rw [e] at h2
    exact Or.inr (Or.inr (Or.inl ⟨q3, h2 0 (by omega), h2 1 (by omega), h2 2 (by omega), h2 3 (by omega), h2 4 (by omega), h2 5 (by omega)⟩))
  by_cases q4 : bcN (f p) = 115
  · have e : dgN (bcN (f p)) = 2 := by rw [q4]; rfl
    rw [e] at h2
    exact Or.inr (Or.inr (Or.inr (Or.inl ⟨q4, h2 0 (by omega), h2 1 (by omega)⟩)))
  by_cases q5 : bcN (f p) = 119
  · have e : dgN (bcN (f p)) = 2 := by rw [q5]; rfl
    rw [e] at h2
    exact Or.inr (Or.inr (Or.inr (Or.inr ⟨q5, h2 0 (by omega), h2 1 (by omega)⟩)))
  · exact absurd (by unfold dgN; rw [if_neg q1, if_neg q2, if_neg q3, if_neg q4, if_neg q5]) h1
theorem X9_digit_ok (hn : 1 ≤ n) (ht : Tx A d l f) {i : Nat} (h : dgB f l i = true) : ycall n 68 [.ref (60 + 2 * d), .int (nI i)] A = some (some (.int (nI (dD f i))), A) := by
  obtain ⟨n, rfl⟩ := Nat.exists_eq_add_of_le' hn
  obtain ⟨hd, hl, h4, -, h5⟩ := ht
  obtain ⟨a1, a2, a3, a4⟩ := dg_ok h
  have hb := h5 i a1
  have hx : f i = nI (bcN (f i)) := (bc_ok hb.2.2).2.2.1 (by omega)
  rw [en_X9_digit]
  simp (disch := omega) only [↓sh_R hd, ↓sh_rd hd, hb.1, l_lit]
  have e : f i - nI 48 = nI (dD f i) := by
    unfold dD
    rw [← nI_sub a2, ← hx]
  rw [e]
theorem X9_two_ok (hn : 2 ≤ n) (ht : Tx A d l f) {i : Nat} (h : dgB f l i = true) (h2 : dgB f l (i + 1) = true) : ycall n 69 [.ref (60 + 2 * d), .int (nI i)] A = some (some (.int (nI (dW f i))), A) := by
  obtain ⟨n, rfl⟩ := Nat.exists_eq_add_of_le' hn
  rw [en_X9_twoDigits]
  simp (disch := omega) only [l_lit, nI_add, X9_digit_ok _ ht h, X9_digit_ok _ ht h2, yi_b, nI_mul]
  rfl
theorem dW_lt {i : Nat} (h : dgB f l i = true) (h2 : dgB f l (i + 1) = true) : dW f i < 100 := by
  have a := (dg_ok h).2.2.2
  have b := (dg_ok h2).2.2.2
  unfold dW; omega
theorem nn {k : Nat} (hk : k < 2 ^ 31) : (nI 0 ≤ nI k) = True := eq_true (nI_le (Nat.zero_le _) hk)
theorem X9_answer_ok (hn : 8 ≤ n) (ht : Tx A d l f) (hs : stB f l p = none) (hp : p < l) (hc : Col A 21 M) (hg : Good M) (hw : M 0 2 ≤ 999) : ∃ r A', ycall n 67 [.ref (60 + 2 * d), .int (nI p), .ref 21] A = some (some (.int r), A') ∧ Fr 21 A A' ∧ (match ddN f M p with
    | some M' => (nI 0 ≤ r) = True ∧ Col A' 21 M'
    | none => (nI 0 ≤ r) = False) := by
  obtain ⟨n, rfl⟩ := Nat.exists_eq_add_of_le' (show 1 ≤ n by omega)
  have hT := ht
  obtain ⟨hd, hl, h4, -, h5⟩ := ht
  have hb := h5 p hp
  have hE := gE hg
  have hS := gS hg
  have m1 : (nI 0 ≤ -nI 1) = False := eq_false (by decide +kernel)
  have m2 : (nI 0 ≤ -nI 2) = False := eq_false (by decide +kernel)
  have m3 : (nI 0 ≤ -nI 3) = False := eq_false (by decide +kernel)
  rcases st_cases hs with ⟨q, d1, d2, d3⟩ | ⟨q, d1⟩ | ⟨q, d1, d2, d3, d4, d5, d6⟩ | ⟨q, d1, d2⟩ | ⟨q, d1, d2⟩
  · have b1 := (dg_ok d1).2.2.2
    have b2 := dW_lt d2 d3
    have go : ∀ r A', ycall n 7 [.ref 21, .int (nI (dD f (p + 1))), .int (nI (dW f (p + 2)))] A = some (some (.int r), A') → ycall (n + 1) 67 [.ref (60 + 2 * d), .int (nI p), .ref 21] A = some (some (.int r), A') := fun r A' h => by
      rw [en_X9_answerOf]
      simp (disch := omega) only [↓sh_R hd, ↓sh_rd hd, hb.1, l_lit, bc_eq hb.2.2, q, ↓reduceIte, nI_add, X9_digit_ok _ hT d1, X9_two_ok _ hT d2 d3, yi_b, cV isB21, h]
    unfold ddN
    rw [if_pos q]
    by_cases h1 : dD f (p + 1) < M 0 0
    · by_cases h2 : dW f (p + 2) < M 0 1
      · by_cases h3 : M 3 (dD f (p + 1)) = 1 ∧ M 4 (dW f (p + 2)) ≠ dD f (p + 1) ∧ M 8 (dW f (p + 2)) = 0
        · obtain ⟨A', a1, a2, a3⟩ := X0_correctError_ok (n := n) (by omega) hc hg h1 h2 h3.1 h3.2.1 h3.2.2
          have h6 := (gEr hg h2).2.2.1
          refine ⟨_, A', go _ _ a1, a3, ?_⟩
          rw [if_pos ⟨h1, h2, h3⟩]
          exact ⟨nn (by omega), a2⟩
        · refine ⟨_, A, go _ _ (X0_correctError_no (by omega) hc hg h1 h2 h3), Fr_r _ _, ?_⟩
          rw [if_neg (fun z => h3 z.2.2)]
          exact m3
      · refine ⟨-nI 1, A, go _ _ ?_, Fr_r _ _, ?_⟩
        · obtain ⟨n, rfl⟩ := Nat.exists_eq_add_of_le' (show 1 ≤ n by omega)
          have n10 : (nI 1 = nI 0) = False := eq_false (by decide +kernel)
          rw [en_X0_correctError]
          simp (disch := omega) only [cV isB21, X0_hasStudent_ok _ hc, X0_hasError_ok _ hc, okI_at h1, okI_at_f (show M 0 1 ≤ dW f (p + 2) by omega), bI_t, bI_f, yi_b, l_lit, n10, ↓reduceIte]
        · rw [if_neg (fun z => h2 z.2.1)]
          exact m1
    · refine ⟨-nI 1, A, go _ _ ?_, Fr_r _ _, ?_⟩
      · obtain ⟨n, rfl⟩ := Nat.exists_eq_add_of_le' (show 1 ≤ n by omega)
        rw [en_X0_correctError]
        simp (disch := omega) only [cV isB21, X0_hasStudent_ok _ hc, okI_at_f (show M 0 0 ≤ dD f (p + 1) by omega), bI_f, yi_b, l_lit, ↓reduceIte]
      · rw [if_neg (fun z => h1 z.1)]
        exact m1
  · have b1 := (dg_ok d1).2.2.2
    have go : ∀ r A', ycall n 8 [.ref 21, .int (nI (dD f (p + 1)))] A = some (some (.int r), A') → ycall (n + 1) 67 [.ref (60 + 2 * d), .int (nI p), .ref 21] A = some (some (.int r), A') := fun r A' h => by
      rw [en_X9_answerOf]
      simp (disch := omega) only [↓sh_R hd, ↓sh_rd hd, hb.1, l_lit, bc_eq hb.2.2, q, Nat.reduceEqDiff, ↓reduceIte, nI_add, X9_digit_ok _ hT d1, yi_b, cV isB21, h]
    unfold ddN
    rw [if_neg (by omega), if_pos q]
    by_cases h1 : dD f (p + 1) < M 0 0
    · obtain ⟨A', a1, a2, a3⟩ := X0_turnStudent_ok (n := n) (by omega) hc hg h1
      refine ⟨_, A', go _ _ a1, a3, ?_⟩
      rw [if_pos h1]
      exact ⟨nn (by omega), a2⟩
    · refine ⟨-nI 1, A, go _ _ ?_, Fr_r _ _, ?_⟩
      · obtain ⟨n, rfl⟩ := Nat.exists_eq_add_of_le' (show 1 ≤ n by omega)
        rw [en_X0_turnStudent]
        simp (disch := omega) only [cV isB21, X0_hasStudent_ok _ hc, okI_at_f (show M 0 0 ≤ dD f (p + 1) by omega), bI_f, yi_b, l_lit, ↓reduceIte]
      · rw [if_neg h1]
        exact m1
  · have b1 := (dg_ok d1).2.2.2
    have b2 := (dg_ok d2).2.2.2
    have b3 := dW_lt d3 d4
    have b5 := dW_lt d5 d6
    have go : ∀ r A', ycall n 6 [.ref 21, .int (nI (dD f (p + 1))), .int (nI (dD f (p + 2))), .int (nI (dW f (p + 3))), .int (nI (dW f (p + 5)))] A = some (some (.int r), A') → ycall (n + 1) 67 [.ref (60 + 2 * d), .int (nI p), .ref 21] A = some (some (.int r), A') := fun r A' h => by
      rw [en_X9_answerOf]
      simp (disch := omega) only [↓sh_R hd, ↓sh_rd hd, hb.1, l_lit, bc_eq hb.2.2, q, Nat.reduceEqDiff, ↓reduceIte, nI_add, X9_digit_ok _ hT d1, X9_digit_ok _ hT d2, X9_two_ok _ hT d3 d4, X9_two_ok _ hT d5 d6, yi_b, cV isB21, h]
    unfold ddN
    rw [if_neg (by omega), if_neg (by omega), if_pos q]
    by_cases hbad : dD f (p + 1) < M 0 0 ∧ dD f (p + 2) < 6 ∧ (dW f (p + 5) = 99 ∨ dW f (p + 5) < M 0 1)
    · obtain ⟨h1, h2, h3⟩ := hbad
      have hin := gP hg h1
      by_cases h6 : M 3 (dD f (p + 1)) = 1 ∧ M 0 1 < 12
      · obtain ⟨A', a1, a2, a3⟩ := X0_addError_ok (n := n) (by omega) hc hg h1 h2 b3 h3 h6.2 h6.1
        refine ⟨_, A', go _ _ a1, a3, ?_⟩
        rw [if_pos ⟨h1, h2, h3, h6.1, h6.2⟩]
        exact ⟨nn (by omega), a2⟩
      · refine ⟨_, A, go _ _ (X0_addError_in (by omega) hc hg h1 h2 b3 h3 (by omega)), Fr_r _ _, ?_⟩
        rw [if_neg (fun z => h6 z.2.2.2)]
        show (nI 0 ≤ (if _ then _ else _)) = False
        split
        · exact m3
        · exact m2
    · refine ⟨-nI 1, A, go _ _ (X0_addError_no (by omega) hc _ _ _ _ ?_), Fr_r _ _, ?_⟩
      · by_cases h1 : dD f (p + 1) < M 0 0
        · by_cases h2 : dD f (p + 2) < 6
          · refine Or.inr (Or.inr (Or.inr ⟨eq_false (fun z => hbad ⟨h1, h2, Or.inl ((nI_eq (by omega) (by omega)).mp z)⟩), okI_at_f ?_ (by omega)⟩))
            have : ¬ dW f (p + 5) < M 0 1 := fun z => hbad ⟨h1, h2, Or.inr z⟩
            omega
          · exact Or.inr (Or.inl (okI_at_f (by omega) (by omega)))
        · exact Or.inl (okI_at_f (by omega) (by omega))
      · rw [if_neg (fun z => hbad ⟨z.1, z.2.1, z.2.2.1⟩)]
        exact m1
  · have b1 := (dg_ok d1).2.2.2
    have b2 := (dg_ok d2).2.2.2
    have go : ∀ r A', ycall n 5 [.ref 21, .int (nI (dD f (p + 1))), .int (nI (dD f (p + 2)))] A = some (some (.int r), A') → ycall (n + 1) 67 [.ref (60 + 2 * d), .int (nI p), .ref 21] A = some (some (.int r), A') := fun r A' h => by
      rw [en_X9_answerOf]
      simp (disch := omega) only [↓sh_R hd, ↓sh_rd hd, hb.1, l_lit, bc_eq hb.2.2, q, Nat.reduceEqDiff, ↓reduceIte, nI_add, X9_digit_ok _ hT d1, X9_digit_ok _ hT d2, yi_b, cV isB21, h]
    unfold ddN
    rw [if_neg (by omega), if_neg (by omega), if_neg (by omega), if_pos q]
    by_cases h1 : dD f (p + 1) < 8
    · by_cases h6 : M 0 0 < 6
      · obtain ⟨A', a1, a2, a3⟩ := X0_addStudent_ok (n := n) (by omega) hc hg h1 b2 h6
        refine ⟨_, A', go _ _ a1, a3, ?_⟩
        rw [if_pos ⟨h1, h6⟩]
        exact ⟨nn (by omega), a2⟩
      · refine ⟨_, A, go _ _ (X0_addStudent_full (by omega) hc h1 b2 (by omega)), Fr_r _ _, ?_⟩
        rw [if_neg (fun z => h6 z.2)]
        exact m2
    · refine ⟨-nI 1, A, go _ _ ?_, Fr_r _ _, ?_⟩
      · obtain ⟨n, rfl⟩ := Nat.exists_eq_add_of_le' (show 1 ≤ n by omega)
        rw [en_X0_addStudent]
        simp (disch := omega) only [l_lit, nI_ltI, nI_leI, show 8 ≤ dD f (p + 1) by omega, Nat.not_lt_zero, ↓reduceIte]
      · rw [if_neg (fun z => h1 z.1)]
        exact m1
  · have b1 := dW_lt d1 d2
    have go : ∀ r A', ycall n 9 [.ref 21, .int (nI (dW f (p + 1)))] A = some (some (.int r), A') → ycall (n + 1) 67 [.ref (60 + 2 * d), .int (nI p), .ref 21] A = some (some (.int r), A') := fun r A' h => by
      rw [en_X9_answerOf]
      simp (disch := omega) only [↓sh_R hd, ↓sh_rd hd, hb.1, l_lit, bc_eq hb.2.2, q, Nat.reduceEqDiff, ↓reduceIte, nI_add, X9_two_ok _ hT d1 d2, yi_b, cV isB21, h]
    unfold ddN
    rw [if_neg (by omega), if_neg (by omega), if_neg (by omega), if_neg (by omega)]
    obtain ⟨n, rfl⟩ := Nat.exists_eq_add_of_le' (show 1 ≤ n by omega)
    by_cases h1 : 1 ≤ dW f (p + 1) ∧ dW f (p + 1) ≤ 60
    · by_cases h6 : M 0 2 + dW f (p + 1) ≤ 999
      · obtain ⟨A', a1, a2, a3⟩ := X0_passWeeks_ok (n := n) (x := dW f (p + 1)) (by omega) hc hg (by omega) (by omega)
        refine ⟨nI 0, A', go _ _ ?_, a3, ?_⟩
        · rw [en_X0_letWeeksGo]
          simp (disch := omega) only [l_lit, nI_ltI, nI_leI, show ¬ dW f (p + 1) < 1 by omega, h1.2, ↓reduceIte, cgI isB21, cWk hc, nI_add, h6, cV isB21, a1, yv_b]
        · rw [if_pos ⟨h1.1, h1.2, h6⟩]
          exact ⟨nn (by omega), a2⟩
      · refine ⟨-nI 3, A, go _ _ ?_, Fr_r _ _, ?_⟩
        · rw [en_X0_letWeeksGo]
          simp (disch := omega) only [l_lit, nI_ltI, nI_leI, show ¬ dW f (p + 1) < 1 by omega, h1.2, ↓reduceIte, cgI isB21, cWk hc, nI_add, h6]
        · rw [if_neg (fun z => h6 z.2.2)]
          exact m3
    · refine ⟨-nI 1, A, go _ _ ?_, Fr_r _ _, ?_⟩
      · rw [en_X0_letWeeksGo]
        by_cases h7 : dW f (p + 1) < 1
        · simp (disch := omega) only [l_lit, nI_ltI, h7, ↓reduceIte]
        · simp (disch := omega) only [l_lit, nI_ltI, nI_leI, h7, show ¬ dW f (p + 1) ≤ 60 by omega, ↓reduceIte]
      · rw [if_neg (fun z => h1 ⟨z.1, z.2.1⟩)]
        exact m1
theorem dd_good {M' : Mt} (hs : stB f l p = none) (hg : Good M) (hw : M 0 2 ≤ 999) (h : ddN f M p = some M') : Good M' ∧ M' 0 2 ≤ 999 := by
  unfold ddN at h
  rcases st_cases hs with ⟨q, d1, d2, d3⟩ | ⟨q, d1⟩ | ⟨q, d1, d2, d3, d4, d5, d6⟩ | ⟨q, d1, d2⟩ | ⟨q, d1, d2⟩
  · rw [if_pos q] at h
    split at h
    · cases h
      refine ⟨ceM_good hg, ?_⟩
      unfold ceM
      rw [mu_ne (by omega), mu_ne (by omega), mu_ne (by omega)]; exact hw
    · cases h
  · rw [if_neg (by omega), if_pos q] at h
    split at h
    · cases h
      refine ⟨tuN_good hg, ?_⟩
      unfold tuN
      rw [mu_ne (by omega)]; exact hw
    · cases h
  · rw [if_neg (by omega), if_neg (by omega), if_pos q] at h
    split at h
    · rename_i hh
      cases h
      refine ⟨aeN_good hg hh.1 hh.2.1 (dW_lt d3 d4) hh.2.2.1 hh.2.2.2.2, ?_⟩
      unfold aeN
      rw [mu_ne (by omega), mu_ne (by omega), mu_ne (by omega), mu_ne (by omega), mu_ne (by omega), mu_ne2 (by omega)]; exact hw
    · cases h
  · rw [if_neg (by omega), if_neg (by omega), if_neg (by omega), if_pos q] at h
    split at h
    · rename_i hh
      cases h
      refine ⟨asN_good hg hh.1 (dg_ok d2).2.2.2 hh.2, ?_⟩
      unfold asN
      rw [mu_ne (by omega), mu_ne (by omega), mu_ne (by omega), mu_ne2 (by omega)]; exact hw
    · cases h
  · rw [if_neg (by omega), if_neg (by omega), if_neg (by omega), if_neg (by omega)] at h
    split at h
    · rename_i hh
      cases h
      exact ⟨wsN_good hg _ (by omega), by rw [wsN_W]; omega⟩
    · cases h
/-- where it can't go on, and what is then -/
def ddL (f : Nat → Int32) (l : Nat) : Nat → Nat → Mt → Option Nat × Mt
  | 0, _, M => (none, M)
  | j + 1, p, M => if l ≤ p then (none, M) else match ddN f M p with
    | none => (some p, M)
    | some M' => ddL f l j (nxN f p) M'
theorem fm_st {j : Nat} (h : fmN f l (j + 1) p = none) (hp : p < l) : stB f l p = none ∧ fmN f l j (nxN f p) = none ∧ nxN f p ≤ l ∧ p + 2 ≤ nxN f p := by
  have e1 : fmN f l (j + 1) p = (match stB f l p with
        | some q => some q
        | none => fmN f l j (nxN f p)) := if_neg (by omega)
  rw [e1] at h
  cases hs : stB f l p with
  | some q => rw [hs] at h; cases h
  | none =>
    rw [hs] at h
    exact ⟨rfl, h, (stB_n hs).2.2.2.2, by unfold nxN; omega⟩
theorem ddL_good : ∀ (j p : Nat) (M : Mt), l ≤ p + j → fmN f l j p = none → Good M → M 0 2 ≤ 999 → Good (ddL f l j p M).2 ∧ (ddL f l j p M).2 0 2 ≤ 999 := by
  intro j
  induction j with
  | zero => intro p M _ _ hg hw; exact ⟨hg, hw⟩
  | succ j ih =>
    intro p M h1 h2 hg hw
    by_cases hp : l ≤ p
    · have e : ddL f l (j + 1) p M = (none, M) := if_pos hp
      rw [e]; exact ⟨hg, hw⟩
    · have e : ddL f l (j + 1) p M = (match ddN f M p with
        | none => (some p, M)
        | some M' => ddL f l j (nxN f p) M') := if_neg hp
      rw [e]
      obtain ⟨s1, s2, s3, s4⟩ := fm_st h2 (by omega)
      cases hd : ddN f M p with
      | none => exact ⟨hg, hw⟩
      | some M' =>
        obtain ⟨g1, g2⟩ := dd_good s1 hg hw hd
        exact ih (nxN f p) M' (by omega) s2 g1 g2
theorem de_loop (hn : 8 ≤ n) : ∀ (j p : Nat) (M : Mt) (A : yM), l ≤ p + j → p ≤ l → fmN f l j p = none → Tx A d l f → Col A 21 M → Good M → M 0 2 ≤ 999 → ∃ A', yb_X9_faultOfDeed (ycall n) (2, [some (.ref (60 + 2 * d)), some (.ref 21), some (.int (nI p)), none], [], A) = some (some (.int (od1 (ddL f l j p M).1)), A') ∧ Fr 21 A A' ∧ ((ddL f l j p M).1 = none → Col A' 21 (ddL f l j p M).2) := by
  intro j
  induction j with
  | zero =>
    intro p M A h1 h2 _ ht hc _ _
    obtain ⟨hd, hl, h4, -, h5⟩ := ht
    refine ⟨A, ?_, Fr_r _ _, fun _ => hc⟩
    refine (bk_X9_faultOfDeed_2 ..).trans ?_
    simp (disch := omega) only [l_lit, ↓sh_I hd, h4, nI_leI, show l ≤ p by omega, ↓reduceIte]
    rfl
  | succ j ih =>
    intro p M A h1 h2 hf ht hc hg hw
    have hT := ht
    obtain ⟨hd, hl, h4, -, h5⟩ := ht
    by_cases hp : l ≤ p
    · have e : ddL f l (j + 1) p M = (none, M) := if_pos hp
      rw [e]
      refine ⟨A, ?_, Fr_r _ _, fun _ => hc⟩
      refine (bk_X9_faultOfDeed_2 ..).trans ?_
      simp (disch := omega) only [l_lit, ↓sh_I hd, h4, nI_leI, hp, ↓reduceIte]
      rfl
    · have e : ddL f l (j + 1) p M = (match ddN f M p with
        | none => (some p, M)
        | some M' => ddL f l j (nxN f p) M') := if_neg hp
      obtain ⟨s1, s2, s3, s4⟩ := fm_st hf (by omega)
      obtain ⟨t1, t2, t3, t4, t5⟩ := stB_n s1
      have hb := h5 p (by omega)
      have hk := dgN_le (bcN (f p))
      obtain ⟨r, A1, a1, a2, a3⟩ := X9_answer_ok hn hT s1 (by omega) hc hg hw
      have n10 : (nI 1 = nI 0) = False := eq_false (by decide +kernel)
      have n1 : (nI (dgN (bcN (f p))) < nI 0) = False := eq_false (nI_pos (by omega))
      have hgo : yb_X9_faultOfDeed (ycall n) (2, [some (.ref (60 + 2 * d)), some (.ref 21), some (.int (nI p)), none], [], A) = if nI 0 ≤ r then (yb_X9_faultOfDeed (ycall n) (2, [some (.ref (60 + 2 * d)), some (.ref 21), some (.int (nI (nxN f p))), none], [], A1)) else (some (some (.int (nI p)), A1)) := by
        refine (bk_X9_faultOfDeed_2 ..).trans ?_
        simp (disch := omega) only [l_lit, ↓sh_I hd, h4, nI_leI, hp, ↓reduceIte, ↓sh_R hd, ↓sh_rd hd, hb.1, X9_digitsBehind_ok _ hb.2.2, yi_b, if_neg t1, n1, nI_add, ↓sh_v hd, X7_hasPlace_ok _ hT, decide_eq_true (show p + dgN (bcN (f p)) + 1 < l by omega), bI_t, n10, a1]
        unfold nxN
        rw [Nat.add_assoc p]
      rw [hgo, e]
      cases hdd : ddN f M p with
      | none =>
        rw [hdd] at a3
        dsimp only at a3
        refine ⟨A1, ?_, a2, fun z => by cases z⟩
        rw [if_neg (by rw [a3]; exact not_false)]
        rfl
      | some M' =>
        rw [hdd] at a3
        dsimp only at a3
        obtain ⟨g1, g2⟩ := dd_good s1 hg hw hdd
        have hT1 : Tx A1 d l f := Tx_eq hT (fun p hp => a2 p (by omega)) (fun p hp => a2 p (by omega))
        obtain ⟨A2, b1, b2, b3⟩ := ih (nxN f p) M' A1 (by omega) s3 s2 hT1 a3.2 g1 g2
        refine ⟨A2, ?_, Fr_t a2 b2, b3⟩
        rw [if_pos (by rw [a3.1]; trivial)]
        exact b1
theorem X9_deed_ok (hn : 9 ≤ n) (ht : Tx A d l f) (hf : fmN f l l 0 = none) (hc : Col A 21 M) (hg : Good M) (hw : M 0 2 ≤ 999) : ∃ A', ycall n 66 [.ref (60 + 2 * d), .ref 21] A = some (some (.int (od1 (ddL f l l 0 M).1)), A') ∧ Fr 21 A A' ∧ ((ddL f l l 0 M).1 = none → Col A' 21 (ddL f l l 0 M).2) := by
  obtain ⟨n, rfl⟩ := Nat.exists_eq_add_of_le' (show 1 ≤ n by omega)
  obtain ⟨A', h⟩ := de_loop (n := n) (by omega) l 0 M A (by omega) (by omega) hf ht hc hg hw
  refine ⟨A', ?_, h.2⟩
  rw [en_X9_faultOfDeed]
  exact h.1
theorem sn_step (ht : Tx A d l f) {i k : Nat} (hi : i < l) : yb_X9_statements (ycall n) (4, [some (.ref (60 + 2 * d)), some (.int (nI k)), some (.int (nI i))], [], A) = if bcN (f i) = 59 then yb_X9_statements (ycall n) (4, [some (.ref (60 + 2 * d)), some (.int (nI (k + 1))), some (.int (nI (i + 1)))], [], A) else yb_X9_statements (ycall n) (4, [some (.ref (60 + 2 * d)), some (.int (nI k)), some (.int (nI (i + 1)))], [], A) := by
  obtain ⟨hd, hl, h4, -, h5⟩ := ht
  have hb := h5 i hi
  refine (bk_X9_statements_4 ..).trans ?_
  simp (disch := omega) only [l_lit, ↓sh_I hd, h4, nI_leI, show ¬ l ≤ i by omega, ↓reduceIte, ↓sh_R hd, ↓sh_rd hd, hb.1, bc_eq hb.2.2, nI_add]
theorem sn_loop (ht : Tx A d l f) : ∀ (j p k : Nat), l ≤ p + j → p ≤ l → fmN f l j p = none → yb_X9_statements (ycall n) (4, [some (.ref (60 + 2 * d)), some (.int (nI k)), some (.int (nI p))], [], A) = some (some (.int (nI (k + stN f l j p))), A) := by
  intro j
  induction j with
  | zero =>
    intro p k h1 h2 _
    obtain ⟨hd, hl, h4, -, h5⟩ := ht
    refine (bk_X9_statements_4 ..).trans ?_
    simp (disch := omega) only [l_lit, ↓sh_I hd, h4, nI_leI, show l ≤ p by omega, ↓reduceIte]
    rfl
  | succ j ih =>
    intro p k h1 h2 hf
    by_cases hp : l ≤ p
    · have e : stN f l (j + 1) p = 0 := if_pos hp
      rw [e]
      obtain ⟨hd, hl, h4, -, h5⟩ := ht
      refine (bk_X9_statements_4 ..).trans ?_
      simp (disch := omega) only [l_lit, ↓sh_I hd, h4, nI_leI, hp, ↓reduceIte]
      rfl
    · have e : stN f l (j + 1) p = 1 + stN f l j (nxN f p) := if_neg hp
      obtain ⟨s1, s2, s3, s4⟩ := fm_st hf (by omega)
      obtain ⟨t1, t2, t3, t4, t5⟩ := stB_n s1
      rw [sn_step ht (by omega), if_neg (fun z => t1 (by rw [z]; rfl))]
      refine (for_up (fun i => yb_X9_statements (ycall n) (4, [some (.ref (60 + 2 * d)), some (.int (nI k)), some (.int (nI (p + 1 + i)))], [], A)) (dgN (bcN (f p))) (fun i hi => ?_)).trans ?_
      · have hdg := dg_ok (t2 i hi)
        exact (sn_step ht hdg.1).trans (if_neg (by omega))
      · rw [sn_step ht t3, if_pos t4, e, show p + 1 + dgN (bcN (f p)) + 1 = nxN f p by unfold nxN; omega, ih (nxN f p) (k + 1) (by omega) s3 s2, show k + 1 + stN f l j (nxN f p) = k + (1 + stN f l j (nxN f p)) by omega]
theorem X9_statements_ok (hn : 1 ≤ n) (ht : Tx A d l f) (hf : fmN f l l 0 = none) : ycall n 65 [.ref (60 + 2 * d)] A = some (some (.int (nI (stN f l l 0))), A) := by
  obtain ⟨n, rfl⟩ := Nat.exists_eq_add_of_le' hn
  rw [en_X9_statements]
  refine (sn_loop ht l 0 0 (by omega) (by omega) hf).trans ?_
  rw [Nat.zero_add]
/-- what a COLLEGE answers -/
def coN (f : Nat → Int32) (l : Nat) (M : Mt) : Int32 := if l = 0 then -nI 1000 - nI 0 else match fmN f l l 0 with
  | some q => -nI 1000 - nI q
  | none => match (ddL f l l 0 M).1 with
    | some q => -nI 2000 - nI q
    | none => nI (stN f l l 0)
def coM (f : Nat → Int32) (l : Nat) (M : Mt) : Mt := if l = 0 then M else match fmN f l l 0 with
  | some _ => M
  | none => match (ddL f l l 0 M).1 with
    | some _ => M
    | none => (ddL f l l 0 M).2
/-- the reference at a place of the TEXT -/
def RS (A : yM) (d l : Nat) (f : Nat → Int32) (p : Nat) : Prop := Tx A d l f ∧ A 79 5 = nI p ∧ A 79 6 = nI (100 * d) ∧ A 79 7 = nI l
def FQ (A A' : yM) : Prop := (∀ q, q ≠ 79 → q ≠ 84 → A' q = A q) ∧ ∀ j, j ≠ 5 → A' 79 j = A 79 j
theorem FQ_r (A : yM) : FQ A A := ⟨fun _ _ _ => rfl, fun _ _ => rfl⟩
theorem FQ_t {A B C : yM} (h1 : FQ A B) (h2 : FQ B C) : FQ A C := ⟨fun q a b => (h2.1 q a b).trans (h1.1 q a b), fun j h => (h2.2 j h).trans (h1.2 j h)⟩
theorem FQ_5 {A : yM} {v : Int32} : FQ A (yup A 79 5 v) := ⟨fun q a _ => yup_ne1 a, fun j h => yup_ne2 h⟩
theorem FQ_84 {A : yM} {k : Nat} {v : Int32} : FQ A (yup A 84 k v) := ⟨fun q _ b => yup_ne1 b, fun j h => yup_ne (by omega)⟩
theorem RS_FQ {A A' : yM} {q : Nat} (h : RS A d l f p) (hf : FQ A A') (h5 : A' 79 5 = nI q) : RS A' d l f q := by
  obtain ⟨h1, h2, h3, h4⟩ := h
  exact ⟨Tx_eq h1 (fun p hp => hf.1 p (by omega) (by omega)) (fun p hp => hf.1 p (by omega) (by omega)), h5, by rw [hf.2 6 (by omega)]; exact h3, by rw [hf.2 7 (by omega)]; exact h4⟩
theorem X12_here_ok (hn : 1 ≤ n) (h : RS A d l f p) (hp : p ≤ l) : ycall n 163 [.ref 79] A = some (some (.int (if p < l then nI (bcN (f p)) else -nI 1)), A) := by
  obtain ⟨n, rfl⟩ := Nat.exists_eq_add_of_le' hn
  obtain ⟨⟨hd, hl, -, -, h5⟩, e5, e6, e7⟩ := h
  rw [en_X12_here]
  simp (disch := omega) only [↓mI, e5, e6, e7, nI_leI, l_lit, ↓mR, nI_add]
  by_cases q : p < l
  · have hb := h5 p q
    rw [if_neg (by omega), if_pos q]
    simp (disch := omega) only [↓m91r, hb.2.1, (bc_ok hb.2.2).2.1]
  · rw [if_pos (by omega), if_neg q]
theorem dg_in (h : Tx A d l f) : decide (¬ (if p < l then nI (bcN (f p)) else -nI 1) < nI 48 ∧ ¬ nI 57 < (if p < l then nI (bcN (f p)) else -nI 1)) = dgB f l p := by
  obtain ⟨hd, hl, -, -, h5⟩ := h
  unfold dgB
  by_cases q : p < l
  · have hb := bc_ok (h5 p q).2.2
    rw [if_pos q]
    congr 1
    apply propext
    rw [nI_ltI (by omega) (by omega), nI_ltI (by omega) (by omega)]
    omega
  · rw [if_neg q, decide_eq_false (fun z => z.1 (by decide +kernel)), decide_eq_false (fun z => q z.1)]
theorem r84 {A : yM} {k : Nat} {K : Int32 → Option yR} (h : k < 4) : yrd A 84 (nI k) K = K (A 84 k) := yrd_at (n := 4) rfl (by omega) h
theorem w84 {A : yM} {k : Nat} {v : Int32} {K : yM → Option yR} (h : k < 4) : ywr A 84 (nI k) v K = K (yup A 84 k v) := ywr_at (n := 4) rfl (by omega) h
def vsN (f : Nat → Int32) : Nat → Nat → Nat → Nat
  | 0, o, _ => o
  | j + 1, o, p => vsN f j (10 * o + dD f p) (p + 1)
theorem rn_loop (hn : 2 ≤ n) {k m : Nat} (hk : k < 4) (hm : m < 1000) : ∀ (j i o p : Nat) (A : yM), i + j = m → RS A d l f p → p ≤ l → A 84 k = nI o → ∃ A', yb_X12_readsNumber (ycall n) (9, [some (.ref 79), some (.int (nI k)), some (.int (nI m)), some (.int (nI i))], [], A) = some (some (.int (bI (sc f l j p).2)), A') ∧ RS A' d l f (sc f l j p).1 ∧ FQ A A' ∧ (∀ j, j ≠ k → A' 84 j = A 84 j) ∧ ((sc f l j p).2 = true → A' 84 k = nI (vsN f j o p)) := by
  intro j
  induction j with
  | zero =>
    intro i o p A hi h hp ho
    refine ⟨A, ?_, h, FQ_r A, fun _ _ => rfl, fun _ => ho⟩
    refine (bk_X12_readsNumber_9 ..).trans ?_
    simp (disch := omega) only [nI_leI, show m ≤ i by omega, ↓reduceIte, or_true]
    rfl
  | succ j ih =>
    intro i o p A hi h hp ho
    have hdg := dg_in (p := p) h.1
    have hH := X12_here_ok (n := n) (by omega) h hp
    have n10 : (nI 1 = nI 0) = False := eq_false (by decide +kernel)
    rw [sc_s]
    by_cases q : dgB f l p = true
    · obtain ⟨q1, q2, q3, q4⟩ := dg_ok q
      rw [q] at hdg
      have h2 : RS (yup (yup A 84 k (nI (10 * o + dD f p))) 79 5 (nI (p + 1))) d l f (p + 1) := RS_FQ h (FQ_t FQ_84 FQ_5) yup_eq
      obtain ⟨A', a1, a2, a3, a4, a5⟩ := ih (i + 1) (10 * o + dD f p) (p + 1) _ (by omega) h2 (by omega) (by rw [yup_ne1 (by omega), yup_eq])
      rw [if_pos q]
      refine ⟨A', ?_, a2, FQ_t (FQ_t FQ_84 FQ_5) a3, fun j hj => ?_, a5⟩
      · rw [← a1]
        refine (bk_X12_readsNumber_9 ..).trans ?_
        rw [if_pos q1] at hH hdg
        have h5' : ∀ v, yup A 84 k v 79 5 = nI p := fun v => by rw [yup_ne1 (by omega)]; exact h.2.1
        simp (disch := omega) only [nI_leI, show ¬ m ≤ i by omega, ↓reduceIte, mV, hH, yi_b, l_lit, X12_isIn_ok, hdg, bI_t, n10, ↓mR, r84, ho, w84, ↓mI, ↓mP, nI_mul, nI_add, nI_sub, h5']
        unfold dD
        rw [show 10 * o + bcN (f p) - 48 = 10 * o + (bcN (f p) - 48) by omega]
      · rw [a4 j hj, yup_ne1 (by omega), yup_ne2 hj]
    · rw [if_neg q]
      have q' : dgB f l p = false := by simpa using q
      rw [q'] at hdg
      refine ⟨A, ?_, h, FQ_r A, fun _ _ => rfl, fun z => by cases z⟩
      refine (bk_X12_readsNumber_9 ..).trans ?_
      simp (disch := omega) only [nI_leI, show ¬ m ≤ i by omega, ↓reduceIte, mV, hH, yi_b, l_lit, X12_isIn_ok, hdg, bI_f, true_or]
theorem rn_ok (hn : 3 ≤ n) {k m : Nat} (hk : k < 4) (hm : m < 1000) (h : RS A d l f p) (hp : p ≤ l) : ∃ A', ycall n 164 [.ref 79, .int (nI k), .int (nI m)] A = some (some (.int (bI (sc f l m p).2)), A') ∧ RS A' d l f (sc f l m p).1 ∧ FQ A A' ∧ (∀ j, j ≠ k → A' 84 j = A 84 j) ∧ ((sc f l m p).2 = true → A' 84 k = nI (vsN f m 0 p)) := by
  obtain ⟨n, rfl⟩ := Nat.exists_eq_add_of_le' (show 1 ≤ n by omega)
  obtain ⟨A', a1, a2, a3, a4, a5⟩ := rn_loop (n := n) (by omega) hk hm m 0 0 p (yup A 84 k (nI 0)) (by omega) (RS_FQ h FQ_84 (by rw [yup_ne1 (by omega)]; exact h.2.1)) hp yup_eq
  refine ⟨A', ?_, a2, FQ_t FQ_84 a3, fun j hj => ?_, a5⟩
  · rw [en_X12_readsNumber]
    simp (disch := omega) only [↓mR, l_lit, w84]
    exact a1
  · rw [a4 j hj, yup_ne2 hj]
theorem fin_ok (hn : 2 ≤ n) {K : Nat} (hK : dgN (bcN (f p)) = K) (hK0 : K ≠ 0) (hp : p < l) (h : RS A d l f (sc f l K (p + 1)).1) : ∃ A', yb_X12_readsStatement (ycall n) (199, [some (.ref 79), none, some (.int (bI (sc f l K (p + 1)).2))], [], A) = some (some (.int (bI (stB f l p).isNone)), A') ∧ RS A' d l f (match stB f l p with
    | some q => q
    | none => nxN f p) ∧ FQ A A' ∧ A' 84 = A 84 := by
  have n10 : (nI 1 = nI 0) = False := eq_false (by decide +kernel)
  have hst : stB f l p = stC f l (sc f l K (p + 1)) := by unfold stB; rw [if_neg (by omega), hK]
  have hle := sc_le (f := f) (j := K) (show p + 1 ≤ l by omega)
  rw [hst]
  by_cases q : (sc f l K (p + 1)).2 = true
  · have hH := X12_here_ok (n := n) (by omega) h hle
    obtain ⟨e1, -⟩ := sc_t q
    have hl := h.1.2.1
    by_cases q2 : (sc f l K (p + 1)).1 < l ∧ bcN (f (sc f l K (p + 1)).1) = 59
    · have hsn : stC f l (sc f l K (p + 1)) = none := if_pos ⟨q, q2.1, q2.2⟩
      rw [hsn]
      refine ⟨yup A 79 5 (nI ((sc f l K (p + 1)).1 + 1)), ?_, RS_FQ h FQ_5 (by rw [yup_eq, e1]; show _ = nI (nxN f p); unfold nxN; rw [hK]; congr 1; omega), FQ_5, yup_ne1 (by omega)⟩
      refine (bk_X12_readsStatement_199 ..).trans ?_
      rw [if_pos q2.1, q2.2] at hH
      simp (disch := omega) only [q, bI_t, n10, ↓reduceIte, mV, hH, yi_b, l_lit, ↓mI, ↓mP, h.2.1, nI_add, or_true]
      rfl
    · have hsn : stC f l (sc f l K (p + 1)) = some (sc f l K (p + 1)).1 := if_neg (fun z => q2 z.2)
      rw [hsn]
      refine ⟨A, ?_, h, FQ_r A, rfl⟩
      refine (bk_X12_readsStatement_199 ..).trans ?_
      have hne : ((if (sc f l K (p + 1)).1 < l then nI (bcN (f (sc f l K (p + 1)).1)) else -nI 1) = nI 59) = False := by
        refine eq_false (fun z => ?_)
        by_cases q3 : (sc f l K (p + 1)).1 < l
        · rw [if_pos q3] at z
          have hb := bc_ok (h.1.2.2.2.2 _ q3).2.2
          exact q2 ⟨q3, (nI_eq (by omega) (by omega)).mp z⟩
        · rw [if_neg q3] at z
          exact absurd z (by decide +kernel)
      simp (disch := omega) only [q, bI_t, n10, ↓reduceIte, mV, hH, yi_b, l_lit, hne, true_or]
      rfl
  · have hsn : stC f l (sc f l K (p + 1)) = some (sc f l K (p + 1)).1 := if_neg (fun z => q z.1)
    have q' : (sc f l K (p + 1)).2 = false := by simpa using q
    rw [hsn]
    refine ⟨A, ?_, h, FQ_r A, rfl⟩
    refine (bk_X12_readsStatement_199 ..).trans ?_
    simp (disch := omega) only [q', bI_f, ↓reduceIte, l_lit, true_or]
    rfl
/-- the numbers that were read -/
def NB (A : yM) (f : Nat → Int32) (p : Nat) : Prop := (bcN (f p) = 99 → A 84 0 = nI (dD f (p + 1)) ∧ A 84 1 = nI (dW f (p + 2))) ∧ (bcN (f p) = 100 → A 84 0 = nI (dD f (p + 1))) ∧ (bcN (f p) = 101 → A 84 0 = nI (dD f (p + 1)) ∧ A 84 1 = nI (dD f (p + 2)) ∧ A 84 2 = nI (dW f (p + 3)) ∧ A 84 3 = nI (dW f (p + 5))) ∧ (bcN (f p) = 115 → A 84 0 = nI (dD f (p + 1)) ∧ A 84 1 = nI (dD f (p + 2))) ∧ (bcN (f p) = 119 → A 84 0 = nI (dW f (p + 1)))
theorem NB_eq {A A' : yM} (h : NB A f p) (e : A' 84 = A 84) : NB A' f p := by unfold NB; rw [e]; exact h
theorem vs1 (p : Nat) : vsN f 1 0 p = dD f p := by
  show 10 * 0 + dD f p = _; omega
theorem vs2 (p : Nat) : vsN f 2 0 p = dW f p := by
  show 10 * (10 * 0 + dD f p) + dD f (p + 1) = 10 * dD f p + dD f (p + 1); omega
theorem rs_ok (hn : 5 ≤ n) (h : RS A d l f p) (hp : p < l) : ∃ A', ycall n 165 [.ref 79] A = some (some (.int (bI (stB f l p).isNone)), A') ∧ RS A' d l f (match stB f l p with
    | some q => q
    | none => nxN f p) ∧ FQ A A' ∧ (stB f l p = none → NB A' f p) := by
  obtain ⟨n, rfl⟩ := Nat.exists_eq_add_of_le' (show 1 ≤ n by omega)
  have hH := X12_here_ok (n := n) (by omega) h (by omega)
  rw [if_pos hp] at hH
  have h3 : RS (yup A 79 5 (nI (p + 1))) d l f (p + 1) := RS_FQ h FQ_5 yup_eq
  have n10 : (nI 1 = nI 0) = False := eq_false (by decide +kernel)
  have h5 := h.2.1
  by_cases q1 : bcN (f p) = 99
  · have hK : dgN (bcN (f p)) = 3 := by rw [q1]; rfl
    obtain ⟨B1, a1, a2, a3, a4, a5⟩ := rn_ok (n := n) (k := 0) (m := 1) (by omega) (by omega) (by omega) h3 (by omega)
    have e1 : sc f l 3 (p + 1) = if (sc f l 1 (p + 1)).2 = true then sc f l 2 (p + 1 + 1) else sc f l 1 (p + 1) := sc_add (i := 1) (j := 2)
    by_cases c1 : (sc f l 1 (p + 1)).2 = true
    · rw [if_pos c1] at e1
      rw [(sc_t c1).1] at a2
      have l1 := dg_ok ((sc_t c1).2 0 (by omega))
      obtain ⟨B2, b1, b2, b3, b4, b5⟩ := rn_ok (n := n) (k := 1) (m := 2) (by omega) (by omega) (by omega) a2 (by omega)
      rw [← e1] at b2
      obtain ⟨B3, f1, f2, f3, f4⟩ := fin_ok (n := n) (by omega) hK (by omega) hp b2
      refine ⟨B3, ?_, f2, FQ_t FQ_5 (FQ_t a3 (FQ_t b3 f3)), fun hs => ?_⟩
      · rw [← f1, en_X12_readsStatement]
        simp (disch := omega) only [mV, hH, yi_b, ↓mI, ↓mP, h5, l_lit, nI_add, q1, ↓reduceIte, a1, c1, bI_t, n10, b1]
        by_cases c2 : (sc f l 2 (p + 1 + 1)).2 = true
        · rw [e1, c2, bI_t, if_neg (by rw [n10]; exact not_false)]
        · rw [e1, show (sc f l 2 (p + 1 + 1)).2 = false by simpa using c2, bI_f, if_pos rfl]
          exact bk_X12_readsStatement_162 ..
      · refine NB_eq (A := B2) ?_ f4
        have hc2 : (sc f l 2 (p + 1 + 1)).2 = true := by
          have := stB_n hs
          unfold stB at hs
          rw [if_neg (by omega), hK] at hs
          unfold stC at hs
          rw [e1] at hs
          split at hs
          · rename_i z; exact z.1
          · cases hs
        refine ⟨fun _ => ⟨?_, ?_⟩, fun z => by omega, fun z => by omega, fun z => by omega, fun z => by omega⟩
        · rw [b4 0 (by omega), a5 c1, vs1]
        · rw [b5 hc2, vs2]
    · have c1' : (sc f l 1 (p + 1)).2 = false := by simpa using c1
      rw [if_neg c1] at e1
      rw [← e1] at a2 c1'
      obtain ⟨B3, f1, f2, f3, f4⟩ := fin_ok (n := n) (by omega) hK (by omega) hp a2
      refine ⟨B3, ?_, f2, FQ_t FQ_5 (FQ_t a3 f3), fun hs => ?_⟩
      · rw [← f1, c1', en_X12_readsStatement]
        simp (disch := omega) only [mV, hH, yi_b, ↓mI, ↓mP, h5, l_lit, nI_add, q1, ↓reduceIte, a1, ← e1, c1', bI_f]
        exact bk_X12_readsStatement_162 ..
      · exfalso
        unfold stB at hs
        rw [if_neg (by omega), hK] at hs
        unfold stC at hs
        rw [if_neg (fun z => by rw [c1'] at z; cases z.1)] at hs
        cases hs
  by_cases q2 : bcN (f p) = 100
  · have hK : dgN (bcN (f p)) = 1 := by rw [q2]; rfl
    obtain ⟨B1, a1, a2, a3, a4, a5⟩ := rn_ok (n := n) (k := 0) (m := 1) (by omega) (by omega) (by omega) h3 (by omega)
    obtain ⟨B3, f1, f2, f3, f4⟩ := fin_ok (n := n) (by omega) hK (by omega) hp a2
    refine ⟨B3, ?_, f2, FQ_t FQ_5 (FQ_t a3 f3), fun hs => ?_⟩
    · rw [← f1, en_X12_readsStatement]
      simp (disch := omega) only [mV, hH, yi_b, ↓mI, ↓mP, h5, l_lit, nI_add, q2, nI_eq, Nat.reduceEqDiff, ↓reduceIte, a1]
    · refine NB_eq (A := B1) ?_ f4
      have hc1 := (stB_n hs).2.1 0 (by omega)
      refine ⟨fun z => by omega, fun _ => ?_, fun z => by omega, fun z => by omega, fun z => by omega⟩
      rw [a5 (by rw [sc_s, if_pos hc1]; rfl), vs1]
  by_cases q3 : bcN (f p) = 101
  · have hK : dgN (bcN (f p)) = 6 := by rw [q3]; rfl
    have go : ∀ B x, yb_X12_readsStatement (ycall n) (135, [some (.ref 79), none, none], [], B) = x → yb_X12_readsStatement (ycall n) (199, [some (.ref 79), none, some (.int (nI 0))], [], B) = x := fun B x hx => (bk_X12_readsStatement_135 ..).symm.trans hx
    have bad : ∀ B r, sc f l 6 (p + 1) = r → r.2 = false → RS B d l f r.1 → FQ A B → ∃ A', yb_X12_readsStatement (ycall n) (135, [some (.ref 79), none, none], [], B) = some (some (.int (bI (stB f l p).isNone)), A') ∧ RS A' d l f (match stB f l p with
      | some q => q
      | none => nxN f p) ∧ FQ A A' ∧ (stB f l p = none → NB A' f p) := fun B r hr hr2 hB hF => by
      subst hr
      obtain ⟨B3, f1, f2, f3, f4⟩ := fin_ok (n := n) (by omega) hK (by omega) hp hB
      refine ⟨B3, ?_, f2, FQ_t hF f3, fun hs => ?_⟩
      · rw [← f1, hr2]
        exact bk_X12_readsStatement_135 ..
      · exfalso
        unfold stB at hs
        rw [if_neg (by omega), hK] at hs
        unfold stC at hs
        rw [if_neg (fun z => by rw [hr2] at z; cases z.1)] at hs
        cases hs
    obtain ⟨B1, a1, a2, a3, a4, a5⟩ := rn_ok (n := n) (k := 0) (m := 1) (by omega) (by omega) (by omega) h3 (by omega)
    have e1 : sc f l 6 (p + 1) = if (sc f l 1 (p + 1)).2 = true then sc f l 5 (p + 1 + 1) else sc f l 1 (p + 1) := sc_add (i := 1) (j := 5)
    by_cases c1 : (sc f l 1 (p + 1)).2 = true
    · rw [if_pos c1] at e1
      rw [(sc_t c1).1] at a2
      have l1 := dg_ok ((sc_t c1).2 0 (by omega))
      obtain ⟨B2, b1, b2, b3, b4, b5⟩ := rn_ok (n := n) (k := 1) (m := 1) (by omega) (by omega) (by omega) a2 (by omega)
      have e2 : sc f l 5 (p + 1 + 1) = if (sc f l 1 (p + 1 + 1)).2 = true then sc f l 4 (p + 1 + 1 + 1) else sc f l 1 (p + 1 + 1) := sc_add (i := 1) (j := 4)
      by_cases c2 : (sc f l 1 (p + 1 + 1)).2 = true
      · rw [if_pos c2] at e2
        rw [(sc_t c2).1] at b2
        have l2 := dg_ok ((sc_t c2).2 0 (by omega))
        obtain ⟨B3, d1, d2, d3, d4, d5⟩ := rn_ok (n := n) (k := 2) (m := 2) (by omega) (by omega) (by omega) b2 (by omega)
        have e3 : sc f l 4 (p + 1 + 1 + 1) = if (sc f l 2 (p + 1 + 1 + 1)).2 = true then sc f l 2 (p + 1 + 1 + 1 + 2) else sc f l 2 (p + 1 + 1 + 1) := sc_add (i := 2) (j := 2)
        by_cases c3 : (sc f l 2 (p + 1 + 1 + 1)).2 = true
        · rw [if_pos c3] at e3
          rw [(sc_t c3).1] at d2
          have l3 := dg_ok ((sc_t c3).2 1 (by omega))
          obtain ⟨B4, g1, g2, g3, g4, g5⟩ := rn_ok (n := n) (k := 3) (m := 2) (by omega) (by omega) (by omega) d2 (by omega)
          have hF : FQ A B4 := FQ_t FQ_5 (FQ_t a3 (FQ_t b3 (FQ_t d3 g3)))
          by_cases c4 : (sc f l 2 (p + 1 + 1 + 1 + 2)).2 = true
          · have e6 : sc f l 6 (p + 1) = sc f l 2 (p + 1 + 1 + 1 + 2) := by rw [e1, e2, e3]
            rw [← e6] at g2 c4
            obtain ⟨B5, f1, f2, f3, f4⟩ := fin_ok (n := n) (by omega) hK (by omega) hp g2
            refine ⟨B5, ?_, f2, FQ_t hF f3, fun hs => NB_eq (A := B4) ?_ f4⟩
            · rw [← f1, c4, en_X12_readsStatement]
              simp (disch := omega) only [mV, hH, yi_b, ↓mI, ↓mP, h5, l_lit, nI_add, q3, nI_eq (a := 101), Nat.reduceEqDiff, ↓reduceIte, a1, c1, bI_t, n10, b1, c2, d1, c3, g1, ← e6, c4]
            · rw [e6] at c4
              refine ⟨fun z => by omega, fun z => by omega, fun _ => ⟨?_, ?_, ?_, ?_⟩, fun z => by omega, fun z => by omega⟩
              · rw [g4 0 (by omega), d4 0 (by omega), b4 0 (by omega), a5 c1, vs1]
              · rw [g4 1 (by omega), d4 1 (by omega), b5 c2, vs1]
              · rw [g4 2 (by omega), d5 c3, vs2]
              · rw [g5 c4, vs2]
          · have c4' : (sc f l 2 (p + 1 + 1 + 1 + 2)).2 = false := by simpa using c4
            obtain ⟨A', f1, f2⟩ := bad B4 _ (by rw [e1, e2, e3]) c4' g2 hF
            refine ⟨A', ?_, f2⟩
            rw [← f1, en_X12_readsStatement]
            simp (disch := omega) only [mV, hH, yi_b, ↓mI, ↓mP, h5, l_lit, nI_add, q3, nI_eq (a := 101), Nat.reduceEqDiff, ↓reduceIte, a1, c1, bI_t, bI_f, n10, b1, c2, d1, c3, g1, c4']
        · have c3' : (sc f l 2 (p + 1 + 1 + 1)).2 = false := by simpa using c3
          rw [if_neg c3] at e3
          obtain ⟨A', f1, f2⟩ := bad B3 _ (by rw [e1, e2, e3]) c3' d2 (FQ_t FQ_5 (FQ_t a3 (FQ_t b3 d3)))
          refine ⟨A', ?_, f2⟩
          rw [← f1, en_X12_readsStatement]
          simp (disch := omega) only [mV, hH, yi_b, ↓mI, ↓mP, h5, l_lit, nI_add, q3, nI_eq (a := 101), Nat.reduceEqDiff, ↓reduceIte, a1, c1, bI_t, bI_f, n10, b1, c2, d1, c3']
      · have c2' : (sc f l 1 (p + 1 + 1)).2 = false := by simpa using c2
        rw [if_neg c2] at e2
        obtain ⟨A', f1, f2⟩ := bad B2 _ (by rw [e1, e2]) c2' b2 (FQ_t FQ_5 (FQ_t a3 b3))
        refine ⟨A', ?_, f2⟩
        rw [← f1, en_X12_readsStatement]
        simp (disch := omega) only [mV, hH, yi_b, ↓mI, ↓mP, h5, l_lit, nI_add, q3, nI_eq (a := 101), Nat.reduceEqDiff, ↓reduceIte, a1, c1, bI_t, bI_f, n10, b1, c2']
    · have c1' : (sc f l 1 (p + 1)).2 = false := by simpa using c1
      rw [if_neg c1] at e1
      obtain ⟨A', f1, f2⟩ := bad B1 _ e1 c1' a2 (FQ_t FQ_5 a3)
      refine ⟨A', ?_, f2⟩
      rw [← f1, en_X12_readsStatement]
      simp (disch := omega) only [mV, hH, yi_b, ↓mI, ↓mP, h5, l_lit, nI_add, q3, nI_eq (a := 101), Nat.reduceEqDiff, ↓reduceIte, a1, c1', bI_f]
  by_cases q4 : bcN (f p) = 115
  · have hK : dgN (bcN (f p)) = 2 := by rw [q4]; rfl
    obtain ⟨B1, a1, a2, a3, a4, a5⟩ := rn_ok (n := n) (k := 0) (m := 1) (by omega) (by omega) (by omega) h3 (by omega)
    have e1 : sc f l 2 (p + 1) = if (sc f l 1 (p + 1)).2 = true then sc f l 1 (p + 1 + 1) else sc f l 1 (p + 1) := sc_add (i := 1) (j := 1)
    by_cases c1 : (sc f l 1 (p + 1)).2 = true
    · rw [if_pos c1] at e1
      rw [(sc_t c1).1] at a2
      have l1 := dg_ok ((sc_t c1).2 0 (by omega))
      obtain ⟨B2, b1, b2, b3, b4, b5⟩ := rn_ok (n := n) (k := 1) (m := 1) (by omega) (by omega) (by omega) a2 (by omega)
      rw [← e1] at b2
      obtain ⟨B3, f1, f2, f3, f4⟩ := fin_ok (n := n) (by omega) hK (by omega) hp b2
      refine ⟨B3, ?_, f2, FQ_t FQ_5 (FQ_t a3 (FQ_t b3 f3)), fun hs => ?_⟩
      · rw [← f1, en_X12_readsStatement]
        simp (disch := omega) only [mV, hH, yi_b, ↓mI, ↓mP, h5, l_lit, nI_add, q4, nI_eq (a := 115), Nat.reduceEqDiff, ↓reduceIte, a1, c1, bI_t, n10, b1]
        by_cases c2 : (sc f l 1 (p + 1 + 1)).2 = true
        · rw [e1, c2, bI_t, if_neg (by rw [n10]; exact not_false)]
        · rw [e1, show (sc f l 1 (p + 1 + 1)).2 = false by simpa using c2, bI_f, if_pos rfl]
          exact bk_X12_readsStatement_90 ..
      · refine NB_eq (A := B2) ?_ f4
        have hc2 := (stB_n hs).2.1 1 (by omega)
        refine ⟨fun z => by omega, fun z => by omega, fun z => by omega, fun _ => ⟨?_, ?_⟩, fun z => by omega⟩
        · rw [b4 0 (by omega), a5 c1, vs1]
        · rw [b5 (by rw [sc_s, if_pos hc2]; rfl), vs1]
    · have c1' : (sc f l 1 (p + 1)).2 = false := by simpa using c1
      rw [if_neg c1] at e1
      rw [← e1] at a2 c1'
      obtain ⟨B3, f1, f2, f3, f4⟩ := fin_ok (n := n) (by omega) hK (by omega) hp a2
      refine ⟨B3, ?_, f2, FQ_t FQ_5 (FQ_t a3 f3), fun hs => ?_⟩
      · rw [← f1, c1', en_X12_readsStatement]
        simp (disch := omega) only [mV, hH, yi_b, ↓mI, ↓mP, h5, l_lit, nI_add, q4, nI_eq (a := 115), Nat.reduceEqDiff, ↓reduceIte, a1, ← e1, c1', bI_f]
        exact bk_X12_readsStatement_90 ..
      · exfalso
        unfold stB at hs
        rw [if_neg (by omega), hK] at hs
        unfold stC at hs
        rw [if_neg (fun z => by rw [c1'] at z; cases z.1)] at hs
        cases hs
  by_cases q5 : bcN (f p) = 119
  · have hK : dgN (bcN (f p)) = 2 := by rw [q5]; rfl
    obtain ⟨B1, a1, a2, a3, a4, a5⟩ := rn_ok (n := n) (k := 0) (m := 2) (by omega) (by omega) (by omega) h3 (by omega)
    obtain ⟨B3, f1, f2, f3, f4⟩ := fin_ok (n := n) (by omega) hK (by omega) hp a2
    refine ⟨B3, ?_, f2, FQ_t FQ_5 (FQ_t a3 f3), fun hs => ?_⟩
    · rw [← f1, en_X12_readsStatement]
      simp (disch := omega) only [mV, hH, yi_b, ↓mI, ↓mP, h5, l_lit, nI_add, q5, nI_eq (a := 119), Nat.reduceEqDiff, ↓reduceIte, a1]
    · refine NB_eq (A := B1) ?_ f4
      have hc1 := (stB_n hs).2.1 0 (by omega)
      have hc2 := (stB_n hs).2.1 1 (by omega)
      refine ⟨fun z => by omega, fun z => by omega, fun z => by omega, fun z => by omega, fun _ => ?_⟩
      rw [a5 (by rw [sc_s, if_pos hc1, sc_s, if_pos hc2]; rfl), vs2]
  · have hK : dgN (bcN (f p)) = 0 := by unfold dgN; rw [if_neg q1, if_neg q2, if_neg q3, if_neg q4, if_neg q5]
    have hs : stB f l p = some p := if_pos hK
    have hb := bc_ok (h.1.2.2.2.2 p hp).2.2
    rw [hs]
    refine ⟨yup (yup A 79 5 (nI (p + 1))) 79 5 (nI p), ?_, RS_FQ h (FQ_t FQ_5 FQ_5) yup_eq, FQ_t FQ_5 FQ_5, fun z => by cases z⟩
    rw [en_X12_readsStatement]
    simp (disch := omega) only [mV, hH, yi_b, ↓mI, ↓mP, h5, l_lit, nI_add, nI_eq (a := bcN (f p)), q1, q2, q3, q4, q5, ↓reduceIte, yup_eq, nI_sub, Nat.add_sub_cancel, true_or]
    rfl
theorem done_ok (hn : 7 ≤ n) (hs : stB f l p = none) (hN : NB A f p) (hr : Row A 80 M) (hg : Good M) (hw : M 0 2 ≤ 999) : ∃ A', ycall n 167 [.ref 79, .int (nI (bcN (f p)))] A = some (some (.int (bI (ddN f M p).isSome)), A') ∧ Fq 80 A A' ∧ (match ddN f M p with
    | some M' => Row A' 80 M'
    | none => A' = A) := by
  obtain ⟨n, rfl⟩ := Nat.exists_eq_add_of_le' (show 1 ≤ n by omega)
  have hE := gE hg
  have hS := gS hg
  have n10 : (nI 1 = nI 0) = False := eq_false (by decide +kernel)
  have key : ∀ (o : Option Mt) (B : yM), ddN f M p = o → ycall (n + 1) 167 [.ref 79, .int (nI (bcN (f p)))] A = some (some (.int (bI o.isSome)), B) → Fq 80 A B → (match o with
    | some M' => Row B 80 M'
    | none => B = A) → ∃ A', ycall (n + 1) 167 [.ref 79, .int (nI (bcN (f p)))] A = some (some (.int (bI (ddN f M p).isSome)), A') ∧ Fq 80 A A' ∧ (match ddN f M p with
    | some M' => Row A' 80 M'
    | none => A' = A) := fun o B ho h1 h2 h3 => by
    subst ho
    exact ⟨B, h1, h2, h3⟩
  have hsf : ∀ M' : Mt, (some M').isSome = true := fun _ => rfl
  have hnf : (none : Option Mt).isSome = false := rfl
  rcases st_cases hs with ⟨q, d1, d2, d3⟩ | ⟨q, d1⟩ | ⟨q, d1, d2, d3, d4, d5, d6⟩ | ⟨q, d1, d2⟩ | ⟨q, d1, d2⟩
  · obtain ⟨x0, x1⟩ := hN.1 q
    have b1 := (dg_ok d1).2.2.2
    have b2 := dW_lt d2 d3
    have hdd : ddN f M p = (if dD f (p + 1) < M 0 0 ∧ dW f (p + 2) < M 0 1 ∧ (M 3 (dD f (p + 1)) = 1 ∧ M 4 (dW f (p + 2)) ≠ dD f (p + 1) ∧ M 8 (dW f (p + 2)) = 0) then some (ceM M (dD f (p + 1)) (dW f (p + 2))) else none) := by unfold ddN; rw [if_pos q]
    by_cases h1 : dD f (p + 1) < M 0 0
    · by_cases h2 : dW f (p + 2) < M 0 1
      · by_cases h3 : M 3 (dD f (p + 1)) = 1 ∧ M 4 (dW f (p + 2)) ≠ dD f (p + 1) ∧ M 8 (dW f (p + 2)) = 0
        · obtain ⟨B, c1, c2, c3⟩ := X12_correctsIn_ok (n := n) (by omega) hr hg h1 h2
          refine key _ B (by rw [hdd, if_pos ⟨h1, h2, h3⟩]) ?_ c3 c2
          rw [en_X12_isDone]
          simp (disch := omega) only [↓mR, l_lit, r84, x0, x1, q, ↓reduceIte, mV, X12_isStudent_ok _ hr hg, X12_isError_ok _ hr hg, okI_at h1, okI_at h2, bI_t, yi_b, yv_b, n10, X12_canCorrect_ok _ hr hg h1 h2, decide_eq_true h3, c1, or_true, hsf]
        · refine key none A (by rw [hdd, if_neg (fun z => h3 z.2.2)]) ?_ (Fq_r _ _) rfl
          rw [en_X12_isDone]
          simp (disch := omega) only [↓mR, l_lit, r84, x0, x1, q, ↓reduceIte, mV, X12_isStudent_ok _ hr hg, X12_isError_ok _ hr hg, okI_at h1, okI_at h2, bI_t, bI_f, yi_b, yv_b, n10, X12_canCorrect_ok _ hr hg h1 h2, decide_eq_false h3, or_true, true_or, hnf]
      · refine key none A (by rw [hdd, if_neg (fun z => h2 z.2.1)]) ?_ (Fq_r _ _) rfl
        rw [en_X12_isDone]
        simp (disch := omega) only [↓mR, l_lit, r84, x0, x1, q, ↓reduceIte, mV, X12_isStudent_ok _ hr hg, X12_isError_ok _ hr hg, okI_at h1, okI_at_f (show M 0 1 ≤ dW f (p + 2) by omega), bI_t, bI_f, yi_b, yv_b, n10, or_true, true_or, hnf]
    · refine key none A (by rw [hdd, if_neg (fun z => h1 z.1)]) ?_ (Fq_r _ _) rfl
      rw [en_X12_isDone]
      simp (disch := omega) only [↓mR, l_lit, r84, x0, x1, q, ↓reduceIte, mV, X12_isStudent_ok _ hr hg, okI_at_f (show M 0 0 ≤ dD f (p + 1) by omega), bI_f, yi_b, true_or, hnf]
  · have x0 := hN.2.1 q
    have b1 := (dg_ok d1).2.2.2
    have hdd : ddN f M p = (if dD f (p + 1) < M 0 0 then some (tuN M (dD f (p + 1))) else none) := by unfold ddN; rw [if_neg (by omega), if_pos q]
    by_cases h1 : dD f (p + 1) < M 0 0
    · have h2 := gP hg h1
      have h3 : M 3 (dD f (p + 1)) = 0 ∨ M 3 (dD f (p + 1)) = 1 := by omega
      have hx : nI (M 3 (dD f (p + 1))) ^^^ nI 1 = nI (1 - M 3 (dD f (p + 1))) := by rcases h3 with h3 | h3 <;> rw [h3] <;> decide +kernel
      obtain ⟨n, rfl⟩ := Nat.exists_eq_add_of_le' (show 1 ≤ n by omega)
      refine key (some (tuN M (dD f (p + 1)))) (yup A 80 (3 + 3 * dD f (p + 1) + 2) (nI (1 - M 3 (dD f (p + 1))))) (by rw [hdd, if_pos h1]) ?_ Fq_up (Row_in hr hg h1)
      rw [en_X12_isDone]
      simp (disch := omega) only [↓mR, l_lit, r84, x0, q, nI_eq (a := 100), Nat.reduceEqDiff, ↓reduceIte, mV, X12_isStudent_ok _ hr hg, okI_at h1, bI_t, yi_b, n10, en_X12_ofS, nI_add, nI_mul, qD hr.1, rIn hr, hx, qW hr.1, or_true, hsf]
    · refine key none A (by rw [hdd, if_neg h1]) ?_ (Fq_r _ _) rfl
      rw [en_X12_isDone]
      simp (disch := omega) only [↓mR, l_lit, r84, x0, q, nI_eq (a := 100), Nat.reduceEqDiff, ↓reduceIte, mV, X12_isStudent_ok _ hr hg, okI_at_f (show M 0 0 ≤ dD f (p + 1) by omega), bI_f, yi_b, true_or, hnf]
  · obtain ⟨x0, x1, x2, x3⟩ := hN.2.2.1 q
    have b1 := (dg_ok d1).2.2.2
    have b2 := (dg_ok d2).2.2.2
    have b3 := dW_lt d3 d4
    have b5 := dW_lt d5 d6
    have hdd : ddN f M p = (if dD f (p + 1) < M 0 0 ∧ dD f (p + 2) < 6 ∧ (dW f (p + 5) = 99 ∨ dW f (p + 5) < M 0 1) ∧ M 3 (dD f (p + 1)) = 1 ∧ M 0 1 < 12 then some (aeN M (dD f (p + 1)) (dD f (p + 2)) (dW f (p + 3)) (dW f (p + 5))) else none) := by unfold ddN; rw [if_neg (by omega), if_neg (by omega), if_pos q]
    by_cases h1 : dD f (p + 1) < M 0 0
    · have hin := gP hg h1
      by_cases h2 : dD f (p + 2) < 6
      · by_cases h3 : dW f (p + 5) = 99 ∨ dW f (p + 5) < M 0 1
        · have go : ycall (n + 1) 167 [.ref 79, .int (nI (bcN (f p)))] A = yb_X12_isDone (ycall n) (121, [some (.ref 79), none, some (.int (nI (dD f (p + 1)))), some (.int (nI (dD f (p + 2))))], [], A) := by
            rw [en_X12_isDone]
            simp (disch := omega) only [↓mR, l_lit, r84, x0, x1, x3, q, nI_eq (a := 101), nI_leI, Nat.reduceEqDiff, ↓reduceIte, mV, X12_isStudent_ok _ hr hg, okI_at h1, bI_t, yi_b, n10, show ¬ 6 ≤ dD f (p + 2) by omega]
            by_cases h9 : dW f (p + 5) = 99
            · rw [if_pos (by rw [h9])]
            · rw [if_neg (fun z => h9 ((nI_eq (by omega) (by omega)).mp z))]
              have h10 : dW f (p + 5) < M 0 1 := by omega
              simp (disch := omega) only [X12_isError_ok _ hr hg, okI_at h10, bI_t, yi_b, n10, ↓reduceIte]
          by_cases h6 : M 3 (dD f (p + 1)) = 1 ∧ M 0 1 < 12
          · obtain ⟨B, c1, c2, c3⟩ := X12_errsIn_ok (n := n) (s := dD f (p + 1)) (t := dD f (p + 2)) (z := dW f (p + 3)) (c := dW f (p + 5)) (by omega) hr hg h6.2
            refine key (some (aeN M (dD f (p + 1)) (dD f (p + 2)) (dW f (p + 3)) (dW f (p + 5)))) B (by rw [hdd, if_pos ⟨h1, h2, h3, h6.1, h6.2⟩]) ?_ c3 c2
            refine go.trans ((bk_X12_isDone_121 ..).trans ?_)
            have h12 : (nI (M 0 1) = nI 12) = False := eq_false (fun z => by have := (nI_eq (by omega) (by omega)).mp z; omega)
            simp (disch := omega) only [↓mR, l_lit, X12_isThere_ok _ hr hg h1, h6.1, yi_b, n10, ↓reduceIte, qD hr.1, rE hr, h12, r84, x2, x3, c1, yv_b, or_true, hsf, bI_t]
          · refine key none A (by rw [hdd, if_neg (fun z => h6 z.2.2.2)]) ?_ (Fq_r _ _) rfl
            refine go.trans ((bk_X12_isDone_121 ..).trans ?_)
            by_cases h7 : M 3 (dD f (p + 1)) = 1
            · have h12 : M 0 1 = 12 := by omega
              simp (disch := omega) only [↓mR, l_lit, X12_isThere_ok _ hr hg h1, h7, yi_b, n10, ↓reduceIte, qD hr.1, rE hr, h12, true_or, hnf, bI_f]
            · have h8 : M 3 (dD f (p + 1)) = 0 := by omega
              simp (disch := omega) only [↓mR, l_lit, X12_isThere_ok _ hr hg h1, h8, yi_b, ↓reduceIte, true_or, hnf, bI_f]
        · refine key none A (by rw [hdd, if_neg (fun z => h3 z.2.2.1)]) ?_ (Fq_r _ _) rfl
          have h9 : (nI (dW f (p + 5)) = nI 99) = False := eq_false (fun z => h3 (Or.inl ((nI_eq (by omega) (by omega)).mp z)))
          have h10 : M 0 1 ≤ dW f (p + 5) := by
            have : ¬ dW f (p + 5) < M 0 1 := fun z => h3 (Or.inr z)
            omega
          rw [en_X12_isDone]
          simp (disch := omega) only [↓mR, l_lit, r84, x0, x1, x3, q, nI_eq (a := 101), nI_leI, Nat.reduceEqDiff, ↓reduceIte, mV, X12_isStudent_ok _ hr hg, okI_at h1, bI_t, yi_b, n10, show ¬ 6 ≤ dD f (p + 2) by omega, h9, X12_isError_ok _ hr hg, okI_at_f h10, bI_f, true_or, hnf]
      · refine key none A (by rw [hdd, if_neg (fun z => h2 z.2.1)]) ?_ (Fq_r _ _) rfl
        rw [en_X12_isDone]
        simp (disch := omega) only [↓mR, l_lit, r84, x0, x1, x3, q, nI_eq (a := 101), nI_leI, Nat.reduceEqDiff, ↓reduceIte, mV, X12_isStudent_ok _ hr hg, okI_at h1, bI_t, bI_f, yi_b, n10, show 6 ≤ dD f (p + 2) by omega, true_or, hnf]
    · refine key none A (by rw [hdd, if_neg (fun z => h1 z.1)]) ?_ (Fq_r _ _) rfl
      rw [en_X12_isDone]
      simp (disch := omega) only [↓mR, l_lit, r84, x0, x1, x3, q, nI_eq (a := 101), nI_leI, Nat.reduceEqDiff, ↓reduceIte, mV, X12_isStudent_ok _ hr hg, okI_at_f (show M 0 0 ≤ dD f (p + 1) by omega), bI_f, yi_b, true_or, hnf]
  · obtain ⟨x0, x1⟩ := hN.2.2.2.1 q
    have b1 := (dg_ok d1).2.2.2
    have b2 := (dg_ok d2).2.2.2
    have hdd : ddN f M p = (if dD f (p + 1) < 8 ∧ M 0 0 < 6 then some (asN M (dD f (p + 1)) (dD f (p + 2))) else none) := by unfold ddN; rw [if_neg (by omega), if_neg (by omega), if_neg (by omega), if_pos q]
    by_cases h1 : dD f (p + 1) < 8
    · by_cases h6 : M 0 0 < 6
      · obtain ⟨B, c1, c2, c3⟩ := X12_addsStudent_ok (n := n) (k := dD f (p + 1)) (f := dD f (p + 2)) (by omega) hr hg h6
        refine key (some (asN M (dD f (p + 1)) (dD f (p + 2)))) B (by rw [hdd, if_pos ⟨h1, h6⟩]) ?_ c3 c2
        rw [en_X12_isDone]
        simp (disch := omega) only [↓mR, l_lit, r84, x0, x1, q, nI_eq, nI_leI, Nat.reduceEqDiff, ↓reduceIte, show ¬ 8 ≤ dD f (p + 1) by omega, qD hr.1, rS hr, show ¬ M 0 0 = 6 by omega, mV, c1, yv_b, or_true, bI_t, hsf]
      · have h66 : M 0 0 = 6 := by omega
        refine key none A (by rw [hdd, if_neg (fun z => h6 z.2)]) ?_ (Fq_r _ _) rfl
        rw [en_X12_isDone]
        simp (disch := omega) only [↓mR, l_lit, r84, x0, x1, q, nI_eq (a := 115), nI_leI, Nat.reduceEqDiff, ↓reduceIte, show ¬ 8 ≤ dD f (p + 1) by omega, qD hr.1, rS hr, h66, true_or, bI_f, hnf]
    · refine key none A (by rw [hdd, if_neg (fun z => h1 z.1)]) ?_ (Fq_r _ _) rfl
      rw [en_X12_isDone]
      simp (disch := omega) only [↓mR, l_lit, r84, x0, x1, q, nI_eq (a := 115), nI_leI, Nat.reduceEqDiff, ↓reduceIte, show 8 ≤ dD f (p + 1) by omega, true_or, bI_f, hnf]
  · have x0 := hN.2.2.2.2 q
    have b1 := dW_lt d1 d2
    have hdd : ddN f M p = (if 1 ≤ dW f (p + 1) ∧ dW f (p + 1) ≤ 60 ∧ M 0 2 + dW f (p + 1) ≤ 999 then some (wsN M (dW f (p + 1))) else none) := by unfold ddN; rw [if_neg (by omega), if_neg (by omega), if_neg (by omega), if_neg (by omega)]
    have hdec : decide (¬ nI (dW f (p + 1)) < nI 1 ∧ ¬ nI 60 < nI (dW f (p + 1))) = decide (1 ≤ dW f (p + 1) ∧ dW f (p + 1) ≤ 60) := by
      congr 1
      apply propext
      rw [nI_ltI (by omega) (by omega), nI_ltI (by omega) (by omega)]
      omega
    by_cases h1 : 1 ≤ dW f (p + 1) ∧ dW f (p + 1) ≤ 60
    · by_cases h6 : M 0 2 + dW f (p + 1) ≤ 999
      · obtain ⟨B, c1, c2, c3⟩ := X12_weeksOn_ok (n := n) (x := dW f (p + 1)) (by omega) hr hg (by omega) (by omega)
        refine key (some (wsN M (dW f (p + 1)))) B (by rw [hdd, if_pos ⟨h1.1, h1.2, h6⟩]) ?_ c3 c2
        rw [en_X12_isDone]
        simp (disch := omega) only [↓mR, l_lit, r84, x0, q, nI_eq (a := 119), Nat.reduceEqDiff, ↓reduceIte, X12_isIn_ok, hdec, decide_eq_true h1, bI_t, yi_b, n10, qD hr.1, rW hr, nI_add, nI_leI, h6, c1, yv_b, or_true, hsf]
      · refine key none A (by rw [hdd, if_neg (fun z => h6 z.2.2)]) ?_ (Fq_r _ _) rfl
        rw [en_X12_isDone]
        simp (disch := omega) only [↓mR, l_lit, r84, x0, q, nI_eq (a := 119), Nat.reduceEqDiff, ↓reduceIte, X12_isIn_ok, hdec, decide_eq_true h1, bI_t, bI_f, yi_b, n10, qD hr.1, rW hr, nI_add, nI_leI, h6, true_or, hnf]
    · refine key none A (by rw [hdd, if_neg (fun z => h1 ⟨z.1, z.2.1⟩)]) ?_ (Fq_r _ _) rfl
      rw [en_X12_isDone]
      simp (disch := omega) only [↓mR, l_lit, r84, x0, q, nI_eq (a := 119), Nat.reduceEqDiff, ↓reduceIte, X12_isIn_ok, hdec, decide_eq_false h1, bI_f, yi_b, true_or, hnf]
theorem fm_le : ∀ (j p q : Nat), fmN f l j p = some q → p ≤ l → q ≤ l := by
  intro j
  induction j with
  | zero => intro p q h; cases h
  | succ j ih =>
    intro p q h hp
    by_cases hlp : l ≤ p
    · have e : fmN f l (j + 1) p = none := if_pos hlp
      rw [e] at h; cases h
    · have e1 : fmN f l (j + 1) p = (match stB f l p with
        | some q => some q
        | none => fmN f l j (nxN f p)) := if_neg hlp
      rw [e1] at h
      cases hs : stB f l p with
      | some q2 =>
        rw [hs] at h
        cases h
        unfold stB at hs
        split at hs
        · cases hs; exact hp
        · unfold stC at hs
          split at hs
          · cases hs
          · cases hs; exact sc_le (by omega)
      | none =>
        rw [hs] at h
        exact ih _ _ h (stB_n hs).2.2.2.2
theorem dl_le : ∀ (j p q : Nat) (M : Mt), (ddL f l j p M).1 = some q → q < l := by
  intro j
  induction j with
  | zero => intro p q M h; cases h
  | succ j ih =>
    intro p q M h
    by_cases hp : l ≤ p
    · have e : ddL f l (j + 1) p M = (none, M) := if_pos hp
      rw [e] at h; cases h
    · have e : ddL f l (j + 1) p M = (match ddN f M p with
        | none => (some p, M)
        | some M' => ddL f l j (nxN f p) M') := if_neg hp
      rw [e] at h
      cases hd : ddN f M p with
      | none => rw [hd] at h; cases h; omega
      | some M' => rw [hd] at h; exact ih _ _ _ h
theorem m1000 {q : Nat} (hq : q ≤ 100) : (-nI 1000 - nI q = nI 0) = False := eq_false ((by decide +kernel : ∀ q, q < 101 → ¬ (-nI 1000 - nI q = nI 0)) q (by omega))
theorem m2000 {q : Nat} (hq : q ≤ 100) : (-nI 2000 - nI q = nI 0) = False := eq_false ((by decide +kernel : ∀ q, q < 101 → ¬ (-nI 2000 - nI q = nI 0)) q (by omega))
/-- the fault of form as the reference keeps it -/
def fvN : Option Nat → Int32
  | none => nI 0
  | some q => -nI 1000 - nI q
theorem cf_loop (hn : 6 ≤ n) : ∀ (j p k : Nat) (A : yM), l ≤ p + j → p < l → RS A d l f p → ∃ kk A', yb_X12_college (ycall n) (41, [some (.ref 79), none, none, some (.int (nI k)), some (.int (nI 0)), none, none, none], [], A) = yb_X12_college (ycall n) (77, [some (.ref 79), none, none, some (.int kk), some (.int (fvN (fmN f l j p))), none, none, none], [], A') ∧ FQ A A' ∧ (fmN f l j p = none → kk = nI (k + stN f l j p)) := by
  intro j
  induction j with
  | zero => intro p k A h1 h2; omega
  | succ j ih =>
    intro p k A h1 h2 h
    have hl := h.1.2.1
    have n10 : (nI 1 = nI 0) = False := eq_false (by decide +kernel)
    obtain ⟨B, a1, a2, a3, -⟩ := rs_ok (n := n) (by omega) h h2
    have e1 : fmN f l (j + 1) p = (match stB f l p with
        | some q => some q
        | none => fmN f l j (nxN f p)) := if_neg (by omega)
    have e2 : stN f l (j + 1) p = 1 + stN f l j (nxN f p) := if_neg (by omega)
    rw [e1, e2]
    cases hs : stB f l p with
    | some q =>
      rw [hs] at a1 a2
      dsimp only at a2
      refine ⟨nI (k + 1), B, ?_, a3, fun z => by cases z⟩
      have hq : q ≤ l := fm_le (j + 1) p q (by rw [e1, hs]) (by omega)
      refine (bk_X12_college_41 ..).trans ?_
      simp (disch := omega) only [mV, a1, Option.isNone, bI_f, yi_b, l_lit, ↓reduceIte, ↓mI, a2.2.1]
      refine (bk_X12_college_58 ..).trans ?_
      simp (disch := omega) only [l_lit, m1000 (show q ≤ 100 by omega), ↓reduceIte, nI_add]
      rfl
    | none =>
      rw [hs] at a1 a2
      dsimp only at a2
      obtain ⟨t1, t2, t3, t4, t5⟩ := stB_n hs
      have hgo : yb_X12_college (ycall n) (41, [some (.ref 79), none, none, some (.int (nI k)), some (.int (nI 0)), none, none, none], [], A) = if nxN f p < l then yb_X12_college (ycall n) (41, [some (.ref 79), none, none, some (.int (nI (k + 1))), some (.int (nI 0)), none, none, none], [], B) else yb_X12_college (ycall n) (77, [some (.ref 79), none, none, some (.int (nI (k + 1))), some (.int (nI 0)), none, none, none], [], B) := by
        refine (bk_X12_college_41 ..).trans ?_
        simp (disch := omega) only [mV, a1, Option.isNone, bI_t, n10, yi_b, l_lit, ↓reduceIte]
        refine (bk_X12_college_58 ..).trans ?_
        simp (disch := omega) only [l_lit, ↓reduceIte, nI_add, ↓mI, a2.2.1, a2.2.2.2, nI_ltI]
      rw [hgo]
      by_cases q : nxN f p < l
      · rw [if_pos q]
        obtain ⟨kk, A', b1, b2, b3⟩ := ih (nxN f p) (k + 1) B (by unfold nxN; omega) q a2
        exact ⟨kk, A', b1, FQ_t a3 b2, fun z => by rw [b3 z]; congr 1; omega⟩
      · rw [if_neg q]
        have z1 : fmN f l j (nxN f p) = none := by
          cases j with
          | zero => rfl
          | succ j => exact if_pos (by omega)
        have z2 : stN f l j (nxN f p) = 0 := by
          cases j with
          | zero => rfl
          | succ j => exact if_pos (by omega)
        refine ⟨nI (k + 1), B, ?_, a3, fun _ => by rw [z2]⟩
        show _ = yb_X12_college (ycall n) (77, [some (.ref 79), none, none, some (.int (nI (k + 1))), some (.int (fvN (fmN f l j (nxN f p)))), none, none, none], [], B)
        rw [z1]; rfl
def FD (A A' : yM) : Prop := (∀ q, q ≠ 79 → q ≠ 80 → q ≠ 83 → q ≠ 84 → A' q = A q) ∧ ∀ j, j ≠ 5 → A' 79 j = A 79 j
theorem FD_r (A : yM) : FD A A := ⟨fun _ _ _ _ _ => rfl, fun _ _ => rfl⟩
theorem FD_t {A B C : yM} (h1 : FD A B) (h2 : FD B C) : FD A C := ⟨fun q a b c e => (h2.1 q a b c e).trans (h1.1 q a b c e), fun j h => (h2.2 j h).trans (h1.2 j h)⟩
theorem FD_FQ {A B : yM} (h : FQ A B) : FD A B := ⟨fun q a _ _ e => h.1 q a e, h.2⟩
theorem FD_Fq {A B : yM} {q : Nat} (hq : q = 80 ∨ q = 83) (h : Fq q A B) : FD A B := ⟨fun p a b c e => h p (by omega), fun j _ => by rw [h 79 (by omega)]⟩
theorem RS_FD {A A' : yM} (h : RS A d l f p) (hf : Fq 80 A A') : RS A' d l f p := by
  obtain ⟨h1, h2, h3, h4⟩ := h
  exact ⟨Tx_eq h1 (fun p hp => hf p (by omega)) (fun p hp => hf p (by omega)), by rw [hf 79 (by omega)]; exact h2, by rw [hf 79 (by omega)]; exact h3, by rw [hf 79 (by omega)]; exact h4⟩
theorem cd_loop (hn : 8 ≤ n) {M0 : Mt} {kk : Int32} (hg0 : Good M0) : ∀ (j p : Nat) (M : Mt) (A : yM), l ≤ p + j → p ≤ l → fmN f l j p = none → RS A d l f p → Row A 80 M → Row A 83 M0 → Good M → M 0 2 ≤ 999 → ∃ A', yb_X12_college (ycall n) (93, [some (.ref 79), none, none, some (.int kk), some (.int (nI 0)), none, none, none], [], A) = some (some (.int (match (ddL f l j p M).1 with
    | none => kk
    | some q => -nI 2000 - nI q)), A') ∧ FD A A' ∧ Row A' 80 (match (ddL f l j p M).1 with
    | none => (ddL f l j p M).2
    | some _ => M0) := by
  intro j
  induction j with
  | zero =>
    intro p M A h1 h2 _ h hr h83 hg hw
    have hl := h.1.2.1
    refine ⟨A, ?_, FD_r A, hr⟩
    refine (bk_X12_college_93 ..).trans ?_
    simp (disch := omega) only [l_lit, ↓reduceIte, ↓mI, h.2.1, h.2.2.2, nI_leI, show l ≤ p by omega]
    refine (bk_X12_college_161 ..).trans ?_
    simp (disch := omega) only [l_lit, ↓reduceIte]
    rfl
  | succ j ih =>
    intro p M A h1 h2 hf h hr h83 hg hw
    have hl := h.1.2.1
    by_cases hp : l ≤ p
    · have e : ddL f l (j + 1) p M = (none, M) := if_pos hp
      rw [e]
      refine ⟨A, ?_, FD_r A, hr⟩
      refine (bk_X12_college_93 ..).trans ?_
      simp (disch := omega) only [l_lit, ↓reduceIte, ↓mI, h.2.1, h.2.2.2, nI_leI, hp]
      refine (bk_X12_college_161 ..).trans ?_
      simp (disch := omega) only [l_lit, ↓reduceIte]
    · have e : ddL f l (j + 1) p M = (match ddN f M p with
        | none => (some p, M)
        | some M' => ddL f l j (nxN f p) M') := if_neg hp
      obtain ⟨s1, s2, s3, s4⟩ := fm_st hf (by omega)
      have hH := X12_here_ok (n := n) (by omega) h h2
      rw [if_pos (by omega)] at hH
      obtain ⟨B, a1, a2, a3, a4⟩ := rs_ok (n := n) (by omega) h (by omega)
      rw [s1] at a1 a2
      dsimp only at a2
      have hN := a4 s1
      have hrB : Row B 80 M := Row_eq hr (a3.1 80 (by omega) (by omega))
      obtain ⟨B2, b1, b2, b3⟩ := done_ok (n := n) (by omega) s1 hN hrB hg hw
      have h83B : Row B2 83 M0 := Row_eq h83 ((b2 83 (by omega)).trans (a3.1 83 (by omega) (by omega)))
      have n10 : (nI 1 = nI 0) = False := eq_false (by decide +kernel)
      rw [e]
      cases hdd : ddN f M p with
      | none =>
        rw [hdd] at b1
        obtain ⟨B3, c1, c2, c3⟩ := X12_copies_ok (n := n) (q2 := 80) (by omega) h83B hg0 (by omega) (by omega)
        refine ⟨B3, ?_, FD_t (FD_FQ a3) (FD_t (FD_Fq (Or.inl rfl) b2) (FD_Fq (Or.inl rfl) c3)), c2⟩
        refine (bk_X12_college_93 ..).trans ?_
        simp (disch := omega) only [l_lit, ↓reduceIte, ↓mI, h.2.1, h.2.2.2, nI_leI, hp, mV, hH, a1, yi_b, b1, Option.isSome, bI_f, ↓mR, c1, yv_b]
        refine (bk_X12_college_93 ..).trans ?_
        simp (disch := omega) only [l_lit, m2000 (show p ≤ 100 by omega), ↓reduceIte]
        refine (bk_X12_college_161 ..).trans ?_
        simp (disch := omega) only [l_lit, m2000 (show p ≤ 100 by omega), ↓reduceIte]
      | some M' =>
        rw [hdd] at b1 b3
        dsimp only at b3
        obtain ⟨g1, g2⟩ := dd_good s1 hg hw hdd
        obtain ⟨B3, c1, c2, c3⟩ := ih (nxN f p) M' B2 (by omega) s3 s2 (RS_FD a2 b2) b3 h83B g1 g2
        refine ⟨B3, ?_, FD_t (FD_FQ a3) (FD_t (FD_Fq (Or.inl rfl) b2) c2), c3⟩
        rw [← c1]
        refine (bk_X12_college_93 ..).trans ?_
        simp (disch := omega) only [l_lit, ↓reduceIte, ↓mI, h.2.1, h.2.2.2, nI_leI, hp, mV, hH, a1, yi_b, b1, Option.isSome, bI_t, n10]
/-- all of the reference, from the first place on -/
theorem cr_ok (hn : 8 ≤ n) (hr : Row A 80 M) (hg : Good M) (hw : M 0 2 ≤ 999) (h : RS A d l f 0) : ∃ A', yb_X12_college (ycall n) (41, [some (.ref 79), none, none, some (.int (nI 0)), some (.int (nI 0)), none, none, none], [], A) = some (some (.int (coN f l M)), A') ∧ FD A A' ∧ Row A' 80 (coM f l M) := by
  have hl := h.1.2.1
  have h77 : ∀ (B : yM) (kk fv : Int32), FQ A B → ∃ B1, yb_X12_college (ycall n) (77, [some (.ref 79), none, none, some (.int kk), some (.int fv), none, none, none], [], B) = yb_X12_college (ycall n) (93, [some (.ref 79), none, none, some (.int kk), some (.int fv), none, none, none], [], B1) ∧ FD A B1 ∧ Row B1 80 M ∧ Row B1 83 M ∧ RS B1 d l f 0 := fun B kk fv hB => by
    have hrB : Row B 80 M := Row_eq hr (hB.1 80 (by omega) (by omega))
    obtain ⟨B3, c1, c2, c3⟩ := X12_copies_ok (n := n) (q2 := 83) (by omega) hrB hg (by omega) (by omega)
    refine ⟨yup B3 79 5 (nI 0), ?_, FD_t (FD_FQ hB) (FD_t (FD_Fq (Or.inr rfl) c3) (FD_FQ FQ_5)), Row_eq hrB (by rw [yup_ne1 (by omega), c3 80 (by omega)]), Row_eq c2 (yup_ne1 (by omega)), ?_⟩
    · refine (bk_X12_college_77 ..).trans ?_
      simp (disch := omega) only [↓mR, c1, yv_b, l_lit, ↓mP]
    · refine ⟨Tx_eq h.1 (fun p hp => ?_) (fun p hp => ?_), yup_eq, ?_, ?_⟩
      · rw [yup_ne1 (by omega), c3 p (by omega), hB.1 p (by omega) (by omega)]
      · rw [yup_ne1 (by omega), c3 p (by omega), hB.1 p (by omega) (by omega)]
      · rw [yup_ne2 (by omega), c3 79 (by omega), hB.2 6 (by omega)]; exact h.2.2.1
      · rw [yup_ne2 (by omega), c3 79 (by omega), hB.2 7 (by omega)]; exact h.2.2.2
  have h93 : ∀ (B : yM) (kk : Int32) (q : Nat), q ≤ 100 → yb_X12_college (ycall n) (93, [some (.ref 79), none, none, some (.int kk), some (.int (-nI 1000 - nI q)), none, none, none], [], B) = some (some (.int (-nI 1000 - nI q)), B) := fun B kk q hq => by
    refine (bk_X12_college_93 ..).trans ?_
    simp (disch := omega) only [l_lit, m1000 hq, ↓reduceIte]
    refine (bk_X12_college_161 ..).trans ?_
    simp (disch := omega) only [l_lit, m1000 hq, ↓reduceIte]
  by_cases l0 : l = 0
  · obtain ⟨n, rfl⟩ := Nat.exists_eq_add_of_le' (show 2 ≤ n by omega)
    have hH := X12_here_ok (n := n + 1) (by omega) h (by omega)
    have hH2 := X12_here_ok (n := n) (by omega) h (by omega)
    rw [if_neg (by omega)] at hH hH2
    have x1 : ∀ k, k < 200 → ((-nI 1 : Int32) = nI k) = False := fun k hk => eq_false ((by decide +kernel : ∀ k, k < 200 → ¬ ((-nI 1 : Int32) = nI k)) k hk)
    obtain ⟨B1, b1, b2, b3, b4, b5⟩ := h77 (yup (yup A 79 5 (nI 1)) 79 5 (nI 0)) (nI 1) (-nI 1000 - nI 0) (FQ_t FQ_5 FQ_5)
    refine ⟨B1, ?_, b2, ?_⟩
    · unfold coN
      rw [if_pos l0, ← h93 B1 (nI 1) 0 (by omega), ← b1]
      refine (bk_X12_college_41 ..).trans ?_
      simp (disch := omega) only [mV, en_X12_readsStatement, hH, yi_b, ↓mI, ↓mP, h.2.1, l_lit, nI_add, Nat.zero_add, x1, ↓reduceIte, yup_eq, nI_sub, Nat.sub_self, true_or]
      refine (bk_X12_college_58 ..).trans ?_
      simp (disch := omega) only [l_lit, m1000 (show 0 ≤ 100 by omega), ↓reduceIte, nI_add, Nat.zero_add]
    · unfold coM
      rw [if_pos l0]; exact b3
  · obtain ⟨kk, B, a1, a2, a3⟩ := cf_loop (n := n) (by omega) l 0 0 A (by omega) (by omega) h
    obtain ⟨B1, b1, b2, b3, b4, b5⟩ := h77 B kk (fvN (fmN f l l 0)) a2
    unfold coN coM
    rw [if_neg l0, if_neg l0, a1, b1]
    cases hfm : fmN f l l 0 with
    | some q =>
      have hq := fm_le l 0 q hfm (by omega)
      exact ⟨B1, h93 B1 kk q (by omega), b2, b3⟩
    | none =>
      obtain ⟨B2, c1, c2, c3⟩ := cd_loop (kk := kk) hn hg l 0 M B1 (by omega) (by omega) hfm b5 b3 b4 hg hw
      rw [a3 hfm, Nat.zero_add] at c1
      rw [a3 hfm, Nat.zero_add]
      refine ⟨B2, ?_, FD_t b2 c2, ?_⟩
      · refine c1.trans ?_
        cases (ddL f l l 0 M).1 with
        | none => rfl
        | some q => rfl
      · cases hdl : (ddL f l l 0 M).1 with
        | none => rw [hdl] at c3; exact c3
        | some q => rw [hdl] at c3; exact c3
theorem co_good (hg : Good M) (hw : M 0 2 ≤ 999) : Good (coM f l M) ∧ coM f l M 0 2 ≤ 999 := by
  unfold coM
  by_cases l0 : l = 0
  · rw [if_pos l0]; exact ⟨hg, hw⟩
  · rw [if_neg l0]
    cases hfm : fmN f l l 0 with
    | some q => exact ⟨hg, hw⟩
    | none =>
      dsimp only
      have h := ddL_good l 0 M (by omega) hfm hg hw
      cases hdl : (ddL f l l 0 M).1 with
      | some q => exact ⟨hg, hw⟩
      | none => exact h
/-- all of the class -/
theorem cc_ok (hi : InvX A M I hI T c g) (hd : d < 8) (h2 : T d 0 = 2) (h3 : T d 3 = 0) (ht : Tx A d l f) : ∃ A1, ycall 20 72 [.ref 1, .int (nI d)] A = some (some (.int (coN f l M)), A1) ∧ Col A1 2 (coM f l M) ∧ (∀ p, ¬ (2 ≤ p ∧ p < 21) → ¬ scr p → A1 p = A p) ∧ A1 79 = A 79 := by
  have hc := iC hi
  have hg := iG hi
  have hw := iW hi
  have hz : rfI T 2 d = nI 0 := (rfI_0 (by omega)).mpr h2
  obtain ⟨-, -, -, l4, -, -⟩ := sh_len (iT hi) hd h2
  rw [h3] at l4
  have hl := ht.2.1
  have hF := X9_form_ok (n := 19) (by omega) ht
  have e0 : ycall 20 72 [.ref 1, .int (nI d)] A = (yi (some (some (.int (if l = 0 then nI 0 else od1 (fmN f l l 0))), A))).bind (fun z5 => if z5.1 < nI 0 then (yv (ycall 19 0 [.ref 21, .ref 2] z5.2)).bind (fun A8 => (yi (ycall 19 66 [.ref (60 + 2 * d), .ref 21] A8)).bind (fun z10 => if z10.1 < nI 0 then (yv (ycall 19 0 [.ref 2, .ref 21] z10.2)).bind (fun A13 => (yi (ycall 19 65 [.ref (60 + 2 * d)] A13)).bind (fun z14 => some (some (.int z14.1), z14.2))) else some (some (.int (-nI 2000 - z10.1)), z10.2))) else some (some (.int (-nI 1000 - z5.1)), z5.2)) := by
    rw [en_X11_college]
    simp (disch := omega) only [xV, X11_row_ok _ (iT hi) hd, hz, yi_b, l_lit, ↓reduceIte, ↓xR, ↓sh_row hd, ↓sh_I hd, l4, hF, cV isB21, cV (Or.inl rfl : isB 2)]
  rw [e0, yi_b]
  unfold coN coM
  have hpos : ∀ q, q ≤ 100 → ¬ nI q < nI 0 := fun q hq => nI_pos (by omega)
  by_cases l0 : l = 0
  · rw [if_pos l0, if_pos l0, if_pos l0]
    exact ⟨A, if_neg (hpos 0 (by omega)), hc, fun _ _ _ => rfl, rfl⟩
  · rw [if_neg l0, if_neg l0, if_neg l0]
    cases hfm : fmN f l l 0 with
    | some q =>
      have hq := fm_le l 0 q hfm (by omega)
      exact ⟨A, if_neg (hpos q (by omega)), hc, fun _ _ _ => rfl, rfl⟩
    | none =>
      obtain ⟨A1, a1, a2, a3⟩ := X0_become_ok (n := 19) (by omega) hc isB21 (by omega) hg
      have ht1 : Tx A1 d l f := Tx_eq ht (fun p hp => a3 p (by omega)) (fun p hp => a3 p (by omega))
      obtain ⟨A2, b1, b2, b3⟩ := X9_deed_ok (n := 19) (by omega) ht1 hfm a2 hg hw
      have hb66 : ycall 19 66 [.ref (60 + 2 * d), .ref 21] A1 = some (some (.int (od1 (ddL f l l 0 M).1)), A2) := b1
      have c2 : Col A2 2 M := Col_Fr (Col_Fr hc isB21 (by omega) a3) isB21 (by omega) b2
      rw [show od1 none = -nI 1 from rfl, if_pos n1n]
      dsimp only
      rw [a1, yv_b, hb66, yi_b]
      dsimp only
      have fr : ∀ p, ¬ (2 ≤ p ∧ p < 21) → ¬ scr p → A2 p = A p := fun p h1 hs => by
        have : ¬ (21 ≤ p ∧ p < 21 + 19) := fun z => hs (by unfold scr; omega)
        rw [b2 p this, a3 p this]
      cases hdl : (ddL f l l 0 M).1 with
      | some q =>
        have hq := dl_le l 0 q M hdl
        refine ⟨A2, if_neg (hpos q (by omega)), c2, fr, by rw [b2 79 (by omega), a3 79 (by omega)]⟩
      | none =>
        have hgd := ddL_good l 0 M (by omega) hfm hg hw
        obtain ⟨A3, d1, d2, d3⟩ := X0_become_ok (n := 19) (d := 2) (by omega) (b3 hdl) (Or.inl rfl) (by omega) hgd.1
        have ht3 : Tx A3 d l f := Tx_eq (Tx_eq ht1 (fun p hp => b2 p (by omega)) (fun p hp => b2 p (by omega))) (fun p hp => d3 p (by omega)) (fun p hp => d3 p (by omega))
        have hst := X9_statements_ok (n := 19) (by omega) ht3 hfm
        have hst2 : ycall 19 65 [.ref (60 + 2 * d)] A3 = some (some (.int (nI (stN f l l 0))), A3) := hst
        refine ⟨A3, ?_, d2, fun p h1 hs => by rw [d3 p (by omega), fr p h1 hs], by rw [d3 79 (by omega), b2 79 (by omega), a3 79 (by omega)]⟩
        rw [show od1 none = -nI 1 from rfl, if_pos n1n, d1, yv_b, hst2, yi_b]
theorem X12_row0_ok (hn : 3 ≤ n) (ht : Shf A T c) (hd : d < 8) : ycall n 230 [.ref 79, .int (nI d), .int (nI 0)] A = some (some (.int (if T d 0 = 2 then (if T d 3 = 0 then nI 0 else -nI 12) else rfI T 2 d)), A) := by
  obtain ⟨n, rfl⟩ := Nat.exists_eq_add_of_le' hn
  have ht' := ht
  obtain ⟨h1, -, h2, -⟩ := ht d hd
  have hs : okI (nI d) 8 = true := okI_at hd (by omega)
  have n10 : (nI 1 = nI 0) = False := eq_false (by decide +kernel)
  simp (disch := omega) only [en_X12_wrongRow, X12_isShelf_ok, hs, bI_t, yi_b, l_lit, n10, ↓reduceIte, ↓mR, ↓m8r, h2, nI_eq (a := T d 0), nI_ltI, Nat.lt_irrefl]
  unfold rfI
  by_cases h0 : T d 0 = 0
  · rw [if_pos h0, if_neg (by omega), if_pos h0]
  · rw [if_neg h0]
    by_cases h3 : T d 0 = 2
    · obtain ⟨-, -, -, -, l5, l6⟩ := sh_len ht' hd h3
      rw [if_pos h3, if_pos h3, l5]
      by_cases h4 : T d 3 = 0
      · rw [if_pos h4, if_pos (by rw [h4])]
      · rw [if_neg h4, if_neg (fun z => h4 ((nI_eq (by omega) (by omega)).mp z))]
    · rw [if_neg h3, if_neg h3, if_neg h0, if_neg h3]
theorem api_college (hi : InvX A M I hI T c g) (x : Int32) : Api 72 168 [.int x] A g := by
  have hc := iC hi
  have hg := iG hi
  have hw := iW hi
  by_cases hx : okI x 8 = true
  · obtain ⟨d, hd, rfl⟩ := okI_of (by omega) hx
    have n12 : ¬ (-nI 12 : Int32) = nI 0 := by decide +kernel
    by_cases h2 : T d 0 = 2
    · have hz : rfI T 2 d = nI 0 := (rfI_0 (by omega)).mpr h2
      by_cases h3 : T d 3 = 0
      · obtain ⟨l1, l2, l3, l4, l5, l6⟩ := sh_len (iT hi) hd h2
        have ht : Tx A d (T d 4) (c d) := ⟨hd, l1, l2, l3, fun i hi' => by
          obtain ⟨-, -, -, -, h5⟩ := iT hi d hd
          obtain ⟨-, -, -, -, -, -, h6⟩ := h5 h2
          obtain ⟨a, b, c'⟩ := h6 i (by omega)
          exact ⟨a, b, c' h3⟩⟩
        obtain ⟨A1, a1, a2, a3, a4⟩ := cc_ok hi hd h2 h3 ht
        have hr1 : Row A1 80 M := Row_eq (iR hi) (a3 80 (by omega) (by unfold scr; omega))
        have hT1 : Shf A1 T c := Shf_eq (iT hi) (fun p hp => a3 p (by omega) (by unfold scr; omega)) (fun p hp => a3 p (by omega) (by unfold scr; omega))
        have ht1 : Tx A1 d (T d 4) (c d) := Tx_eq ht (fun p hp => a3 p (by omega) (by unfold scr; omega)) (fun p hp => a3 p (by omega) (by unfold scr; omega))
        obtain ⟨A0, hA0⟩ : ∃ z, z = yup (yup (yup A1 79 6 (nI (100 * d))) 79 7 (nI (T d 4))) 79 5 (nI 0) := ⟨_, rfl⟩
        have f0 : ∀ p, p ≠ 79 → A0 p = A1 p := fun p hp => by rw [hA0, yup_ne1 hp, yup_ne1 hp, yup_ne1 hp]
        have hS : RS A0 d (T d 4) (c d) 0 := ⟨Tx_eq ht1 (fun p hp => f0 p (by omega)) (fun p hp => f0 p (by omega)), by rw [hA0, yup_eq], by rw [hA0, yup_ne2 (by omega), yup_ne2 (by omega), yup_eq], by rw [hA0, yup_ne2 (by omega), yup_eq]⟩
        obtain ⟨A2, b1, b2, b3⟩ := cr_ok (n := 19) (by omega) (Row_eq hr1 (f0 80 (by omega))) hg hw hS
        obtain ⟨g1, g2⟩ := co_good (f := c d) (l := T d 4) hg hw
        refine api_mut (v := .int (coN (c d) (T d 4) M)) hi g1 g2 a1 a2 a3 (by rw [a4]) ?_ b3 (fun p hp hs => ?_) ?_
        · have hrow := X12_row0_ok (n := 19) (by omega) hT1 hd
          rw [if_pos h2, if_pos h3] at hrow
          rw [en_X12_college]
          have e90 : yup A1 79 6 (nI (100 * d)) 90 d = nI (T d 4) := by rw [yup_ne1 (by omega)]; exact ht1.2.2.2.1
          simp (disch := omega) only [mV, l_lit, hrow, yi_b, ↓reduceIte, ↓mP, ↓mR, ↓m8r, nI_mul, e90]
          rw [← hA0]
          exact b1
        · rw [b2.1 p (fun z => hs (by unfold scr; omega)) hp (fun z => hs (by unfold scr; omega)) (fun z => hs (by unfold scr; omega)), f0 p (fun z => hs (by unfold scr; omega))]
        · rw [b2.2 4 (by omega), hA0, yup_ne2 (by omega), yup_ne2 (by omega), yup_ne2 (by omega)]
      · refine api_read hi (.int (-nI 12)) ⟨A, ?_, Sc_r A⟩ (fun A1 hi => ⟨A1, ?_, Sc_r A1⟩)
        · obtain ⟨-, -, -, l4, -, l6⟩ := sh_len (iT hi) hd h2
          have h30 : (nI (T d 3) = nI 0) = False := eq_false (fun z => h3 ((nI_eq (by omega) (by omega)).mp z))
          rw [en_X11_college]
          simp (disch := omega) only [xV, X11_row_ok _ (iT hi) hd, hz, yi_b, l_lit, ↓reduceIte, ↓xR, ↓sh_row hd, ↓sh_I hd, l4, h30]
        · have hrow := X12_row0_ok (n := 19) (by omega) (iT hi) hd
          rw [if_pos h2, if_neg h3] at hrow
          rw [en_X12_college, mV]
          simp only [l_lit]
          rw [hrow, yi_b]
          exact if_neg n12
    · have h0 : ¬ rfI T 2 d = nI 0 := fun e => h2 ((rfI_0 (by omega)).mp e)
      refine api_read hi (.int (rfI T 2 d)) ⟨_, ?_, Sc_r A⟩ (fun A1 hi => ⟨_, ?_, Sc_r A1⟩)
      · rw [en_X11_college, xV, X11_row_ok (by omega) (iT hi) hd, yi_b]
        exact if_neg h0
      · have hrow := X12_row0_ok (n := 19) (by omega) (iT hi) hd
        rw [if_neg h2] at hrow
        rw [en_X12_college, mV]
        simp only [l_lit]
        rw [hrow, yi_b]
        exact if_neg h0
  · have hx := okI_f hx
    refine api_read hi (.int (-1)) ⟨_, ?_, Sc_r A⟩ (fun A1 hi => ⟨_, ?_, Sc_r A1⟩)
    · rw [en_X11_college, xV, X11_row_no (by omega) hx, yi_b]
      exact if_neg (show ¬ (-1 : Int32) = 0 by decide +kernel)
    · rw [en_X12_college, mV, X12_row_no (by omega) hx, yi_b]
      exact if_neg (show ¬ (-1 : Int32) = 0 by decide +kernel)
end B14
