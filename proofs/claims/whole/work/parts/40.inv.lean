/-! what holds between calls -/
/-- places that are told anew before they are used -/
def scr (p : Nat) : Prop := p = 19 ∨ p = 20 ∨ (21 ≤ p ∧ p ≤ 39) ∨ (76 ≤ p ∧ p ≤ 79) ∨ p = 81 ∨ (83 ≤ p ∧ p ≤ 85)
def Sc (A A' : yM) : Prop := (∀ p, ¬ scr p → A' p = A p) ∧ A' 79 4 = A 79 4
theorem Sc_r (A : yM) : Sc A A := ⟨fun _ _ => rfl, rfl⟩
theorem Sc_t {A B C : yM} (h1 : Sc A B) (h2 : Sc B C) : Sc A C := ⟨fun p hp => (h2.1 p hp).trans (h1.1 p hp), h2.2.trans h1.2⟩
theorem Sc_Fr {A A' : yM} (h : Fr 21 A A') : Sc A A' := ⟨fun p hp => h p (fun q => hp (by unfold scr; omega)), by rw [h 79 (by omega)]⟩
theorem Sc_Fq {A A' : yM} {q : Nat} (hq : q = 81 ∨ q = 83) (h : Fq q A A') : Sc A A' := ⟨fun p hp => h p (fun e => hp (by unfold scr; omega)), by rw [h 79 (by omega)]⟩
theorem Sc_ro {A : yM} {a n : Nat} {f : Nat → Int32} (ha : scr a) (h79 : a ≠ 79) : Sc A (yro A a n f) := ⟨fun p hp => yro_ne (fun e => hp (by rw [e]; exact ha)), by rw [yro_ne (fun e => h79 e.symm)]⟩
theorem Sc_up {A : yM} {a i : Nat} {v : Int32} (ha : scr a) (h : a = 79 → i ≠ 4) : Sc A (yup A a i v) := by
  refine ⟨fun p hp => yup_ne1 (fun e => hp (by rw [e]; exact ha)), ?_⟩
  by_cases h79 : a = 79
  · subst h79; exact yup_ne2 (fun e => h rfl e.symm)
  · rw [yup_ne (fun e => h79 e.symm)]
theorem Sc_tMk {A : yM} {b : Nat} {M : Mt} (hb : b = 2 ∨ b = 21) : Sc A (tMk A b M) := Sc_ro (by unfold scr; omega) (by omega)
theorem Sc_tVt {A : yM} {b : Nat} {M : Mt} (hb : b = 2 ∨ b = 21) : Sc A (tVt A b M) := Sc_t (Sc_tMk hb) (Sc_ro (by unfold scr; omega) (by omega))
theorem Col_Sc {A A' : yM} {M : Mt} (hc : Col A 2 M) (h : Sc A A') : Col A' 2 M := Col_fr hc (fun p hp => h.1 p (by unfold scr; omega))
theorem Row_Sc {A A' : yM} {M : Mt} (hr : Row A 80 M) (h : Sc A A') : Row A' 80 M := Row_eq hr (h.1 80 (by unfold scr; omega))
/-- a SHELF: what it holds (0, 1 a KIND, 2 a ROW), KIND, FIGURE, SORT, length; its elements -/
def Shf (A : yM) (T : Nat → Nat → Nat) (c : Nat → Nat → Int32) : Prop := ∀ d, d < 8 → T d 0 ≤ 2 ∧ A (60 + 2 * d) 0 = nI (T d 0) ∧ A 86 d = nI (T d 0) ∧
  (T d 0 = 1 → T d 1 < 8 ∧ T d 2 < 10 ∧ A (60 + 2 * d) 1 = nI (T d 1) ∧ A (60 + 2 * d) 2 = nI (T d 2) ∧ A 87 d = nI (T d 1) ∧ A 88 d = nI (T d 2)) ∧
  (T d 0 = 2 → T d 3 ≤ 2 ∧ T d 4 ≤ 100 ∧ A (60 + 2 * d) 3 = nI (T d 3) ∧ A (60 + 2 * d) 4 = nI (T d 4) ∧ A 89 d = nI (T d 3) ∧ A 90 d = nI (T d 4) ∧ (∀ j, j < 100 → A (61 + 2 * d) j = c d j ∧ A 91 (100 * d + j) = c d j ∧ (T d 3 = 0 → (c d j).toInt8.toInt32 = c d j)))
theorem Shf_eq {A A' : yM} {T : Nat → Nat → Nat} {c : Nat → Nat → Int32} (h : Shf A T c) (h1 : ∀ p, 60 ≤ p ∧ p ≤ 75 → A' p = A p) (h2 : ∀ p, 86 ≤ p ∧ p ≤ 91 → A' p = A p) : Shf A' T c := by
  intro d hd
  have := h d hd
  rw [h1 (60 + 2 * d) (by omega), h1 (61 + 2 * d) (by omega), h2 86 (by omega), h2 87 (by omega), h2 88 (by omega), h2 89 (by omega), h2 90 (by omega), h2 91 (by omega)]
  exact this
/-- all: the COLLEGE, THE IMAGE, SHELVES; how much was made and forgotten -/
def InvX (A : yM) (M I : Mt) (hI : Nat) (T : Nat → Nat → Nat) (c : Nat → Nat → Int32) (g : Nat) : Prop := Good M ∧ M 0 2 ≤ 999 ∧ Col A 2 M ∧ Row A 80 M ∧ hI ≤ 1 ∧ A 1 3 = nI hI ∧ A 79 4 = nI hI ∧ (hI = 1 → Good I ∧ I 0 2 ≤ 999 ∧ Col A 40 I ∧ Row A 82 I) ∧ Shf A T c ∧ A 94 0 = nI g
def Inv (A : yM) (g : Nat) : Prop := ∃ M I hI T c, InvX A M I hI T c g
theorem InvX_Sc {A A' : yM} {M I : Mt} {hI : Nat} {T : Nat → Nat → Nat} {c : Nat → Nat → Int32} {g : Nat} (h : InvX A M I hI T c g) (hs : Sc A A') : InvX A' M I hI T c g := by
  obtain ⟨h1, h2, h3, h4, h5, h6, h7, h8, h9, h10⟩ := h
  refine ⟨h1, h2, Col_Sc h3 hs, Row_Sc h4 hs, h5, ?_, hs.2.trans h7, fun q => ?_, ?_, ?_⟩
  · rw [hs.1 1 (by unfold scr; omega)]; exact h6
  · obtain ⟨a1, a2, a3, a4⟩ := h8 q
    exact ⟨a1, a2, Col_fr a3 (fun p hp => hs.1 p (by unfold scr; omega)), Row_eq a4 (hs.1 82 (by unfold scr; omega))⟩
  · exact Shf_eq h9 (fun p hp => hs.1 p (by unfold scr; omega)) (fun p hp => hs.1 p (by unfold scr; omega))
  · rw [hs.1 94 (by unfold scr; omega)]; exact h10
theorem Inv_Sc {A A' : yM} {g : Nat} (h : Inv A g) (hs : Sc A A') : Inv A' g := by
  obtain ⟨M, I, hI, T, c, h⟩ := h
  exact ⟨M, I, hI, T, c, InvX_Sc h hs⟩
/-- calls that answer by ints; what is answered -/
def nlg (cm : Nat) : Bool := !(Nat.beq cm 93 || Nat.beq cm 118 || Nat.beq cm 121)
def vok (cm : Nat) : Value → Bool
  | .int _ => nlg cm
  | .long _ => !(nlg cm)
  | _ => false
def Api (cm rm : Nat) (as : List Value) (A : yM) (g : Nat) : Prop := ∃ v A1 A2 g', vok cm v = true ∧ ycall 20 cm (.ref 1 :: as) A = some (some v, A1) ∧ ycall 20 rm (.ref 79 :: as) A1 = some (some v, A2) ∧ g' ≤ g + 1 ∧ Inv A2 g' ∧ A2 0 = A 0 ∧ A2 93 = A 93 ∧ A1 0 = A 0 ∧ A1 93 = A 93
theorem api_read {cm rm : Nat} {as : List Value} {A : yM} {g : Nat} {M I : Mt} {hI : Nat} {T : Nat → Nat → Nat} {c : Nat → Nat → Int32} (hi : InvX A M I hI T c g) (v : Value)
    (h1 : ∃ A1, ycall 20 cm (.ref 1 :: as) A = some (some v, A1) ∧ Sc A A1)
    (h2 : ∀ A1, InvX A1 M I hI T c g → ∃ A2, ycall 20 rm (.ref 79 :: as) A1 = some (some v, A2) ∧ Sc A1 A2) (hv : vok cm v = true := by rfl) : Api cm rm as A g := by
  obtain ⟨A1, a1, a2⟩ := h1
  obtain ⟨A2, b1, b2⟩ := h2 A1 (InvX_Sc hi a2)
  have hs := Sc_t a2 b2
  exact ⟨v, A1, A2, g, hv, a1, b1, by omega, ⟨M, I, hI, T, c, InvX_Sc hi hs⟩, hs.1 0 (by unfold scr; omega), hs.1 93 (by unfold scr; omega), a2.1 0 (by unfold scr; omega), a2.1 93 (by unfold scr; omega)⟩
section IX
variable {A : yM} {M I : Mt} {hI : Nat} {T : Nat → Nat → Nat} {c : Nat → Nat → Int32} {g : Nat}
theorem iG (h : InvX A M I hI T c g) : Good M := h.1
theorem iW (h : InvX A M I hI T c g) : M 0 2 ≤ 999 := h.2.1
theorem iC (h : InvX A M I hI T c g) : Col A 2 M := h.2.2.1
theorem iR (h : InvX A M I hI T c g) : Row A 80 M := h.2.2.2.1
theorem iT (h : InvX A M I hI T c g) : Shf A T c := h.2.2.2.2.2.2.2.2.1
/-- a step of the COLLEGE alone, of both alike -/
theorem api_mut {cm rm : Nat} {as : List Value} {v : Value} {A1 A2 : yM} {M' : Mt} (hi : InvX A M I hI T c g) (hg : Good M') (hw : M' 0 2 ≤ 999)
    (a1 : ycall 20 cm (.ref 1 :: as) A = some (some v, A1)) (c1 : Col A1 2 M') (f1 : ∀ p, ¬ (2 ≤ p ∧ p < 21) → ¬ scr p → A1 p = A p) (k1 : A1 79 4 = A 79 4)
    (a2 : ycall 20 rm (.ref 79 :: as) A1 = some (some v, A2)) (r2 : Row A2 80 M') (f2 : ∀ p, p ≠ 80 → ¬ scr p → A2 p = A1 p) (k2 : A2 79 4 = A1 79 4) (hv : vok cm v = true := by rfl) : Api cm rm as A g := by
  obtain ⟨h1, h2, h3, h4, h5, h6, h7, h8, h9, h10⟩ := hi
  have f : ∀ p, ¬ (2 ≤ p ∧ p < 21) → p ≠ 80 → ¬ scr p → A2 p = A p := fun p x1 x2 x3 => (f2 p x2 x3).trans (f1 p x1 x3)
  refine ⟨v, A1, A2, g, hv, a1, a2, by omega, ⟨M', I, hI, T, c, hg, hw, Col_fr c1 (fun p hp => f2 p (by omega) (by unfold scr; omega)), r2, h5, ?_, k2.trans (k1.trans h7), fun q => ?_, ?_, ?_⟩, f 0 (by omega) (by omega) (by unfold scr; omega), f 93 (by omega) (by omega) (by unfold scr; omega), f1 0 (by omega) (by unfold scr; omega), f1 93 (by omega) (by unfold scr; omega)⟩
  · rw [f 1 (by omega) (by omega) (by unfold scr; omega)]; exact h6
  · obtain ⟨b1, b2, b3, b4⟩ := h8 q
    exact ⟨b1, b2, Col_fr b3 (fun p hp => f p (by omega) (by omega) (by unfold scr; omega)), Row_eq b4 (f 82 (by omega) (by omega) (by unfold scr; omega))⟩
  · exact Shf_eq h9 (fun p hp => f p (by omega) (by omega) (by unfold scr; omega)) (fun p hp => f p (by omega) (by omega) (by unfold scr; omega))
  · rw [f 94 (by omega) (by omega) (by unfold scr; omega)]; exact h10
end IX
/-! numbers out of their range -/
theorem bI_t : bI true = nI 1 := rfl
theorem bI_f : bI false = nI 0 := rfl
theorem isr_eq {k : Nat} (hk : k < 2 ^ 30) (x : Int32) : decide (¬ x < nI 0 ∧ ¬ nI k < x) = okI x (k + 1) := by
  unfold okI
  congr 1
  apply propext
  by_cases h1 : x < nI 0
  · simp [h1]
  · obtain ⟨j, hj, rfl⟩ := nI_of h1
    simp only [h1, not_false_eq_true, true_and]
    rw [nI_ltI (by omega) hj, nI_ltI hj (by omega)]
    omega
theorem ok_le {α : Type} {X Y : α} (k : Nat) (x : Int32) : (if x < nI 0 then X else if nI k ≤ x then X else Y) = if okI x k = true then Y else X := by
  unfold okI
  by_cases h1 : x < nI 0
  · simp [h1]
  · by_cases h2 : nI k ≤ x
    · simp [h1, h2, Int32.not_lt.mpr h2]
    · simp [h1, h2, Int32.not_le.mp h2]
theorem ok_lt {α : Type} {X Y : α} (k : Nat) (x : Int32) : (if x < nI 0 then X else if x < nI k then Y else X) = if okI x k = true then Y else X := by
  unfold okI
  by_cases h1 : x < nI 0
  · simp [h1]
  · by_cases h2 : x < nI k
    · simp [h1, h2]
    · simp [h1, h2]
theorem ok_gt {α : Type} {X Y : α} {k : Nat} (hk : k < 2 ^ 30) (x : Int32) : (if x < nI 0 then X else if nI k < x then X else Y) = if okI x (k + 1) = true then Y else X := by
  rw [← isr_eq hk x]
  by_cases h1 : x < nI 0
  · simp [h1]
  · by_cases h2 : nI k < x
    · simp [h1, h2]
    · simp [h1, h2]
theorem okI_f {x : Int32} {n : Nat} (h : ¬ okI x n = true) : okI x n = false := by simpa using h
theorem xV {A : yM} {m : Nat} {C : yC} {as : List Value} : yvt [(10, m)] C (.ref 1 :: as) A = C m (.ref 1 :: as) A := rfl
theorem xR (A : yM) (K : Nat → Option yR) : ygR A 1 10 0 K = K 2 ∧ ygR A 1 10 1 K = K 21 ∧ ygR A 1 10 2 K = K 40 ∧ ygR A 1 10 4 K = K 59 ∧ ygR A 1 10 5 K = K 76 ∧ ygR A 1 10 6 K = K 77 ∧ ygR A 1 10 7 K = K 78 := ⟨rfl, rfl, rfl, rfl, rfl, rfl, rfl⟩
theorem x3I (A : yM) (K : Int32 → Option yR) : ygI A 1 10 3 K = K (A 1 3) := rfl
theorem x3P (A : yM) (v : Int32) (K : yM → Option yR) : ypI A 1 10 3 v K = K (yup A 1 3 v) := rfl
theorem X12_in0 {n k : Nat} {A : yM} (hn : 1 ≤ n) (hk : k < 2 ^ 30) (x : Int32) : ycall n 138 [.int x, .int (nI 0), .int (nI k)] A = some (some (.int (bI (okI x (k + 1)))), A) := by
  rw [X12_isIn_ok hn, isr_eq hk]
theorem ng : ((-nI 1 = nI 0) = False) ∧ ((-nI 2 = nI 0) = False) ∧ ((-nI 3 = nI 0) = False) ∧ ((-nI 4 = nI 0) = False) ∧ ((-nI 11 = nI 0) = False) ∧ ((-nI 12 = nI 0) = False) ∧ ((-nI 13 = nI 0) = False) ∧ ((-nI 14 = nI 0) = False) ∧ ((-nI 15 = nI 0) = False) := ⟨eq_false (by decide +kernel), eq_false (by decide +kernel), eq_false (by decide +kernel), eq_false (by decide +kernel), eq_false (by decide +kernel), eq_false (by decide +kernel), eq_false (by decide +kernel), eq_false (by decide +kernel), eq_false (by decide +kernel)⟩
theorem ngl : ((-nI 1 < nI 0) = True) ∧ ((-nI 2 < nI 0) = True) ∧ ((-nI 3 < nI 0) = True) ∧ ((-nI 4 < nI 0) = True) ∧ ((-nI 11 < nI 0) = True) ∧ ((-nI 12 < nI 0) = True) ∧ ((-nI 13 < nI 0) = True) ∧ ((-nI 14 < nI 0) = True) ∧ ((-nI 15 < nI 0) = True) := ⟨eq_true (by decide +kernel), eq_true (by decide +kernel), eq_true (by decide +kernel), eq_true (by decide +kernel), eq_true (by decide +kernel), eq_true (by decide +kernel), eq_true (by decide +kernel), eq_true (by decide +kernel), eq_true (by decide +kernel)⟩
