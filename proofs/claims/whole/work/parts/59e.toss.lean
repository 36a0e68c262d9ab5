/-! one of a KIND thrown out: what is caught -/
section B13
variable {A : yM} {M I : Mt} {hI : Nat} {T : Nat → Nat → Nat} {c : Nat → Nat → Int32} {g : Nat} {n d k f : Nat}
theorem ycall_sp {d m : Nat} {vs : List Value} {A : yM} (hm : mtab[m]? = none) (hd : Nat.ble 6 d = true) : ycall (d + 1) m vs A = yspc m vs A := by
  show (match mtab[m]? with
    | some X => _
    | none => _) = _
  rw [hm]
  show (match Nat.ble 6 d with
      | true => yspc m vs A
      | false => none) = _
  rw [hd]
theorem nI_nat {g : Nat} (hg : g < 2 ^ 31) : (nI g).toNatClampNeg = g := by
  unfold Int32.toNatClampNeg
  rw [nI_toInt hg]
  exact Int.toNat_natCast g
theorem InvX_fg (hi : InvX A M I hI T c g) : InvX (yfg A) M I hI T c (g + 1) := by
  obtain ⟨h1, h2, h3, h4, h5, h6, h7, h8, h9, h10⟩ := hi
  have f1 : ∀ p, p ≠ 94 → yfg A p = A p := fun p hp => yup_ne1 hp
  refine ⟨h1, h2, Col_fr h3 (fun p hp => f1 p (by omega)), Row_eq h4 (f1 80 (by omega)), h5, ?_, ?_, fun q => ?_, ?_, ?_⟩
  · rw [f1 1 (by omega)]; exact h6
  · rw [f1 79 (by omega)]; exact h7
  · obtain ⟨a1, a2, a3, a4⟩ := h8 q
    exact ⟨a1, a2, Col_fr a3 (fun p hp => f1 p (by omega)), Row_eq a4 (f1 82 (by omega))⟩
  · exact Shf_eq h9 (fun p hp => f1 p (by omega)) (fun p hp => f1 p (by omega))
  · unfold yfg
    rw [yup_eq, h10, l_1, nI_add]
theorem api_fg {cm rm : Nat} {as : List Value} (hi : InvX A M I hI T c g) (v : Value)
    (h1 : ycall 20 cm (.ref 1 :: as) A = some (some v, yfg A))
    (h2 : ∀ A1, InvX A1 M I hI T c (g + 1) → ∃ A2, ycall 20 rm (.ref 79 :: as) A1 = some (some v, A2) ∧ Sc A1 A2) (hv : vok cm v = true := by rfl) : Api cm rm as A g := by
  obtain ⟨A2, b1, b2⟩ := h2 (yfg A) (InvX_fg hi)
  have f1 : ∀ p, p ≠ 94 → yfg A p = A p := fun p hp => yup_ne1 hp
  refine ⟨v, yfg A, A2, g + 1, hv, h1, b1, by omega, ⟨M, I, hI, T, c, InvX_Sc (InvX_fg hi) b2⟩, ?_, ?_, f1 0 (by omega), f1 93 (by omega)⟩
  · rw [b2.1 0 (by unfold scr; omega), f1 0 (by omega)]
  · rw [b2.1 93 (by unfold scr; omega), f1 93 (by omega)]
/-- what is told of a failure -/
def tsN (k f : Nat) : Int32 := if k = 2 ∨ k = 4 ∨ f = 0 then -nI 15 else if k = 6 then nI (210 + f) else if k = 0 ∨ k = 7 then nI f else nI (100 + f)
theorem yct_ok (hk : k < 8) (hf : f < 10) : yct (kcl k) (nI f) = tsN k f := (by decide +kernel : ∀ k, k < 8 → ∀ f, f < 10 → yct (kcl k) (nI f) = tsN k f) k hk f hf
theorem tsN_15 (hk : k < 8) (hf : f < 10) : (tsN k f = -15) = (k = 2 ∨ k = 4 ∨ f = 0) := by
  apply propext
  exact (by decide +kernel : ∀ k, k < 8 → ∀ f, f < 10 → (tsN k f = -15 ↔ (k = 2 ∨ k = 4 ∨ f = 0))) k hk f hf
theorem kcl_ok (hk : k < 8) : kcl k < 10 ∧ kcl k ≠ 0 ∧ kcl k ≠ 7 := (by decide +kernel : ∀ k, k < 8 → kcl k < 10 ∧ kcl k ≠ 0 ∧ kcl k ≠ 7) k hk
theorem y900 (hi : InvX A M I hI T c g) (hgg : g < 100000) (hk : k < 8) (hf : f < 10) : ycall 19 900 [.ref (4 + k), .int (nI f)] A = some (some (.int (tsN k f)), if k = 2 ∨ k = 4 ∨ f = 0 then A else yfg A) := by
  rw [ycall_sp rfl rfl]
  have hc : ycl A (4 + k) = some (kcl k) := ycl_k (b := 2) (Or.inl rfl) hk
  have h94 : A 94 0 = nI g := hi.2.2.2.2.2.2.2.2.2
  obtain ⟨k1, k2, k3⟩ := kcl_ok hk
  show (match ycl A (4 + k) with
      | some ci => if ci < 10 ∧ ci ≠ 0 ∧ ci ≠ 7 ∧ 0 ≤ nI f ∧ 0 ≤ A 94 0 ∧ (A 94 0).toNatClampNeg < 100000 then some (some (Value.int (yct ci (nI f))), if yct ci (nI f) = -15 then A else yfg A) else none
      | none => none) = _
  rw [hc]
  show (if kcl k < 10 ∧ kcl k ≠ 0 ∧ kcl k ≠ 7 ∧ 0 ≤ nI f ∧ 0 ≤ A 94 0 ∧ (A 94 0).toNatClampNeg < 100000 then _ else none) = _
  rw [if_pos ⟨k1, k2, k3, nI_le (Nat.zero_le _) (by omega), by rw [h94]; exact nI_le (Nat.zero_le _) (by omega), by rw [h94, nI_nat (by omega)]; exact hgg⟩, yct_ok hk hf]
  congr 2
  by_cases q : k = 2 ∨ k = 4 ∨ f = 0
  · rw [if_pos q, if_pos (by rw [tsN_15 hk hf]; exact q)]
  · rw [if_neg q, if_neg (by rw [tsN_15 hk hf]; exact q)]
theorem api_toss (hi : InvX A M I hI T c g) (hgg : g < 100000) (x : Int32) : Api 133 239 [.int x] A g := by
  refine api_one hi (en_X11_toss ..) (fun A => en_X12_toss ..) (fun d hx hd h1 => ?_)
  subst hx
  have hc := iC hi
  have hz : rfI T 1 d = nI 0 := (rfI_0 (by omega)).mpr h1
  obtain ⟨-, -, -, h4, -⟩ := iT hi d hd
  obtain ⟨b1, b2, b3, b4, -⟩ := h4 h1
  have e1 : ycall 20 133 [.ref 1, .int (nI d)] A = some (some (.int (tsN (T d 1) (T d 2))), if T d 1 = 2 ∨ T d 1 = 4 ∨ T d 2 = 0 then A else yfg A) := by
    rw [en_X11_toss]
    simp (disch := omega) only [xV, X11_one_ok _ (iT hi) hd, hz, yi_b, l_lit, ↓reduceIte, ↓xR, cR hc.1, ↓sh_row hd, ↓sh_I hd, b3, b4, cK hc.1]
    rw [y900 hi hgg b1 b2, yi_b]
  have e2 : ∀ A1 g1, InvX A1 M I hI T c g1 → ycall 20 239 [.ref 79, .int (nI d)] A1 = some (some (.int (tsN (T d 1) (T d 2))), A1) := fun A1 g1 hi => by
    obtain ⟨-, -, -, h4, -⟩ := iT hi d hd
    obtain ⟨b1, b2, -, -, b5, b6⟩ := h4 h1
    rw [en_X12_toss]
    simp (disch := omega) only [mV, X12_kept_ok _ (iT hi) hd, hz, yi_b, l_lit, ↓reduceIte, ↓mR, ↓m8r, b5, b6, X12_costBy_ok _ b1, nI_eq, nI_add]
    unfold tsN
    generalize T d 1 = k at *
    generalize T d 2 = f at *
    have : k = 0 ∨ k = 1 ∨ k = 2 ∨ k = 3 ∨ k = 4 ∨ k = 5 ∨ k = 6 ∨ k = 7 := by omega
    by_cases hf0 : f = 0
    · rcases this with rfl | rfl | rfl | rfl | rfl | rfl | rfl | rfl <;> simp [hf0]
    · rcases this with rfl | rfl | rfl | rfl | rfl | rfl | rfl | rfl <;> simp [hf0, prN]
      rw [← Nat.add_assoc]
  by_cases q : T d 1 = 2 ∨ T d 1 = 4 ∨ T d 2 = 0
  · rw [if_pos q] at e1
    exact api_read hi _ ⟨A, e1, Sc_r A⟩ (fun A1 hi => ⟨A1, e2 A1 g hi, Sc_r A1⟩)
  · rw [if_neg q] at e1
    exact api_fg hi _ e1 (fun A1 hi => ⟨A1, e2 A1 (g + 1) hi, Sc_r A1⟩)
end B13
