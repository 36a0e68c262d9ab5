/-! two who may correct one error each -/
def tzN (M : Mt) (e i : Nat) : Nat := if i = 1 then M 6 e else M 6 e / 2
def txN (M : Mt) (e f x y : Nat) : Mt := mu (mu M 6 e x) 6 f y
def twN (M : Mt) (e f k : Nat) : Mt := txN M e f (tzN M e (k / 2)) (tzN M f (k % 2))
def tgN (M : Mt) (a b e f k : Nat) : Int32 := nI (marksN (twN M e f k) a) - nI (marksN (twN M e f k) b / 2)
theorem mu6_good {M : Mt} (hg : Good M) {e v : Nat} (hv : v < 100) : Good (mu M 6 e v) := by
  obtain ⟨h1, h2, h3, h4, h5⟩ := hg
  refine ⟨?_, ?_, ?_, fun p hp => ?_, fun k hk => ?_⟩
  · rw [mu_ne (by omega)]; exact h1
  · rw [mu_ne (by omega)]; exact h2
  · rw [mu_ne (by omega)]; exact h3
  · rw [mu_ne (by omega)] at hp
    rw [mu_ne (by omega), mu_ne (by omega), mu_ne (by omega)]; exact h4 p hp
  · rw [mu_ne (by omega)] at hk
    obtain ⟨b1, b2, b3, b4, b5⟩ := h5 k hk
    rw [mu_ne1 (a := 4) (by omega), mu_ne1 (a := 0) (by omega), mu_ne1 (a := 5) (by omega), mu_ne1 (a := 7) (by omega), mu_ne1 (a := 8) (by omega)]
    refine ⟨b1, b2, ?_, b4, b5⟩
    by_cases hke : k = e
    · subst hke; rw [mu_eq]; exact hv
    · rw [mu_ne2 hke]; exact b3
theorem txN_good {M : Mt} (hg : Good M) {e f x y : Nat} (hx : x < 100) (hy : y < 100) : Good (txN M e f x y) := mu6_good (mu6_good hg hx) hy
theorem tzN_lt {M : Mt} (hg : Good M) {e i : Nat} (he : e < M 0 1) : tzN M e i < 100 := by
  have := (gEr hg he).2.2.1
  unfold tzN; split <;> omega
theorem twN_good {M : Mt} (hg : Good M) {e f k : Nat} (he : e < M 0 1) (hf : f < M 0 1) : Good (twN M e f k) := txN_good hg (tzN_lt hg he) (tzN_lt hg hf)
theorem mu_mu {M : Mt} {t e x y : Nat} : mu (mu M t e x) t e y = mu M t e y := by
  funext a j
  unfold mu
  by_cases h : a = t ∧ j = e
  · rw [if_pos h, if_pos h]
  · rw [if_neg h, if_neg h, if_neg h]
theorem mu_com {M : Mt} {t e f x y : Nat} (h : e ≠ f) : mu (mu M t e x) t f y = mu (mu M t f y) t e x := by
  funext a j
  unfold mu
  by_cases h1 : a = t ∧ j = e
  · rw [if_neg (fun q => h (h1.2.symm.trans q.2)), if_pos h1]; exact (if_pos h1).symm
  · by_cases h2 : a = t ∧ j = f
    · rw [if_pos h2, if_neg h1, if_pos h2]
    · rw [if_neg h2, if_neg h1, if_neg h1, if_neg h2]
theorem tx_a {M : Mt} {e f x y x' : Nat} (h : e ≠ f) : mu (txN M e f x y) 6 e x' = txN M e f x' y := by
  unfold txN; rw [mu_com (Ne.symm h), mu_mu]
theorem tx_b {M : Mt} {e f x y y' : Nat} : mu (txN M e f x y) 6 f y' = txN M e f x y' := by
  unfold txN; rw [mu_mu]
theorem tx_0 {M : Mt} {e f : Nat} (h : e ≠ f) : txN M e f (M 6 e) (M 6 f) = M := by
  have s : ∀ t k, mu M t k (M t k) = M := fun t k => by
    funext a j
    unfold mu
    by_cases q : a = t ∧ j = k
    · rw [if_pos q, q.1, q.2]
    · rw [if_neg q]
  unfold txN; rw [s, s]
section B10
variable {A : yM} {M I : Mt} {hI : Nat} {T : Nat → Nat → Nat} {c : Nat → Nat → Int32} {g : Nat} {n a b e f k : Nat}
theorem r77 {A : yM} {k : Nat} {K : Int32 → Option yR} (h : k < 8) : yrd A 77 (nI k) K = K (A 77 k) := yrd_at (n := 8) rfl (by omega) h
theorem w77 {A : yM} {k : Nat} {v : Int32} {K : yM → Option yR} (h : k < 8) : ywr A 77 (nI k) v K = K (yup A 77 k v) := ywr_at (n := 8) rfl (by omega) h
theorem X11_stands_ok (hn : 1 ≤ n) (hc : Col A 2 M) (hg : Good M) (he : e < M 0 1) {i : Nat} (hi : i < 2) : ycall n 117 [.ref 1, .int (nI e), .int (nI i)] A = some (some (.int (nI (tzN M e i))), A) := by
  obtain ⟨n, rfl⟩ := Nat.exists_eq_add_of_le' hn
  have hE := gE hg
  have h1 := gEr hg he
  have n20 : (nI 2 = nI 0) = False := eq_false (by decide +kernel)
  rw [en_X11_standsOrHalf]
  unfold tzN
  by_cases h : i = 1
  · simp (disch := omega) only [h, l_lit, ↓reduceIte, ↓xR, cR hc.1, cD12 hc.1, cSz hc]
  · have h2 : (nI i = nI 1) = False := eq_false (fun z => h ((nI_eq (by omega) (by omega)).mp z))
    simp (disch := omega) only [h, h2, n20, l_lit, ↓reduceIte, ↓xR, cR hc.1, cD12 hc.1, cSz hc, nI_div]
theorem tw_sr {k : Nat} (hk : k < 4) : nI k >>> (nI 1 &&& nI 31) = nI (k / 2) := (by decide +kernel : ∀ k, k < 4 → nI k >>> (nI 1 &&& nI 31) = nI (k / 2)) k hk
theorem tw_an {k : Nat} (hk : k < 4) : nI k &&& nI 1 = nI (k % 2) := nI_and1 (by omega)
/-- what the loop of the class keeps -/
def TwP (A0 : yM) (M : Mt) (a b e f k : Nat) (A : yM) : Prop := Sc A0 A ∧ Col A 2 M ∧ (∃ x y, x < 100 ∧ y < 100 ∧ Col A 21 (txN M e f x y)) ∧ ∀ i, i < k → A 77 i = tgN M a b e f i ∧ A 77 (4 + i) = tgN M b a e f i
theorem tw_step (hg : Good M) (ha : a < 6) (hb : b < 6) (he : e < M 0 1) (hf : f < M 0 1) (hef : e ≠ f) {A0 : yM} (hk : k < 4) (h : TwP A0 M a b e f k A) : ∃ A', yb_X11_two (ycall 19) (78, [some (.ref 1), some (.int (nI a)), some (.int (nI b)), some (.int (nI e)), some (.int (nI f)), some (.int (nI k)), none, none], [], A) = yb_X11_two (ycall 19) (78, [some (.ref 1), some (.int (nI a)), some (.int (nI b)), some (.int (nI e)), some (.int (nI f)), some (.int (nI (k + 1))), none, none], [], A') ∧ TwP A0 M a b e f (k + 1) A' := by
  obtain ⟨hs, hc, ⟨x, y, hx, hy, hm⟩, h7⟩ := h
  have hE := gE hg
  have he2 : e < txN M e f x y 0 1 := he
  have hm1 := Col_size (v := tzN M e (k / 2)) hm he2
  rw [tx_a hef] at hm1
  have hf2 : f < txN M e f (tzN M e (k / 2)) y 0 1 := hf
  have hm2 := Col_size (v := tzN M f (k % 2)) hm1 hf2
  rw [tx_b] at hm2
  change Col _ 21 (twN M e f k) at hm2
  have hg2 : Good (twN M e f k) := twN_good hg he hf
  have hc1 : Col (yup A 35 e (nI (tzN M e (k / 2)))) 2 M := Col_fr hc (fun p hp => yup_ne1 (by omega))
  have ma := marksN_le hg2 a
  have mb := marksN_le hg2 b
  have n20 : (nI 2 = nI 0) = False := eq_false (by decide +kernel)
  obtain ⟨B, hB⟩ : ∃ B, B = yup (yup A (21 + 14) e (nI (tzN M e (k / 2)))) (21 + 14) f (nI (tzN M f (k % 2))) := ⟨_, rfl⟩
  rw [← hB] at hm2
  have hB2 : yup (yup A 35 e (nI (tzN M e (k / 2)))) 35 f (nI (tzN M f (k % 2))) = B := hB.symm
  refine ⟨yup (yup B 77 k (tgN M a b e f k)) 77 (4 + k) (tgN M b a e f k), ?_, Sc_t hs (Sc_t (B := B) ?_ (Sc_t (Sc_up (by unfold scr; omega) (fun h => by omega)) (Sc_up (by unfold scr; omega) (fun h => by omega)))), ?_, ⟨tzN M e (k / 2), tzN M f (k % 2), tzN_lt hg he, tzN_lt hg hf, ?_⟩, ?_⟩
  · refine (bk_X11_two_78 ..).trans ?_
    have w35 : ∀ (A : yM) (e : Nat) (v : Int32) (K : yM → Option yR), e < 12 → ywr A 35 (nI e) v K = K (yup A 35 e v) := fun A e v K h => ywr_at (n := 12) rfl (by omega) h
    simp (disch := omega) only [↓xR, ↓xV, l_lit, nI_leI, Nat.not_le.mpr hk, ↓reduceIte, cR (Or.inr (Or.inl rfl) : isB 21), tw_sr hk, tw_an hk, X11_stands_ok _ hc hg he, X11_stands_ok _ hc1 hg hf, yi_b, w35, hB2, cV (Or.inr (Or.inl rfl) : isB 21), X0_marksOf_ok _ hm2 hg2 ha, X0_marksOf_ok _ hm2 hg2 hb, n20, nI_div, nI_add, w77]
    rfl
  · rw [hB]
    exact Sc_t (Sc_up (by unfold scr; omega) (fun h => by omega)) (Sc_up (by unfold scr; omega) (fun h => by omega))
  · refine Col_fr hc (fun p hp => ?_)
    rw [yup_ne1 (by omega), yup_ne1 (by omega), hB, yup_ne1 (by omega), yup_ne1 (by omega)]
  · exact Col_fr hm2 (fun p hp => by rw [yup_ne1 (by omega), yup_ne1 (by omega)])
  · intro i hi
    have hb7 : ∀ j, B 77 j = A 77 j := fun j => by rw [hB, yup_ne1 (by omega), yup_ne1 (by omega)]
    by_cases hik : i = k
    · subst hik
      rw [yup_ne2 (by omega), yup_eq, yup_eq]; exact ⟨rfl, rfl⟩
    · rw [yup_ne2 (by omega), yup_ne2 (by omega), yup_ne2 (by omega), yup_ne2 (by omega), hb7, hb7]
      exact h7 i (by omega)
/-- a pair of choices that neither would leave -/
def twO (M : Mt) (a b e f k : Nat) : Bool := decide (tgN M a b e f (k ^^^ 2) ≤ tgN M a b e f k) && decide (tgN M b a e f (k ^^^ 1) ≤ tgN M b a e f k)
theorem twr {k : Nat} (hk : k < 4) : k / 2 < 2 ∧ k % 2 < 2 ∧ k ^^^ 2 < 4 ∧ k ^^^ 1 < 4 ∧ (k ^^^ 2) / 2 = 1 - k / 2 ∧ (k ^^^ 2) % 2 = k % 2 ∧ (k ^^^ 1) / 2 = k / 2 ∧ (k ^^^ 1) % 2 = 1 - k % 2 := (by decide +kernel : ∀ k, k < 4 → k / 2 < 2 ∧ k % 2 < 2 ∧ k ^^^ 2 < 4 ∧ k ^^^ 1 < 4 ∧ (k ^^^ 2) / 2 = 1 - k / 2 ∧ (k ^^^ 2) % 2 = k % 2 ∧ (k ^^^ 1) / 2 = k / 2 ∧ (k ^^^ 1) % 2 = 1 - k % 2) k hk
/-- the pair's answer -/
def twA : Option Nat → Int32
  | none => -nI 4
  | some k => nI (10 * (k / 2) + k % 2)
theorem tw_class (h7 : ∀ i, i < 4 → A 77 i = tgN M a b e f i ∧ A 77 (4 + i) = tgN M b a e f i) : yb_X11_two (ycall 19) (181, [some (.ref 1), none, none, none, none, some (.int (nI 0)), none, none], [], A) = some (some (.int (twA (fst (twO M a b e f) 4))), A) := by
  refine (for_ret (fun k => yb_X11_two (ycall 19) (181, [some (.ref 1), none, none, none, none, some (.int (nI k)), none, none], [], A)) (fun k => some (some (.int (nI (10 * (k / 2) + k % 2))), A)) (twO M a b e f) 4 (fun k hk => ?_)).trans ?_
  · obtain ⟨t1, t2, t3, t4, -, -, -, -⟩ := twr hk
    refine (bk_X11_two_181 ..).trans ?_
    simp (disch := omega) only [↓xR, l_lit, nI_leI, Nat.not_le.mpr hk, ↓reduceIte, nI_xor, r77, nI_add, (h7 _ t3).1, (h7 _ hk).1, (h7 _ t4).2, (h7 _ hk).2, tw_sr hk, tw_an hk, nI_mul]
    unfold twO
    by_cases q1 : tgN M a b e f k < tgN M a b e f (k ^^^ 2)
    · rw [if_pos q1, decide_eq_false (Int32.not_le.mpr q1)]; rfl
    · rw [if_neg q1, decide_eq_true (Int32.not_lt.mp q1)]
      by_cases q2 : tgN M b a e f k < tgN M b a e f (k ^^^ 1)
      · rw [if_pos q2, decide_eq_false (Int32.not_le.mpr q2)]; rfl
      · rw [if_neg q2, decide_eq_true (Int32.not_lt.mp q2)]; rfl
  · cases hf : fst (twO M a b e f) 4 with
    | some i => rfl
    | none =>
      refine (bk_X11_two_181 ..).trans ?_
      simp (disch := omega) only [l_lit, nI_leI, Nat.le_refl, ↓reduceIte]
      rfl
theorem X12_leastError_ok (hn : 2 ≤ n) (hr : Row A 80 M) (hg : Good M) (ha : a < 6) : ycall n 215 [.ref 79, .int (nI a)] A = some (some (.int (ocd (fst (fun e => decide (M 4 e = a)) (M 0 1)))), A) := by
  obtain ⟨n, rfl⟩ := Nat.exists_eq_add_of_le' hn
  have hE := gE hg
  rw [en_X12_leastError]
  refine (for_ret (fun k => yb_X12_leastError (ycall (n + 1)) (2, [some (.ref 79), some (.int (nI a)), some (.int (nI k))], [], A)) (fun k => some (some (.int (nI k)), A)) (fun e => decide (M 4 e = a)) (M 0 1) (fun k hk => ?_)).trans ?_
  · have h1 := gEr hg hk
    have hS := gS hg
    refine (bk_X12_leastError_2 ..).trans ?_
    simp (disch := omega) only [mR, mV, qD hr.1, rS hr, rE hr, rW hr, rKd hr, rFg hr, rIn hr, rBy hr, rTp hr, rSz hr, rCt hr, rCo hr, en_X12_ofS, en_X12_ofE, l_lit, nI_add, nI_mul, yi_b, yv_b, yl_b, if_true, if_false, or_true, true_or, or_false, false_or, and_true, true_and, and_false, false_and, not_true_eq_false, not_false_eq_true, Nat.reduceEqDiff, ↓reduceIte, nI_eq, nI_leI, nI_ltI, Nat.not_le.mpr hk, decide_eq_true_eq]
  · cases fst (fun e => decide (M 4 e = a)) (M 0 1) with
    | some i => rfl
    | none =>
      refine (bk_X12_leastError_2 ..).trans ?_
      simp (disch := omega) only [mR, mV, qD hr.1, rS hr, rE hr, rW hr, rKd hr, rFg hr, rIn hr, rBy hr, rTp hr, rSz hr, rCt hr, rCo hr, en_X12_ofS, en_X12_ofE, l_lit, nI_add, nI_mul, yi_b, yv_b, yl_b, if_true, if_false, or_true, true_or, or_false, false_or, and_true, true_and, and_false, false_and, not_true_eq_false, not_false_eq_true, Nat.reduceEqDiff, ↓reduceIte, nI_eq, nI_leI, nI_ltI, Nat.le_refl]
      rfl
theorem X12_hasBy_ok (hn : 6 ≤ n) (hr : Row A 80 M) (hg : Good M) (ha : a < 6) (hb : b < 6) (hae : fst (fun e => decide (M 4 e = a)) (M 0 1) = some e) (hbf : fst (fun e => decide (M 4 e = b)) (M 0 1) = some f) (hef : e ≠ f) {x y i j : Nat} (hx : x < 6) (hy : y < 6) (hi : i < 2) (hj : j < 2) : ∃ A', ycall n 216 [.ref 79, .int (nI x), .int (nI y), .int (nI a), .int (nI i), .int (nI b), .int (nI j)] A = some (some (.int (nI (marksN (txN M e f (tzN M e i) (tzN M f j)) x) - nI (marksN (txN M e f (tzN M e i) (tzN M f j)) y / 2))), A') ∧ Fq 81 A A' := by
  obtain ⟨n, rfl⟩ := Nat.exists_eq_add_of_le' hn
  have hE := gE hg
  have n20 : (nI 2 = nI 0) = False := eq_false (by decide +kernel)
  have he : e < M 0 1 := (fst_some hae).1
  have hf : f < M 0 1 := (fst_some hbf).1
  have he6 := gEr hg he
  have hf6 := gEr hg hf
  obtain ⟨B, b1, b2, b3⟩ := X12_copies_ok (n := n + 5) (q2 := 81) (by omega) hr hg (by omega) (by omega)
  have hl1 := X12_leastError_ok (n := n + 5) (A := B) (by omega) (Row_eq hr (b3 80 (by omega))) hg ha
  rw [hae] at hl1
  have m5 : ∀ (k : Nat) (B : yM), k < 12 → (yi (ycall (n + 5) 143 [.int (nI k), .int (nI 2)] B)) = (yi (some (some (.int (nI (21 + 5 * k + 2))), B))) := fun k B hk => by
    rw [en_X12_ofE]
    simp (disch := omega) only [l_lit, nI_mul, nI_add]
  -- the first one's
  obtain ⟨B1, c1, c2, c3⟩ : ∃ B1, yb_X12_hasBy (ycall (n + 5)) (34, [some (.ref 79), some (.int (nI x)), some (.int (nI y)), none, none, some (.int (nI b)), some (.int (nI j))], [], B1) = ycall (n + 6) 216 [.ref 79, .int (nI x), .int (nI y), .int (nI a), .int (nI i), .int (nI b), .int (nI j)] A ∧ Row B1 81 (mu M 6 e (tzN M e i)) ∧ Fq 81 A B1 := by
    by_cases h : i = 0
    · subst h
      refine ⟨yup B 81 (21 + 5 * e + 2) (nI (M 6 e / 2)), ?_, ?_, Fq_t b3 Fq_up⟩
      · rw [en_X12_hasBy]
        simp (disch := omega) only [↓mR, b1, yv_b, l_lit, ↓reduceIte, mV, hl1, yi_b, ocd, m5, qD b2.1, rSz b2, n20, qW b2.1, nI_div]
      · exact Row_size b2 hg he
    · have h1 : i = 1 := by omega
      subst h1
      have n10 : (nI 1 = nI 0) = False := eq_false (by decide +kernel)
      refine ⟨B, ?_, ?_, b3⟩
      · rw [en_X12_hasBy]
        simp (disch := omega) only [↓mR, b1, yv_b, l_lit, n10, ↓reduceIte]
      · have : mu M 6 e (tzN M e 1) = M := by
          funext a j
          unfold mu
          by_cases q : a = 6 ∧ j = e
          · rw [if_pos q, q.1, q.2]; rfl
          · rw [if_neg q]
        rw [this]; exact b2
  have hg1 : Good (mu M 6 e (tzN M e i)) := mu6_good hg (tzN_lt hg he)
  have hl2 := X12_leastError_ok (n := n + 5) (A := B1) (by omega) (Row_eq hr (c3 80 (by omega))) hg hb
  rw [hbf] at hl2
  obtain ⟨B2, d1, d2, d3⟩ : ∃ B2, yb_X12_hasBy (ycall (n + 5)) (58, [some (.ref 79), some (.int (nI x)), some (.int (nI y)), none, none, none, none], [], B2) = yb_X12_hasBy (ycall (n + 5)) (34, [some (.ref 79), some (.int (nI x)), some (.int (nI y)), none, none, some (.int (nI b)), some (.int (nI j))], [], B1) ∧ Row B2 81 (txN M e f (tzN M e i) (tzN M f j)) ∧ Fq 81 A B2 := by
    have hf1 : f < mu M 6 e (tzN M e i) 0 1 := hf
    have e6 : mu M 6 e (tzN M e i) 6 f = M 6 f := mu_ne2 (Ne.symm hef)
    by_cases h : j = 0
    · subst h
      refine ⟨yup B1 81 (21 + 5 * f + 2) (nI (M 6 f / 2)), ?_, ?_, Fq_t c3 Fq_up⟩
      · refine Eq.symm ((bk_X12_hasBy_34 ..).trans ?_)
        simp (disch := omega) only [↓mR, l_lit, ↓reduceIte, mV, hl2, yi_b, ocd, m5, qD c2.1, rSz c2 hf1, e6, n20, qW c2.1, nI_div]
      · exact Row_size c2 hg1 hf1
    · have h1 : j = 1 := by omega
      subst h1
      have n10 : (nI 1 = nI 0) = False := eq_false (by decide +kernel)
      refine ⟨B1, ?_, ?_, c3⟩
      · refine Eq.symm ((bk_X12_hasBy_34 ..).trans ?_)
        simp (disch := omega) only [l_lit, n10, ↓reduceIte]
      · have : txN M e f (tzN M e i) (tzN M f 1) = mu M 6 e (tzN M e i) := by
          funext a j
          unfold txN
          show mu _ 6 f (M 6 f) a j = _
          rw [← e6]
          unfold mu
          by_cases q : a = 6 ∧ j = f
          · rw [if_pos q, q.1, q.2]
          · rw [if_neg q]
        rw [this]; exact c2
  have hg2 := txN_good hg (e := e) (f := f) (tzN_lt hg he (i := i)) (tzN_lt hg hf (i := j))
  have m1 := marksN_le hg2 y
  refine ⟨B2, ?_, d3⟩
  rw [← c1, ← d1]
  refine (bk_X12_hasBy_58 ..).trans ?_
  simp (disch := omega) only [↓mR, l_lit, X12_marksOf_ok _ d2 hg2, yi_b, n20, ↓reduceIte, nI_div]
theorem tw_ref (hg : Good M) (ha : a < 6) (hb : b < 6) (hae : fst (fun e => decide (M 4 e = a)) (M 0 1) = some e) (hbf : fst (fun e => decide (M 4 e = b)) (M 0 1) = some f) (hef : e ≠ f) : ∀ (j k : Nat) (A : yM), k + j = 4 → Row A 80 M → ∃ A', yb_X12_two (ycall 19) (66, [some (.ref 79), some (.int (nI a)), some (.int (nI b)), some (.int (nI k)), none, none], [], A) = some (some (.int (twA (ff (twO M a b e f) k j))), A') ∧ Sc A A' := by
  intro j
  induction j with
  | zero =>
    intro k A hk hr
    refine ⟨A, ?_, Sc_r A⟩
    refine (bk_X12_two_66 ..).trans ?_
    simp (disch := omega) only [l_lit, nI_leI, show 4 ≤ k by omega, ↓reduceIte]
    rfl
  | succ j ih =>
    intro k A hk hr
    have hk4 : k < 4 := by omega
    obtain ⟨t1, t2, t3, t4, t5, t6, t7, t8⟩ := twr hk4
    have n20 : (nI 2 = nI 0) = False := eq_false (by decide +kernel)
    have hkm : k - k / 2 * 2 = k % 2 := by omega
    obtain ⟨A1, a1, a2⟩ := X12_hasBy_ok (n := 19) (A := A) (by omega) hr hg ha hb hae hbf hef ha hb (show 1 - k / 2 < 2 by omega) t2
    have hr1 := Row_Sc hr (Sc_Fq (Or.inl rfl) a2)
    obtain ⟨A2, b1, b2⟩ := X12_hasBy_ok (n := 19) (A := A1) (by omega) hr1 hg ha hb hae hbf hef ha hb t1 t2
    have hr2 := Row_Sc hr1 (Sc_Fq (Or.inl rfl) b2)
    obtain ⟨A3, c1, c2⟩ := X12_hasBy_ok (n := 19) (A := A2) (by omega) hr2 hg ha hb hae hbf hef hb ha t1 (show 1 - k % 2 < 2 by omega)
    have hr3 := Row_Sc hr2 (Sc_Fq (Or.inl rfl) c2)
    obtain ⟨A4, d1, d2⟩ := X12_hasBy_ok (n := 19) (A := A3) (by omega) hr3 hg ha hb hae hbf hef hb ha t1 t2
    have hr4 := Row_Sc hr3 (Sc_Fq (Or.inl rfl) d2)
    have s2 : Sc A A2 := Sc_t (Sc_Fq (Or.inl rfl) a2) (Sc_Fq (Or.inl rfl) b2)
    have s4 : Sc A A4 := Sc_t s2 (Sc_t (Sc_Fq (Or.inl rfl) c2) (Sc_Fq (Or.inl rfl) d2))
    have g1 : nI (marksN (txN M e f (tzN M e (1 - k / 2)) (tzN M f (k % 2))) a) - nI (marksN (txN M e f (tzN M e (1 - k / 2)) (tzN M f (k % 2))) b / 2) = tgN M a b e f (k ^^^ 2) := by unfold tgN twN; rw [t5, t6]
    have g2 : nI (marksN (txN M e f (tzN M e (k / 2)) (tzN M f (k % 2))) a) - nI (marksN (txN M e f (tzN M e (k / 2)) (tzN M f (k % 2))) b / 2) = tgN M a b e f k := rfl
    have g3 : nI (marksN (txN M e f (tzN M e (k / 2)) (tzN M f (1 - k % 2))) b) - nI (marksN (txN M e f (tzN M e (k / 2)) (tzN M f (1 - k % 2))) a / 2) = tgN M b a e f (k ^^^ 1) := by unfold tgN twN; rw [t7, t8]
    have g4 : nI (marksN (txN M e f (tzN M e (k / 2)) (tzN M f (k % 2))) b) - nI (marksN (txN M e f (tzN M e (k / 2)) (tzN M f (k % 2))) a / 2) = tgN M b a e f k := rfl
    rw [g1] at a1
    rw [g2] at b1
    rw [g3] at c1
    rw [g4] at d1
    have hff : ff (twO M a b e f) k (j + 1) = if twO M a b e f k = true then some k else ff (twO M a b e f) (k + 1) j := rfl
    by_cases q1 : tgN M a b e f k < tgN M a b e f (k ^^^ 2)
    · obtain ⟨A', e1, e2⟩ := ih (k + 1) A2 (by omega) hr2
      have hF : ¬ twO M a b e f k = true := by unfold twO; rw [decide_eq_false (Int32.not_le.mpr q1)]; simp
      refine ⟨A', ?_, Sc_t s2 e2⟩
      rw [hff, if_neg hF]
      refine (bk_X12_two_66 ..).trans ?_
      simp (disch := omega) only [l_lit, nI_leI, Nat.not_le.mpr hk4, n20, ↓reduceIte, nI_div, nI_mul, nI_sub, hkm, mV, a1, b1, yi_b, q1, nI_add]
      exact e1
    · by_cases q2 : tgN M b a e f k < tgN M b a e f (k ^^^ 1)
      · obtain ⟨A', e1, e2⟩ := ih (k + 1) A4 (by omega) hr4
        have hF : ¬ twO M a b e f k = true := by unfold twO; rw [decide_eq_false (Int32.not_le.mpr q2)]; simp
        refine ⟨A', ?_, Sc_t s4 e2⟩
        rw [hff, if_neg hF]
        refine (bk_X12_two_66 ..).trans ?_
        simp (disch := omega) only [l_lit, nI_leI, Nat.not_le.mpr hk4, n20, ↓reduceIte, nI_div, nI_mul, nI_sub, hkm, mV, a1, b1, c1, d1, yi_b, q1, q2, nI_add]
        exact e1
      · have hF : twO M a b e f k = true := by unfold twO; rw [decide_eq_true (Int32.not_lt.mp q1), decide_eq_true (Int32.not_lt.mp q2)]; rfl
        refine ⟨A4, ?_, s4⟩
        rw [hff, if_pos hF]
        refine (bk_X12_two_66 ..).trans ?_
        simp (disch := omega) only [l_lit, nI_leI, Nat.not_le.mpr hk4, n20, ↓reduceIte, nI_div, nI_mul, nI_sub, hkm, mV, a1, b1, c1, d1, yi_b, q1, q2, nI_add]
        rfl
theorem api_two (hi : InvX A M I hI T c g) (s o : Int32) : Api 116 217 [.int s, .int o] A g := by
  have hc := iC hi
  have hg := iG hi
  have hS := gS hg
  have hE := gE hg
  by_cases htw : (okI s (M 0 0) && okI o (M 0 0) && decide (s ≠ o)) = true
  · have h0 := htw
    simp only [Bool.and_eq_true, decide_eq_true_eq] at h0
    obtain ⟨⟨ys, yo⟩, hne⟩ := h0
    obtain ⟨s, hs, rfl⟩ := okI_of (by omega) ys
    obtain ⟨o, ho, rfl⟩ := okI_of (by omega) yo
    have hne2 : (nI s = nI o) = False := eq_false hne
    have hne3 : s ≠ o := fun z => hne (by rw [z])
    have n10 : (nI 1 = nI 0) = False := eq_false (by decide +kernel)
    have h2 := gP hg hs
    have h4 := gP hg ho
    obtain ⟨le1, hle1⟩ : ∃ x, x = fst (fun e => decide (M 4 e = s)) (M 0 1) := ⟨_, rfl⟩
    obtain ⟨le2, hle2⟩ : ∃ x, x = fst (fun e => decide (M 4 e = o)) (M 0 1) := ⟨_, rfl⟩
    have la : ∀ A', Col A' 2 M → ycall 19 24 [.ref 2, .int (nI s)] A' = some (some (.int (ocd le1)), A') := fun A' hc => by rw [X0_leastErrorOf_ok (by omega) hc hg (by omega), ← hle1]
    have lb : ∀ A', Col A' 2 M → ycall 19 24 [.ref 2, .int (nI o)] A' = some (some (.int (ocd le2)), A') := fun A' hc => by rw [X0_leastErrorOf_ok (by omega) hc hg (by omega), ← hle2]
    have ka : ∀ A', Row A' 80 M → ycall 19 215 [.ref 79, .int (nI s)] A' = some (some (.int (ocd le1)), A') := fun A' hr => by rw [X12_leastError_ok (by omega) hr hg (by omega), ← hle1]
    have kb : ∀ A', Row A' 80 M → ycall 19 215 [.ref 79, .int (nI o)] A' = some (some (.int (ocd le2)), A') := fun A' hr => by rw [X12_leastError_ok (by omega) hr hg (by omega), ← hle2]
    have hpos : ∀ e : Nat, e < 100 → ((nI e < nI 0) = False) ∧ ((nI 0 ≤ nI e) = True) := fun e he => ⟨eq_false (nI_pos (by omega)), eq_true (nI_le (Nat.zero_le _) (by omega))⟩
    have n4a : (-nI 4 < nI 0) = True := eq_true (by decide +kernel)
    have n4b : (nI 0 ≤ -nI 4) = False := eq_false (by decide +kernel)
    by_cases hno : M 3 s = 0 ∨ M 3 o = 0 ∨ le1 = none ∨ le2 = none
    · refine api_read hi (.int (-nI 3)) ⟨A, ?_, Sc_r A⟩ (fun A1 hi => ⟨A1, ?_, Sc_r A1⟩)
      · rw [en_X11_two]
        simp (disch := omega) only [xV, X11_areTwo_ok _ hc, htw, bI_t, yi_b, l_lit, n10, ↓reduceIte, ↓xR, cV hc.1, la _ hc, lb _ hc, X0_isIn_ok _ hc hg hs, X0_isIn_ok _ hc hg ho]
        by_cases q1 : M 3 s = 0
        · rw [if_pos (by rw [q1])]
        · rw [if_neg (fun z => q1 ((nI_eq (by omega) (by omega)).mp z))]
          by_cases q2 : M 3 o = 0
          · rw [if_pos (by rw [q2])]
          · rw [if_neg (fun z => q2 ((nI_eq (by omega) (by omega)).mp z))]
            cases le1 with
            | none => exact if_pos (by decide +kernel)
            | some e =>
              have he := (fst_some hle1.symm).1
              have : le2 = none := by
                rcases hno with h | h | h | h
                · exact absurd h q1
                · exact absurd h q2
                · cases h
                · exact h
              subst this
              simp (disch := omega) only [ocd, l_lit, hpos, n4b, ↓reduceIte]
      · have hr := iR hi
        rw [en_X12_two]
        simp (disch := omega) only [mV, X12_isStudent_ok _ hr hg, ys, yo, bI_t, yi_b, l_lit, n10, hne2, ↓reduceIte, ↓mR, X12_isThere_ok _ hr hg hs, X12_isThere_ok _ hr hg ho, ka _ hr, kb _ hr]
        by_cases q1 : M 3 s = 0
        · rw [if_pos (by rw [q1])]
        · rw [if_neg (fun z => q1 ((nI_eq (by omega) (by omega)).mp z))]
          by_cases q2 : M 3 o = 0
          · rw [if_pos (by rw [q2])]
          · rw [if_neg (fun z => q2 ((nI_eq (by omega) (by omega)).mp z))]
            cases le1 with
            | none => exact if_pos (by decide +kernel)
            | some e =>
              have he := (fst_some hle1.symm).1
              have : le2 = none := by
                rcases hno with h | h | h | h
                · exact absurd h q1
                · exact absurd h q2
                · cases h
                · exact h
              subst this
              simp (disch := omega) only [ocd, l_lit, hpos, n4b, ↓reduceIte]
    · have q1 : M 3 s = 1 := by
        have : ¬ M 3 s = 0 := fun z => hno (Or.inl z)
        omega
      have q2 : M 3 o = 1 := by
        have : ¬ M 3 o = 0 := fun z => hno (Or.inr (Or.inl z))
        omega
      cases hle1' : le1 with
      | none => exact absurd (Or.inr (Or.inr (Or.inl hle1'))) hno
      | some e =>
      cases hle2' : le2 with
      | none => exact absurd (Or.inr (Or.inr (Or.inr hle2'))) hno
      | some f =>
      rw [hle1'] at hle1 la ka
      rw [hle2'] at hle2 lb kb
      have he := (fst_some hle1.symm)
      have hf := (fst_some hle2.symm)
      have hef : e ≠ f := fun z => by
        have h5 := he.2
        have h6 := hf.2
        subst z
        simp only [decide_eq_true_eq] at h5 h6
        exact hne3 (h5.symm.trans h6)
      refine api_read hi (.int (twA (fst (twO M s o e f) 4))) ?_ (fun A1 hi => ?_)
      · obtain ⟨A1, a1, a2, a3⟩ := X0_become_ok (n := 19) (by omega) hc isB21 (by omega) hg
        have hP0 : TwP A M s o e f 0 A1 := ⟨Sc_Fr a3, Col_Fr hc isB21 (by omega) a3, ⟨M 6 e, M 6 f, (gEr hg he.1).2.2.1, (gEr hg hf.1).2.2.1, by rw [tx_0 hef]; exact a2⟩, fun i hi => by omega⟩
        obtain ⟨A2, b1, b2⟩ := for_ex (fun k A => yb_X11_two (ycall 19) (78, [some (.ref 1), some (.int (nI s)), some (.int (nI o)), some (.int (nI e)), some (.int (nI f)), some (.int (nI k)), none, none], [], A)) (fun k A' => TwP A M s o e f k A') 4 A1 (fun k A' hk h => tw_step hg (by omega) (by omega) he.1 hf.1 hef hk h) hP0
        refine ⟨A2, ?_, b2.1⟩
        rw [← tw_class b2.2.2.2, en_X11_two]
        simp (disch := omega) only [xV, X11_areTwo_ok _ hc, htw, bI_t, yi_b, yv_b, l_lit, n10, ↓reduceIte, ↓xR, cV hc.1, la _ hc, lb _ hc, X0_isIn_ok _ hc hg hs, X0_isIn_ok _ hc hg ho, q1, q2, ocd, hpos, cV isB21, a1]
        refine b1.trans ((bk_X11_two_78 ..).trans ?_)
        simp (disch := omega) only [l_lit, nI_leI, Nat.le_refl, ↓reduceIte]
      · have hr := iR hi
        obtain ⟨A2, a1, a2⟩ := tw_ref hg (by omega) (by omega) hle1.symm hle2.symm hef 4 0 A1 (by omega) hr
        refine ⟨A2, ?_, a2⟩
        rw [en_X12_two]
        simp (disch := omega) only [mV, X12_isStudent_ok _ hr hg, ys, yo, bI_t, yi_b, l_lit, n10, hne2, ↓reduceIte, ↓mR, X12_isThere_ok _ hr hg hs, X12_isThere_ok _ hr hg ho, ka _ hr, kb _ hr, q1, q2, ocd, hpos]
        exact a1
  · have htw : (okI s (M 0 0) && okI o (M 0 0) && decide (s ≠ o)) = false := by simpa using htw
    refine api_read hi (.int (-1)) ⟨_, ?_, Sc_r A⟩ (fun A1 hi => ⟨_, ?_, Sc_r A1⟩)
    · rw [en_X11_two, xV, X11_areTwo_ok (by omega) hc, htw, bI_f, yi_b]
      exact if_pos rfl
    · have hr := iR hi
      rcases two_no htw with h | ⟨h, h2⟩ | ⟨h, h2, rfl⟩
      · rw [en_X12_two, mV, X12_isStudent_ok (by omega) hr hg, h, bI_f, yi_b]
        exact if_pos rfl
      · simp (disch := omega) only [en_X12_two, mV, X12_isStudent_ok _ hr hg, h, h2, bI_t, bI_f, yi_b, l_lit, nI_eq (a := 1), Nat.one_ne_zero, if_true, if_false]
      · simp (disch := omega) only [en_X12_two, mV, X12_isStudent_ok _ hr hg, h, bI_t, yi_b, l_lit, nI_eq (a := 1), Nat.one_ne_zero, if_true, if_false]
end B10
