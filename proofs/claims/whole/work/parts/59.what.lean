section B10
variable {A : yM} {M I : Mt} {hI : Nat} {T : Nat → Nat → Nat} {c : Nat → Nat → Int32} {g : Nat} {n d q b e : Nat}
theorem X0_ripe_ok (hn : 2 ≤ n) (hc : Col A b M) (hg : Good M) (he : e < M 0 1) : ycall n 11 [.ref b, .int (nI e)] A = some (some (.int (bI (decide (M 8 e = 0 ∧ M 3 (M 4 e) = 1)))), A) := by
  obtain ⟨n, rfl⟩ := Nat.exists_eq_add_of_le' hn
  have hS := gS hg
  have hE := gE hg
  have h1 := gEr hg he
  have h2 := gP hg h1.1
  have h8 : M 8 e = 0 ∨ M 8 e = 1 := by omega
  have h3 : M 3 (M 4 e) = 0 ∨ M 3 (M 4 e) = 1 := by omega
  simp (disch := omega) only [en_X0_ripensAtAll, cV hc.1, X0_isCorrected_ok _ hc hg he, yi_b, cR hc.1, cD12 hc.1, cBy hc, X0_isIn_ok _ hc hg h1.1, l_lit, or_true, true_or, ↓reduceIte]
  rcases h8 with h8 | h8
  · rcases h3 with h3 | h3
    · simp [h8, h3, bI]
    · simp (disch := omega) only [h8, h3, nI_eq, Nat.one_ne_zero, ↓reduceIte, and_self, decide_true, bI_t]
  · simp (disch := omega) only [h8, nI_eq, Nat.one_ne_zero, ↓reduceIte, false_and, decide_false, bI_f]
def gsN (M : Mt) (f : Nat → Int32) (s kk ff e i : Nat) : Bool := decide (f i = lsI s) || decide (f i = nI (gzN M kk ff e i))
theorem gw_size (hn : 4 ≤ n) (hc : Col A 2 M) (hg : Good M) (hw : M 0 2 ≤ 999) (ht : Shf A T c) (hd : d < 8) (h2 : T d 0 = 2) (he : e < M 0 1) {kk ff : Nat} (hk : kk < 8) (hf : ff < 10) {j : Nat} (hj : j < T d 4) : yb_X11_grewSo (ycall n) (24, [some (.ref 1), some (.ref (60 + 2 * d)), none, some (.int (nI kk)), some (.int (nI ff)), some (.int (bI (decide (M 8 e = 0 ∧ M 3 (M 4 e) = 1)))), some (.int (nI (gzN M kk ff e (j - 1)))), some (.int (nI j))], [], A) = yb_X11_grewSo (ycall n) (77, [some (.ref 1), some (.ref (60 + 2 * d)), none, some (.int (nI kk)), some (.int (nI ff)), some (.int (bI (decide (M 8 e = 0 ∧ M 3 (M 4 e) = 1)))), some (.int (nI (gzN M kk ff e j))), some (.int (nI j))], [], A) := by
  obtain ⟨l1, l2, l3, l4, l5, l6⟩ := sh_len ht hd h2
  refine (bk_X11_grewSo_24 ..).trans ?_
  simp (disch := omega) only [↓sh_I hd, l2, l_lit, nI_leI, Nat.not_le.mpr hj, ↓reduceIte]
  cases j with
  | zero => simp (disch := omega) only [nI_leI, Nat.le_refl, ↓reduceIte, Nat.zero_sub]
  | succ m =>
    have h1 := gEr hg he
    have hgz := gzN_lt (kk := kk) (ff := ff) h1.2.2.1 m
    have hm : m + 1 - 1 = m := by omega
    rw [hm]
    by_cases hr : M 8 e = 0 ∧ M 3 (M 4 e) = 1
    · have e1 : gzN M kk ff e (m + 1) = min 99 (gzN M kk ff e m + ripN kk ff (M 0 2 + (m + 1))) := if_pos hr
      have hrp : ripN kk ff (M 0 2 + (m + 1)) ≤ 10 := by unfold ripN; split <;> omega
      have hcl : ycl A (2 + 2 + kk) = some (kcl kk) := ycl_k hc.1 hk
      rw [decide_eq_true hr, e1]
      simp (disch := omega) only [nI_leI, show ¬ m + 1 ≤ 0 by omega, bI_t, nI_eq, Nat.one_ne_zero, ↓reduceIte, ↓xR, cR hc.1, cK hc.1, ↓cgI hc.1, cWk hc, nI_add, kv_ripens _ hcl hk hf, yi_b, nI_ltI]
      congr 1
      by_cases hq : gzN M kk ff e m + ripN kk ff (M 0 2 + (m + 1)) < 99
      · rw [if_pos hq, Nat.min_eq_right (by omega)]
      · rw [if_neg hq, Nat.min_eq_left (by omega)]
    · have e1 : gzN M kk ff e (m + 1) = gzN M kk ff e m := if_neg hr
      rw [decide_eq_false hr, e1]
      simp (disch := omega) only [nI_leI, show ¬ m + 1 ≤ 0 by omega, bI_f, ↓reduceIte]
theorem X11_grewSo_ok (hn : 5 ≤ n) (hc : Col A 2 M) (hg : Good M) (hw : M 0 2 ≤ 999) (ht : Shf A T c) (hd : d < 8) (h2 : T d 0 = 2) (he : e < M 0 1) {kk ff : Nat} (hk : kk < 8) (hf : ff < 10) : ycall n 115 [.ref 1, .ref (60 + 2 * d), .int (nI e), .int (nI kk), .int (nI ff)] A = some (some (.int (bI (alB (gsN M (c d) (T d 3) kk ff e) (T d 4)))), A) := by
  obtain ⟨n, rfl⟩ := Nat.exists_eq_add_of_le' hn
  obtain ⟨l1, l2, l3, l4, l5, l6⟩ := sh_len ht hd h2
  have hE := gE hg
  have h1 := gEr hg he
  rw [en_X11_grewSo]
  simp (disch := omega) only [↓xR, cV hc.1, X0_ripe_ok _ hc hg he, yi_b, cR hc.1, cD12 hc.1, cSz hc, l_lit]
  refine (for_ret (fun j => yb_X11_grewSo (ycall (n + 4)) (24, [some (.ref 1), some (.ref (60 + 2 * d)), none, some (.int (nI kk)), some (.int (nI ff)), some (.int (bI (decide (M 8 e = 0 ∧ M 3 (M 4 e) = 1)))), some (.int (nI (gzN M kk ff e (j - 1)))), some (.int (nI j))], [], A)) (fun _ => some (some (.int (nI 0)), A)) (fun i => !gsN M (c d) (T d 3) kk ff e i) (T d 4) (fun j hj => ?_)).trans ?_
  · have hgz := gzN_lt (kk := kk) (ff := ff) h1.2.2.1 j
    have e1 := (sh_el ht hd h2 hj).1
    have hsk := X7_isSkipped_ok (n := n + 4) (by omega) ht hd h2 hj
    refine (gw_size (by omega) hc hg hw ht hd h2 he hk hf hj).trans ?_
    refine (bk_X11_grewSo_77 ..).trans ?_
    have hm : j + 1 - 1 = j := by omega
    unfold gsN
    rw [hm]
    by_cases hs : c d j = lsI (T d 3)
    · simp (disch := omega) only [sh_v hd, hsk, yi_b, decide_eq_true hs, bI_t, l_lit, nI_eq, nI_add, Nat.one_ne_zero, ↓reduceIte, Bool.true_or, Bool.not_true, Bool.false_eq_true]
    · by_cases hq : c d j = nI (gzN M kk ff e j)
      · simp (disch := omega) only [sh_v hd, hsk, yi_b, decide_eq_false hs, bI_f, l_lit, ↓reduceIte, ↓sh_R hd, ↓sh_rd hd, e1, decide_eq_true hq, Bool.or_true, Bool.not_true, Bool.false_eq_true, nI_add]
        exact if_pos hq
      · simp (disch := omega) only [sh_v hd, hsk, yi_b, decide_eq_false hs, bI_f, l_lit, ↓reduceIte, ↓sh_R hd, ↓sh_rd hd, e1, decide_eq_false hq, Bool.or_false, Bool.not_false, true_or]
        exact if_neg hq
  · have ha := alB_fst (P := gsN M (c d) (T d 3) kk ff e) (n := T d 4)
    cases hf : fst (fun i => !gsN M (c d) (T d 3) kk ff e i) (T d 4) with
    | some i =>
      rw [hf] at ha
      rw [← ha]
      rfl
    | none =>
      rw [hf] at ha
      rw [← ha]
      refine (bk_X11_grewSo_24 ..).trans ?_
      simp (disch := omega) only [↓sh_I hd, l2, l_lit, nI_leI, Nat.le_refl, or_true, ↓reduceIte]
      rfl
theorem b_grew (hc : Col A 2 M) (hg : Good M) (hw : M 0 2 ≤ 999) (ht : Shf A T c) (hd : d < 8) (h2 : T d 0 = 2) (he : e < M 0 1) {kk ff : Nat} (hk : kk < 8) (hf : ff < 10) (hn : 5 ≤ n) (F : Int32 × yM → Option yR) : (yi (yvt [(10, 115)] (ycall n) [.ref 1, .ref (60 + 2 * d), .int (nI e), .int (nI kk), .int (nI ff)] A)).bind F = F (bI (alB (gsN M (c d) (T d 3) kk ff e) (T d 4)), A) := by
  rw [xV, X11_grewSo_ok hn hc hg hw ht hd h2 he hk hf]
  rfl
def b2n (b : Bool) : Nat := if b = true then 1 else 0
theorem b2n_lt (b : Bool) : b2n b < 2 := by cases b <;> decide
theorem bts_b {G : Nat → Bool} {k : Nat} (hk : k < 31) (h : G k = true) : nI (bts (fun k => b2n (G k)) k) ||| (nI 1 <<< (nI k &&& nI 31)) = nI (bts (fun k => b2n (G k)) (k + 1)) := by
  have := bts_step (f := fun k => b2n (G k)) hk (fun j _ => b2n_lt _)
  rw [← this]
  have e : b2n (G k) = 1 := by unfold b2n; rw [if_pos h]
  rw [e]
theorem bts_b0 {G : Nat → Bool} {k : Nat} (h : ¬ G k = true) : bts (fun k => b2n (G k)) (k + 1) = bts (fun k => b2n (G k)) k := by
  show bts (fun k => b2n (G k)) k + b2n (G k) * 2 ^ k = _
  have e : b2n (G k) = 0 := by unfold b2n; rw [if_neg h]
  rw [e, Nat.zero_mul, Nat.add_zero]
/-- KINDS by which all of it is so; FIGURES -/
def wkG (M : Mt) (f : Nat → Int32) (s l e k : Nat) : Bool := alB (gsN M f s k (M 2 (M 4 e)) e) l
def wfG (M : Mt) (f : Nat → Int32) (s l e k : Nat) : Bool := alB (gsN M f s (M 1 (M 4 e)) k e) l
theorem X11_kinds_ok (hn : 6 ≤ n) (hc : Col A 2 M) (hg : Good M) (hw : M 0 2 ≤ 999) (ht : Shf A T c) (hd : d < 8) (h2 : T d 0 = 2) (he : e < M 0 1) : ycall n 113 [.ref 1, .ref (60 + 2 * d), .int (nI e)] A = some (some (.int (nI (bts (fun k => b2n (wkG M (c d) (T d 3) (T d 4) e k)) 8))), A) := by
  obtain ⟨n, rfl⟩ := Nat.exists_eq_add_of_le' hn
  have hE := gE hg
  have hS := gS hg
  have h1 := gEr hg he
  have h3 := gP hg h1.1
  simp (disch := omega) only [en_X11_kindsThatGrewSo, ↓xR, cR hc.1, cD12 hc.1, cD6 hc.1, cBy hc, cFg hc, l_lit]
  refine (for_up (fun k => yb_X11_kindsThatGrewSo (ycall (n + 5)) (24, [some (.ref 1), some (.ref (60 + 2 * d)), some (.int (nI e)), some (.int (nI (M 2 (M 4 e)))), some (.int (nI (bts (fun k => b2n (wkG M (c d) (T d 3) (T d 4) e k)) k))), some (.int (nI k))], [], A)) 8 (fun k hk => ?_)).trans ?_
  · refine (bk_X11_kindsThatGrewSo_24 ..).trans ?_
    rw [b_grew hc hg hw ht hd h2 he hk h3.2.1 (by omega)]
    simp (disch := omega) only [l_lit, nI_leI, Nat.not_le.mpr hk, ↓reduceIte]
    by_cases hG : wkG M (c d) (T d 3) (T d 4) e k = true
    · have hG2 : alB (gsN M (c d) (T d 3) k (M 2 (M 4 e)) e) (T d 4) = true := hG
      rw [hG2]
      simp (disch := omega) only [bI_t, nI_eq, Nat.one_ne_zero, ↓reduceIte, nI_add, bts_b (G := fun k => wkG M (c d) (T d 3) (T d 4) e k) _ hG]
    · have hG2 : alB (gsN M (c d) (T d 3) k (M 2 (M 4 e)) e) (T d 4) = false := by simpa [wkG] using hG
      rw [hG2]
      simp (disch := omega) only [bI_f, ↓reduceIte, nI_add, bts_b0 (G := fun k => wkG M (c d) (T d 3) (T d 4) e k) hG]
  · refine (bk_X11_kindsThatGrewSo_24 ..).trans ?_
    simp (disch := omega) only [l_lit, nI_leI, Nat.le_refl, ↓reduceIte]
theorem X11_figures_ok (hn : 6 ≤ n) (hc : Col A 2 M) (hg : Good M) (hw : M 0 2 ≤ 999) (ht : Shf A T c) (hd : d < 8) (h2 : T d 0 = 2) (he : e < M 0 1) : ycall n 114 [.ref 1, .ref (60 + 2 * d), .int (nI e)] A = some (some (.int (nI (bts (fun k => b2n (wfG M (c d) (T d 3) (T d 4) e k)) 10))), A) := by
  obtain ⟨n, rfl⟩ := Nat.exists_eq_add_of_le' hn
  have hE := gE hg
  have hS := gS hg
  have h1 := gEr hg he
  have h3 := gP hg h1.1
  simp (disch := omega) only [en_X11_figuresThatGrewSo, ↓xR, cR hc.1, cD12 hc.1, cD6 hc.1, cBy hc, cKd hc, l_lit]
  refine (for_up (fun k => yb_X11_figuresThatGrewSo (ycall (n + 5)) (24, [some (.ref 1), some (.ref (60 + 2 * d)), some (.int (nI e)), some (.int (nI (M 1 (M 4 e)))), some (.int (nI (bts (fun k => b2n (wfG M (c d) (T d 3) (T d 4) e k)) k))), some (.int (nI k))], [], A)) 10 (fun k hk => ?_)).trans ?_
  · refine (bk_X11_figuresThatGrewSo_24 ..).trans ?_
    rw [b_grew hc hg hw ht hd h2 he h3.1 hk (by omega)]
    simp (disch := omega) only [l_lit, nI_leI, Nat.not_le.mpr hk, ↓reduceIte]
    by_cases hG : wfG M (c d) (T d 3) (T d 4) e k = true
    · have hG2 : alB (gsN M (c d) (T d 3) (M 1 (M 4 e)) k e) (T d 4) = true := hG
      rw [hG2]
      simp (disch := omega) only [bI_t, nI_eq, Nat.one_ne_zero, ↓reduceIte, nI_add, bts_b (G := fun k => wfG M (c d) (T d 3) (T d 4) e k) _ hG]
    · have hG2 : alB (gsN M (c d) (T d 3) (M 1 (M 4 e)) k e) (T d 4) = false := by simpa [wfG] using hG
      rw [hG2]
      simp (disch := omega) only [bI_f, ↓reduceIte, nI_add, bts_b0 (G := fun k => wfG M (c d) (T d 3) (T d 4) e k) hG]
  · refine (bk_X11_figuresThatGrewSo_24 ..).trans ?_
    simp (disch := omega) only [l_lit, nI_leI, Nat.le_refl, ↓reduceIte]
/-! the reference's -/
theorem Row_sl (hr : Row A q M) (hg : Good M) {s t v : Nat} (hs : s < M 0 0) (ht : t < 3) : Row (yup A q (3 + 3 * s + t) (nI v)) q (mu M (1 + t) s v) := by
  have hS := gS hg
  have hE := gE hg
  refine ⟨hr.1, ?_, ?_, ?_, fun p hp => ?_, fun e he => ?_⟩
  · simp (disch := omega) only [yup_ne2, mu_ne, rS hr]
  · simp (disch := omega) only [yup_ne2, mu_ne, rE hr]
  · simp (disch := omega) only [yup_ne2, mu_ne, rW hr]
  · simp (disch := omega) only [mu_ne] at hp
    have h := hr.2.2.2.2.1 p hp
    have ht3 : t = 0 ∨ t = 1 ∨ t = 2 := by omega
    by_cases h2 : p = s
    · subst h2
      rcases ht3 with rfl | rfl | rfl
      · exact ⟨by rw [mu_eq]; exact yup_eq, by simp (disch := omega) only [yup_ne2, mu_ne]; exact h.2.1, by simp (disch := omega) only [yup_ne2, mu_ne]; exact h.2.2⟩
      · exact ⟨by simp (disch := omega) only [yup_ne2, mu_ne]; exact h.1, by rw [mu_eq]; exact yup_eq, by simp (disch := omega) only [yup_ne2, mu_ne]; exact h.2.2⟩
      · exact ⟨by simp (disch := omega) only [yup_ne2, mu_ne]; exact h.1, by simp (disch := omega) only [yup_ne2, mu_ne]; exact h.2.1, by rw [mu_eq]; exact yup_eq⟩
    · have hm : ∀ a, mu M (1 + t) s v a p = M a p := fun a => by unfold mu; rw [if_neg (fun z => h2 z.2)]
      rw [hm 1, hm 2, hm 3, yup_ne2 (by omega), yup_ne2 (by omega), yup_ne2 (by omega)]
      exact h
  · simp (disch := omega) only [mu_ne] at he
    have := hr.2.2.2.2.2 e he
    simp (disch := omega) only [yup_ne2, mu_ne]
    exact this
theorem wi_in (hg : Good M) (hw : M 0 2 ≤ 999) (hd : d < 8) (h2 : T d 0 = 2) (he : e < M 0 1) {M' : Mt} (hg' : Good M') (h0 : M' 0 = M 0) (h3 : M' 3 = M 3) (h4 : M' 4 = M 4) (h6 : M' 6 = M 6) (h8 : M' 8 = M 8) {kk ff : Nat} (hk : M' 1 (M 4 e) = kk) (hf : M' 2 (M 4 e) = ff) {w : Int32} {B k : Nat} (hB : B < 2 ^ k) (hk31 : k < 30) : ∀ (j i : Nat) (A : yM), i + j = T d 4 → Shf A T c → Row A 81 (wsN M' i) → ∃ A', yb_X12_whatIs (ycall 19) (95, [some (.ref 79), some (.int (nI d)), some (.int (nI e)), some (.int w), none, some (.int (nI B)), some (.int (nI k)), some (.int (bI (alB (gsN M (c d) (T d 3) kk ff e) i))), some (.int (nI i)), none], [], A) = yb_X12_whatIs (ycall 19) (41, [some (.ref 79), some (.int (nI d)), some (.int (nI e)), some (.int w), none, some (.int (nI (B + b2n (alB (gsN M (c d) (T d 3) kk ff e) (T d 4)) * 2 ^ k))), some (.int (nI (k + 1))), none, none, none], [], A') ∧ Fq 81 A A' := by
  have hE := gE hg
  intro j
  induction j with
  | zero =>
    intro i A hi ht hr
    obtain ⟨l1, l2, l3, l4, l5, l6⟩ := sh_len ht hd h2
    have hii : i = T d 4 := by omega
    subst hii
    refine ⟨A, ?_, Fq_r 81 A⟩
    refine (bk_X12_whatIs_95 ..).trans ?_
    simp (disch := omega) only [↓mR, ↓m8r, l3, l_lit, nI_leI, Nat.le_refl, ↓reduceIte]
    cases ha : alB (gsN M (c d) (T d 3) kk ff e) (T d 4) with
    | false =>
      simp (disch := omega) only [bI_f, ↓reduceIte, nI_or, Nat.or_zero, nI_add, show b2n false = 0 from rfl, Nat.zero_mul, Nat.add_zero]
    | true =>
      simp (disch := omega) only [bI_t, nI_eq, Nat.one_ne_zero, ↓reduceIte, nI_add, nI_orbit _ hB, show b2n true = 1 from rfl, Nat.one_mul]
  | succ j ih =>
    intro i A hi ht hr
    obtain ⟨l1, l2, l3, l4, l5, l6⟩ := sh_len ht hd h2
    have hil : i < T d 4 := by omega
    have e1 := (sh_el ht hd h2 hil).2
    have hw' : M' 0 2 ≤ 999 := by rw [h0]; exact hw
    have hg2 := wsN_good hg' i (by omega)
    obtain ⟨A1, a1, a2, a3⟩ := X12_week_ok (n := 19) (by omega) hr hg2 (by rw [wsN_W]; omega)
    have ht1 : Shf A1 T c := Shf_eq ht (fun p hp => a3 p (by omega)) (fun p hp => a3 p (by omega))
    obtain ⟨A2, b1, b2⟩ := ih (i + 1) A1 (by omega) ht1 a2
    have hls := X12_leastOf_ok (n := 19) (A := A) (by omega) l6
    have he' : e < wsN M' i 0 1 := by rw [wsN_E, h0]; exact he
    have hsz : A 81 (21 + 5 * e + 2) = nI (gzN M kk ff e i) := by
      rw [rSz hr he', gz_ws h0 h3 h4 h6 h8 hk hf he i]
    refine ⟨A2, ?_, Fq_t a3 b2⟩
    rw [← b1]
    refine (bk_X12_whatIs_95 ..).trans ?_
    have hal : alB (gsN M (c d) (T d 3) kk ff e) (i + 1) = (alB (gsN M (c d) (T d 3) kk ff e) i && gsN M (c d) (T d 3) kk ff e i) := rfl
    have z1 : ∀ b : Bool, bI b &&& nI 1 = bI b := by intro b; cases b <;> decide +kernel
    have z0 : ∀ b : Bool, bI b &&& nI 0 = nI 0 := by intro b; cases b <;> decide +kernel
    rw [hal]
    unfold gsN
    by_cases hs : c d i = lsI (T d 3)
    · rw [decide_eq_true hs, Bool.true_or, Bool.and_true]
      simp (disch := omega) only [↓mR, ↓m8r, l3, l5, l_lit, nI_leI, Nat.not_le.mpr hil, ↓reduceIte, nI_mul, nI_add, ↓m91r, e1, hls, yi_b, hs, a1, yv_b, z1]
    · by_cases hq : c d i = nI (gzN M kk ff e i)
      · rw [decide_eq_true hq, Bool.or_true, Bool.and_true]
        simp (disch := omega) only [↓mR, ↓m8r, l3, l5, l_lit, nI_leI, Nat.not_le.mpr hil, ↓reduceIte, nI_mul, nI_add, ↓m91r, e1, hls, yi_b, hs, en_X12_ofE, ↓qD hr.1, hsz]
        rw [if_pos hq]
        simp (disch := omega) only [a1, yv_b, z1]
      · rw [decide_eq_false hs, decide_eq_false hq, Bool.or_false, Bool.and_false]
        simp (disch := omega) only [↓mR, ↓m8r, l3, l5, l_lit, nI_leI, Nat.not_le.mpr hil, ↓reduceIte, nI_mul, nI_add, ↓m91r, e1, hls, yi_b, hs, en_X12_ofE, ↓qD hr.1, hsz]
        rw [if_neg hq]
        simp (disch := omega) only [a1, yv_b, z0, bI_f]
theorem mu_self (M : Mt) (t k v a : Nat) (h : a ≠ t) : mu M t k v a = M a := mu_ne1 h
theorem mu_kd_good (hg : Good M) {s v : Nat} (hv : v < 8) : Good (mu M 1 s v) := by
  obtain ⟨g1, g2, g3, g4, g5⟩ := hg
  refine ⟨g1, g2, g3, fun p hp => ?_, fun e he => ?_⟩
  · have := g4 p hp
    refine ⟨?_, this.2.1, this.2.2⟩
    unfold mu
    split
    · exact hv
    · exact this.1
  · exact g5 e he
theorem mu_fg_good (hg : Good M) {s v : Nat} (hv : v < 10) : Good (mu M 2 s v) := by
  obtain ⟨g1, g2, g3, g4, g5⟩ := hg
  refine ⟨g1, g2, g3, fun p hp => ?_, fun e he => ?_⟩
  · have := g4 p hp
    refine ⟨this.1, ?_, this.2.2⟩
    unfold mu
    split
    · exact hv
    · exact this.2.1
  · exact g5 e he
theorem X12_what0 (hr : Row A 80 M) (hg : Good M) (hw : M 0 2 ≤ 999) (ht : Shf A T c) (hd : d < 8) (h2 : T d 0 = 2) (he : e < M 0 1) : ∃ A', yb_X12_whatIs (ycall 19) (41, [some (.ref 79), some (.int (nI d)), some (.int (nI e)), some (.int (nI 0)), none, some (.int (nI 0)), some (.int (nI 0)), none, none, none], [], A) = some (some (.int (nI (bts (fun k => b2n (wkG M (c d) (T d 3) (T d 4) e k)) 8))), A') ∧ Sc A A' := by
  have hE := gE hg
  have hS := gS hg
  have h1 := gEr hg he
  have h3 := gP hg h1.1
  obtain ⟨A', e1, f1⟩ := for_ex (fun k A => yb_X12_whatIs (ycall 19) (41, [some (.ref 79), some (.int (nI d)), some (.int (nI e)), some (.int (nI 0)), none, some (.int (nI (bts (fun k => b2n (wkG M (c d) (T d 3) (T d 4) e k)) k))), some (.int (nI k)), none, none, none], [], A)) (fun _ A' => Fq 81 A A') 8 A (fun k A' hk hF => by
    have hr' : Row A' 80 M := Row_Fq hr (by omega) hF
    have ht' : Shf A' T c := Shf_eq ht (fun p hp => hF p (by omega)) (fun p hp => hF p (by omega))
    have hlt : bts (fun k => b2n (wkG M (c d) (T d 3) (T d 4) e k)) k < 2 ^ k := bts_lt (fun j _ => b2n_lt _)
    obtain ⟨A1, a1, a2, a3⟩ := X12_copies_ok (n := 19) (q2 := 81) (by omega) hr' hg (by omega) (by omega)
    have hr1 : Row A1 80 M := Row_Fq hr' (by omega) a3
    have hr2 := Row_sl a2 hg (s := M 4 e) (t := 0) (v := k) h1.1 (by omega)
    have ht1 : Shf (yup A1 81 (3 + 3 * M 4 e + 0) (nI k)) T c := Shf_eq ht' (fun p hp => by rw [yup_ne1 (by omega)]; exact a3 p (by omega)) (fun p hp => by rw [yup_ne1 (by omega)]; exact a3 p (by omega))
    obtain ⟨A2, b1, b2⟩ := wi_in (M' := mu M 1 (M 4 e) k) (kk := k) (ff := M 2 (M 4 e)) (w := nI 0) (c := c) hg hw hd h2 he (mu_kd_good hg hk) (mu_self _ _ _ _ _ (by omega)) (mu_self _ _ _ _ _ (by omega)) (mu_self _ _ _ _ _ (by omega)) (mu_self _ _ _ _ _ (by omega)) (mu_self _ _ _ _ _ (by omega)) mu_eq (by rw [mu_self _ _ _ _ _ (by omega)]) hlt (by omega) (T d 4) 0 _ (by omega) ht1 hr2
    refine ⟨A2, ?_, Fq_t (Fq_t hF a3) (Fq_t Fq_up b2)⟩
    refine (bk_X12_whatIs_41 ..).trans ?_
    simp (disch := omega) only [l_lit, ↓reduceIte, nI_leI, Nat.not_le.mpr hk, ↓mR, a1, yv_b, en_X12_ofE, yi_b, nI_mul, nI_add, ↓qD hr1.1, rBy hr1, en_X12_ofS, ↓qW a2.1]
    exact b1) (Fq_r 81 A)
  refine ⟨A', ?_, Sc_Fq (Or.inl rfl) f1⟩
  refine e1.trans ?_
  refine (bk_X12_whatIs_41 ..).trans ?_
  simp (disch := omega) only [l_lit, ↓reduceIte, nI_leI, Nat.le_refl]
theorem X12_what1 (hr : Row A 80 M) (hg : Good M) (hw : M 0 2 ≤ 999) (ht : Shf A T c) (hd : d < 8) (h2 : T d 0 = 2) (he : e < M 0 1) : ∃ A', yb_X12_whatIs (ycall 19) (41, [some (.ref 79), some (.int (nI d)), some (.int (nI e)), some (.int (nI 1)), none, some (.int (nI 0)), some (.int (nI 0)), none, none, none], [], A) = some (some (.int (nI (bts (fun k => b2n (wfG M (c d) (T d 3) (T d 4) e k)) 10))), A') ∧ Sc A A' := by
  have hE := gE hg
  have hS := gS hg
  have h1 := gEr hg he
  have h3 := gP hg h1.1
  have n10 : (nI 1 = nI 0) = False := eq_false (by decide +kernel)
  obtain ⟨A', e1, f1⟩ := for_ex (fun k A => yb_X12_whatIs (ycall 19) (41, [some (.ref 79), some (.int (nI d)), some (.int (nI e)), some (.int (nI 1)), none, some (.int (nI (bts (fun k => b2n (wfG M (c d) (T d 3) (T d 4) e k)) k))), some (.int (nI k)), none, none, none], [], A)) (fun _ A' => Fq 81 A A') 10 A (fun k A' hk hF => by
    have hr' : Row A' 80 M := Row_Fq hr (by omega) hF
    have ht' : Shf A' T c := Shf_eq ht (fun p hp => hF p (by omega)) (fun p hp => hF p (by omega))
    have hlt : bts (fun k => b2n (wfG M (c d) (T d 3) (T d 4) e k)) k < 2 ^ k := bts_lt (fun j _ => b2n_lt _)
    obtain ⟨A1, a1, a2, a3⟩ := X12_copies_ok (n := 19) (q2 := 81) (by omega) hr' hg (by omega) (by omega)
    have hr1 : Row A1 80 M := Row_Fq hr' (by omega) a3
    have hr2 := Row_sl a2 hg (s := M 4 e) (t := 1) (v := k) h1.1 (by omega)
    have ht1 : Shf (yup A1 81 (3 + 3 * M 4 e + 1) (nI k)) T c := Shf_eq ht' (fun p hp => by rw [yup_ne1 (by omega)]; exact a3 p (by omega)) (fun p hp => by rw [yup_ne1 (by omega)]; exact a3 p (by omega))
    obtain ⟨A2, b1, b2⟩ := wi_in (M' := mu M 2 (M 4 e) k) (kk := M 1 (M 4 e)) (ff := k) (w := nI 1) (c := c) hg hw hd h2 he (mu_fg_good hg hk) (mu_self _ _ _ _ _ (by omega)) (mu_self _ _ _ _ _ (by omega)) (mu_self _ _ _ _ _ (by omega)) (mu_self _ _ _ _ _ (by omega)) (mu_self _ _ _ _ _ (by omega)) (by rw [mu_self _ _ _ _ _ (by omega)]) mu_eq hlt (by omega) (T d 4) 0 _ (by omega) ht1 hr2
    refine ⟨A2, ?_, Fq_t (Fq_t hF a3) (Fq_t Fq_up b2)⟩
    refine (bk_X12_whatIs_41 ..).trans ?_
    simp (disch := omega) only [l_lit, n10, ↓reduceIte, nI_leI, Nat.not_le.mpr hk, ↓mR, a1, yv_b, en_X12_ofE, yi_b, nI_mul, nI_add, ↓qD hr1.1, rBy hr1, en_X12_ofS, ↓qW a2.1]
    exact b1) (Fq_r 81 A)
  refine ⟨A', ?_, Sc_Fq (Or.inl rfl) f1⟩
  refine e1.trans ?_
  refine (bk_X12_whatIs_41 ..).trans ?_
  simp (disch := omega) only [l_lit, n10, ↓reduceIte, nI_leI, Nat.le_refl]
theorem api_whatIs (hi : InvX A M I hI T c g) (x y w : Int32) : Api 112 214 [.int x, .int y, .int w] A g := by
  have hc := iC hi
  have hg := iG hi
  have hw := iW hi
  have hE := gE hg
  have n10 : (nI 1 = nI 0) = False := eq_false (by decide +kernel)
  have m1 : (-1 : Int32) = -nI 1 := rfl
  by_cases hx : okI x 8 = true
  · by_cases hy : okI y (M 0 1) = true
    · by_cases hz : okI w 2 = true
      · obtain ⟨d, hd, rfl⟩ := okI_of (by omega) hx
        obtain ⟨e, he, rfl⟩ := okI_of (by omega) hy
        obtain ⟨p, hp, rfl⟩ := okI_of (by omega) hz
        by_cases h2 : T d 0 = 2
        · have hz2 : rfI T 2 d = nI 0 := (rfI_0 (by omega)).mpr h2
          have : p = 0 ∨ p = 1 := by omega
          rcases this with rfl | rfl
          · refine api_read hi (.int (nI (bts (fun k => b2n (wkG M (c d) (T d 3) (T d 4) e k)) 8))) ⟨_, ?_, Sc_r A⟩ (fun A1 hi => ?_)
            · rw [en_X11_whatIs]
              simp (disch := omega) only [↓b11s, hx, bI_t, l_lit, n10, ↓reduceIte, ↓xR, cV hc.1, X0_hasError_ok _ hc, hy, yi_b, nI_ltI, nI_leI, Nat.not_lt_zero, Nat.zero_le, xV, X11_row_ok _ (iT hi) hd, hz2, ↓sh_row hd, X11_kinds_ok _ hc hg hw (iT hi) hd h2 he]
            · have hr := iR hi
              obtain ⟨A2, b1, b2⟩ := X12_what0 hr hg hw (iT hi) hd h2 he
              refine ⟨A2, ?_, b2⟩
              have hrow := X12_row_ok (n := 19) (by omega) (iT hi) hd
              rw [en_X12_whatIs, m1]
              simp (disch := omega) only [mV, X12_isError_ok _ hr hg, hy, bI_t, yi_b, l_lit, n10, ↓reduceIte, X12_in0, Nat.reduceAdd, hz, hrow, hz2, b1]
          · refine api_read hi (.int (nI (bts (fun k => b2n (wfG M (c d) (T d 3) (T d 4) e k)) 10))) ⟨_, ?_, Sc_r A⟩ (fun A1 hi => ?_)
            · rw [en_X11_whatIs]
              simp (disch := omega) only [↓b11s, hx, bI_t, l_lit, n10, ↓reduceIte, ↓xR, cV hc.1, X0_hasError_ok _ hc, hy, yi_b, nI_ltI, nI_leI, Nat.not_lt_zero, Nat.le_refl, xV, X11_row_ok _ (iT hi) hd, hz2, ↓sh_row hd, X11_figures_ok _ hc hg hw (iT hi) hd h2 he]
            · have hr := iR hi
              obtain ⟨A2, b1, b2⟩ := X12_what1 hr hg hw (iT hi) hd h2 he
              refine ⟨A2, ?_, b2⟩
              have hrow := X12_row_ok (n := 19) (by omega) (iT hi) hd
              rw [en_X12_whatIs, m1]
              simp (disch := omega) only [mV, X12_isError_ok _ hr hg, hy, bI_t, yi_b, l_lit, n10, ↓reduceIte, X12_in0, Nat.reduceAdd, hz, hrow, hz2, b1]
        · have h0 : (rfI T 2 d = nI 0) = False := eq_false (fun e => h2 ((rfI_0 (by omega)).mp e))
          refine api_read hi (.int (rfI T 2 d)) ⟨_, ?_, Sc_r A⟩ (fun A1 hi => ⟨_, ?_, Sc_r A1⟩)
          · rw [en_X11_whatIs]
            simp (disch := omega) only [↓b11s, hx, bI_t, l_lit, n10, ↓reduceIte, ↓xR, cV hc.1, X0_hasError_ok _ hc, hy, yi_b, nI_ltI, nI_leI, Nat.not_lt_zero, show p ≤ 1 by omega, xV, X11_row_ok _ (iT hi) hd, h0]
          · have hr := iR hi
            have hrow := X12_row_ok (n := 19) (by omega) (iT hi) hd
            rw [en_X12_whatIs, m1]
            simp (disch := omega) only [mV, X12_isError_ok _ hr hg, hy, bI_t, yi_b, l_lit, n10, ↓reduceIte, X12_in0, Nat.reduceAdd, hz, hrow, h0]
      · have hz := okI_f hz
        have e2 : ∀ (F G : Option yR), (if w < nI 0 then F else if w ≤ nI 1 then G else F) = F := fun F G => by
          rcases okI_no2 (k := 1) (by omega) hz with h | ⟨h1, h2, h3⟩
          · rw [if_pos (of_eq_true h)]
          · simp only [h1, h3, if_false]
        refine api_read hi (.int (-nI 1)) ⟨_, ?_, Sc_r A⟩ (fun A1 hi => ⟨_, ?_, Sc_r A1⟩)
        · rw [en_X11_whatIs]
          simp (disch := omega) only [↓b11s, hx, bI_t, l_lit, n10, ↓reduceIte, ↓xR, cV hc.1, X0_hasError_ok _ hc, hy, yi_b, ↓e2]
        · have hr := iR hi
          rw [en_X12_whatIs, m1]
          simp (disch := omega) only [mV, X12_isError_ok _ hr hg, hy, bI_t, bI_f, yi_b, l_lit, n10, ↓reduceIte, X12_in0, Nat.reduceAdd, hz]
    · have hy := okI_f hy
      refine api_read hi (.int (-nI 1)) ⟨_, ?_, Sc_r A⟩ (fun A1 hi => ⟨_, ?_, Sc_r A1⟩)
      · rw [en_X11_whatIs]
        simp (disch := omega) only [↓b11s, hx, bI_t, bI_f, l_lit, n10, ↓reduceIte, ↓xR, cV hc.1, X0_hasError_ok _ hc, hy, yi_b]
      · have hr := iR hi
        rw [en_X12_whatIs, m1]
        simp (disch := omega) only [mV, X12_isError_ok _ hr hg, hy, bI_f, yi_b, l_lit, ↓reduceIte]
  · have hx := okI_f hx
    refine api_read hi (.int (-nI 1)) ⟨_, ?_, Sc_r A⟩ (fun A1 hi => ⟨_, ?_, Sc_r A1⟩)
    · rw [en_X11_whatIs]
      simp (disch := omega) only [↓b11s, hx, bI_f, l_lit, ↓reduceIte]
    · have hr := iR hi
      have hneg : (-nI 1 = nI 0) = False := eq_false (by decide +kernel)
      rw [en_X12_whatIs, m1, mV, X12_isError_ok (by omega) hr hg, yi_b]
      cases hy : okI y (M 0 1) with
      | false => exact if_pos rfl
      | true =>
        simp (disch := omega) only [bI_t, l_lit, n10, ↓reduceIte, X12_in0, Nat.reduceAdd, yi_b]
        cases hz : okI w 2 with
        | false => simp (disch := omega) only [bI_f, ↓reduceIte]
        | true => simp (disch := omega) only [bI_t, n10, ↓reduceIte, mV, X12_row_no _ hx, yi_b, m1, hneg]
end B10
