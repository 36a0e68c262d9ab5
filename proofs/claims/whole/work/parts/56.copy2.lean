section B7
variable {A : yM} {M I : Mt} {hI : Nat} {T : Nat → Nat → Nat} {c : Nat → Nat → Int32} {g : Nat} {n d e : Nat}
theorem le_sub {a b m : Nat} (ha : a ≤ 1000) (hb : b < 2 ^ 31) (hm : m < 2 ^ 31) : (nI m ≤ nI a - nI b) = (m + b ≤ a) := by
  rw [← Int32.not_lt, pow_sub_lt ha hb hm]
  apply propext
  omega
theorem b11s (x : Int32) (A : yM) (F : Int32 × yM → Option yR) : (yi (ycall 19 134 [.int x] A)).bind F = F (bI (okI x 8), A) := by
  rw [X11_isShelf_ok (by omega)]
  rfl
theorem b12s (x : Int32) (A : yM) (F : Int32 × yM → Option yR) : (yi (ycall 19 229 [.int x] A)).bind F = F (bI (okI x 8), A) := by
  rw [X12_isShelf_ok (by omega)]
  rfl
theorem b7hp (ht : Shf A T c) (hd : d < 8) (h : T d 0 = 2) (i k : Int32) (F : Int32 × yM → Option yR) : (yi (yvt [(7, 56)] (ycall 19) [.ref (60 + 2 * d), .int i, .int k] A)).bind F = F (bI (decide (¬ k < nI 0 ∧ ¬ i < nI 0 ∧ ¬ nI (T d 4) - k < i)), A) := by
  rw [sh_v hd, X7_hasPlaces_ok (by omega) ht hd h]
  rfl
theorem X11_copy_go (ht : Shf A T c) (hd : d < 8) (he : e < 8) (d2 : T d 0 = 2) (e2 : T e 0 = 2) (hs : T d 3 = T e 3) (i j k : Int32) : ycall 20 131 [.ref 1, .int (nI d), .int i, .int (nI e), .int j, .int k] A =
    if ¬ k < nI 0 ∧ ¬ i < nI 0 ∧ ¬ nI (T d 4) - k < i then (if ¬ k < nI 0 ∧ ¬ j < nI 0 ∧ ¬ nI (T e 4) - k < j then (ycpy [.ref (61 + 2 * d), .int i, .ref (61 + 2 * e), .int j, .int k] A).bind (fun A17 => (some (some (.int k), A17) : Option yR)) else some (some (.int (-nI 13)), A)) else some (some (.int (-nI 13)), A) := by
  have hx : okI (nI d) 8 = true := okI_at hd (by omega)
  have hy : okI (nI e) 8 = true := okI_at he (by omega)
  obtain ⟨u1, u2, u3, -, -⟩ := ht d hd
  obtain ⟨w1, w2, w3, -, -⟩ := ht e he
  obtain ⟨l1, l2, l3, l4, l5, l6⟩ := sh_len ht hd d2
  obtain ⟨m1, m2, m3, m4, m5, m6⟩ := sh_len ht he e2
  rw [d2] at u2
  rw [e2] at w2
  rw [hs] at l4
  have n20 : (nI 2 = nI 0) = False := eq_false (by decide +kernel)
  have n10 : (nI 1 = nI 0) = False := eq_false (by decide +kernel)
  rw [en_X11_copy]
  simp (disch := omega) only [↓b11s, hx, hy, bI_t, ↓l_lit, ↓xR, ↓sh_row, ↓sh_I, u2, w2, l4, m4, n20, n10, ↓reduceIte]
  rw [b7hp ht hd d2]
  by_cases p1 : ¬ k < nI 0 ∧ ¬ i < nI 0 ∧ ¬ nI (T d 4) - k < i
  · rw [if_pos p1, decide_eq_true p1]
    simp only [bI_t, n10, ↓reduceIte]
    rw [b7hp ht he e2]
    by_cases p2 : ¬ k < nI 0 ∧ ¬ j < nI 0 ∧ ¬ nI (T e 4) - k < j
    · rw [if_pos p2, decide_eq_true p2]
      simp only [bI_t, n10, ↓reduceIte, ↓sh_R hd, ↓sh_R he]
    · rw [if_neg p2, decide_eq_false p2]
      simp only [bI_f, ↓reduceIte]
  · rw [if_neg p1, decide_eq_false p1]
    simp only [bI_f, ↓reduceIte]
theorem X12_copy_go (hd : d < 8) (he : e < 8) (u : A 86 d = nI 2) (w : A 86 e = nI 2) (hs : A 89 d = A 89 e) {a b : Nat} (hl : A 90 d = nI a) (hm : A 90 e = nI b) (i j k : Int32) : ycall 20 236 [.ref 79, .int (nI d), .int i, .int (nI e), .int j, .int k] A =
    if k < nI 0 ∨ i < nI 0 ∨ j < nI 0 ∨ nI a - i < k ∨ ¬ k ≤ nI b - j then some (some (.int (-nI 13)), A) else yb_X12_copy (ycall 19) (122, [some (.ref 79), some (.int (nI d)), some (.int i), some (.int (nI e)), some (.int j), some (.int k), some (.int (nI 0)), none], [], A) := by
  have hx : okI (nI d) 8 = true := okI_at hd (by omega)
  have hy : okI (nI e) 8 = true := okI_at he (by omega)
  have n20 : (nI 2 = nI 0) = False := eq_false (by decide +kernel)
  have n10 : (nI 1 = nI 0) = False := eq_false (by decide +kernel)
  rw [en_X12_copy]
  simp (disch := omega) only [↓b12s, hx, hy, bI_t, ↓l_lit, ↓mR, ↓m8r, u, w, hs, hl, hm, n20, n10, ↓reduceIte]
  by_cases p1 : k < nI 0
  · rw [if_pos p1, if_pos (Or.inl p1)]
  · rw [if_neg p1]
    by_cases p2 : i < nI 0
    · rw [if_pos p2, if_pos (Or.inr (Or.inl p2))]
    · rw [if_neg p2]
      by_cases p3 : j < nI 0
      · rw [if_pos p3, if_pos (Or.inr (Or.inr (Or.inl p3)))]
      · rw [if_neg p3]
        by_cases p4 : nI a - i < k
        · rw [if_pos p4, if_pos (Or.inr (Or.inr (Or.inr (Or.inl p4))))]
        · rw [if_neg p4]
          by_cases p5 : k ≤ nI b - j
          · rw [if_pos p5, if_neg]
            rintro (q | q | q | q | q)
            · exact p1 q
            · exact p2 q
            · exact p3 q
            · exact p4 q
            · exact q p5
          · rw [if_neg p5, if_pos (Or.inr (Or.inr (Or.inr (Or.inr p5))))]
theorem api_copy_in (hi : InvX A M I hI T c g) (hd : d < 8) (he : e < 8) (d2 : T d 0 = 2) (e2 : T e 0 = 2) (hs : T d 3 = T e 3) (i j k : Int32) : Api 131 236 [.int (nI d), .int i, .int (nI e), .int j, .int k] A g := by
  have ht := iT hi
  obtain ⟨l1, l2, l3, l4, l5, l6⟩ := sh_len ht hd d2
  obtain ⟨m1, m2, m3, m4, m5, m6⟩ := sh_len ht he e2
  have u := (ht d hd).2.2.1
  have w := (ht e he).2.2.1
  rw [d2] at u
  rw [e2] at w
  have s9 : A 89 d = A 89 e := by rw [l5, m5, hs]
  by_cases hk : k < nI 0
  · refine api_read hi (.int (-nI 13)) ⟨_, ?_, Sc_r A⟩ (fun A1 hi => ⟨_, ?_, Sc_r A1⟩)
    · rw [X11_copy_go ht hd he d2 e2 hs, if_neg (fun q => q.1 hk)]
    · have ht := iT hi
      obtain ⟨l1, l2, l3, l4, l5, l6⟩ := sh_len ht hd d2
      obtain ⟨m1, m2, m3, m4, m5, m6⟩ := sh_len ht he e2
      rw [X12_copy_go hd he (by rw [(ht d hd).2.2.1, d2]) (by rw [(ht e he).2.2.1, e2]) (by rw [l5, m5, hs]) l3 m3, if_pos (Or.inl hk)]
  · by_cases hi0 : i < nI 0
    · refine api_read hi (.int (-nI 13)) ⟨_, ?_, Sc_r A⟩ (fun A1 hi => ⟨_, ?_, Sc_r A1⟩)
      · rw [X11_copy_go ht hd he d2 e2 hs, if_neg (fun q => q.2.1 hi0)]
      · have ht := iT hi
        obtain ⟨l1, l2, l3, l4, l5, l6⟩ := sh_len ht hd d2
        obtain ⟨m1, m2, m3, m4, m5, m6⟩ := sh_len ht he e2
        rw [X12_copy_go hd he (by rw [(ht d hd).2.2.1, d2]) (by rw [(ht e he).2.2.1, e2]) (by rw [l5, m5, hs]) l3 m3, if_pos (Or.inr (Or.inl hi0))]
    · by_cases hj0 : j < nI 0
      · refine api_read hi (.int (-nI 13)) ⟨_, ?_, Sc_r A⟩ (fun A1 hi => ⟨_, ?_, Sc_r A1⟩)
        · rw [X11_copy_go ht hd he d2 e2 hs]
          split
          · rw [if_neg (fun q => q.2.1 hj0)]
          · rfl
        · have ht := iT hi
          obtain ⟨l1, l2, l3, l4, l5, l6⟩ := sh_len ht hd d2
          obtain ⟨m1, m2, m3, m4, m5, m6⟩ := sh_len ht he e2
          rw [X12_copy_go hd he (by rw [(ht d hd).2.2.1, d2]) (by rw [(ht e he).2.2.1, e2]) (by rw [l5, m5, hs]) l3 m3, if_pos (Or.inr (Or.inr (Or.inl hj0)))]
      · obtain ⟨m, hm, rfl⟩ := nI_of hk
        obtain ⟨a, ha, rfl⟩ := nI_of hi0
        obtain ⟨b, hb, rfl⟩ := nI_of hj0
        by_cases hok : a + m ≤ T d 4 ∧ b + m ≤ T e 4
        · obtain ⟨o1, o2⟩ := hok
          have a1 : ycall 20 131 [.ref 1, .int (nI d), .int (nI a), .int (nI e), .int (nI b), .int (nI m)] A = some (some (.int (nI m)), ycy A (61 + 2 * d) a (61 + 2 * e) b m) := by
            have r1 : ¬ nI (T d 4) - nI m < nI a := by rw [pow_sub_lt (by omega) hm ha]; omega
            have r2 : ¬ nI (T e 4) - nI m < nI b := by rw [pow_sub_lt (by omega) hm hb]; omega
            rw [X11_copy_go ht hd he d2 e2 hs, if_pos ⟨hk, hi0, r1⟩, if_pos ⟨hk, hj0, r2⟩, ycpy_okg (sh_l hd) (sh_l he) (by omega) (by omega) (by omega) (by omega)]
            rfl
          have f1 : ∀ p, p ≠ 61 + 2 * e → ycy A (61 + 2 * d) a (61 + 2 * e) b m p = A p := fun p hp => ycy_ne1 hp
          have g1 : ∀ l, ycy A (61 + 2 * d) a (61 + 2 * e) b m (61 + 2 * e) l = if b ≤ l ∧ l < b + m then A (61 + 2 * d) (a + (l - b)) else A (61 + 2 * e) l := fun l => by
            unfold ycy
            by_cases q : b ≤ l ∧ l < b + m
            · rw [if_pos ⟨rfl, q⟩, if_pos q]
            · rw [if_neg (fun z => q z.2), if_neg q]
          generalize ycy A (61 + 2 * d) a (61 + 2 * e) b m = A1 at a1 f1 g1
          obtain ⟨A2, e3, p1, p2⟩ := rcp (d := d) e 0 a b m hd he (by omega) (by omega) 19 A1
          have a2 : ycall 20 236 [.ref 79, .int (nI d), .int (nI a), .int (nI e), .int (nI b), .int (nI m)] A1 = some (some (.int (nI m)), A2) := by
            have r1 : ¬ nI (T d 4) - nI a < nI m := by rw [pow_sub_lt (by omega) ha hm]; omega
            have r2 : nI m ≤ nI (T e 4) - nI b := by rw [le_sub (by omega) hb hm]; omega
            rw [X12_copy_go hd he (by rw [f1 _ (by omega), u]) (by rw [f1 _ (by omega), w]) (by rw [f1 _ (by omega), s9]) (a := T d 4) (b := T e 4) (by rw [f1 _ (by omega), l3]) (by rw [f1 _ (by omega), m3]), if_neg]
            · exact e3
            · rintro (q | q | q | q | q)
              · exact hk q
              · exact hi0 q
              · exact hj0 q
              · exact r1 q
              · exact q r2
          have hrd := (ht d hd).2.2.2.2 d2
          have hre := (ht e he).2.2.2.2 e2
          refine api_shelf (T' := T) (c' := fun k' l => if k' = e ∧ b ≤ l ∧ l < b + m then c d (a + (l - b)) else c k' l) hi a1 (fun p hp => f1 p (by omega)) a2 (fun p hp => p1 p (by omega)) (Shf_upd (d := e) ht (fun k' hk' hke => ⟨?_, ?_, fun q hq => ?_, fun l hl => ?_, rfl, ?_⟩) ?_)
          · rw [p1 _ (by omega), f1 _ (by omega)]
          · rw [p1 _ (by omega), f1 _ (by omega)]
          · rw [p1 _ (by omega), f1 _ (by omega)]
          · rw [p2 _ (by omega), if_neg (by omega), f1 _ (by omega)]
          · funext l
            exact if_neg (fun q => hke q.1)
          · obtain ⟨r1, r2, r3, r4, r5, r6, r7⟩ := hre
            obtain ⟨v1, v2, v3, -, -⟩ := ht e he
            unfold ShD
            rw [p1 (60 + 2 * e) (by omega), f1 (60 + 2 * e) (by omega), p1 86 (by omega), f1 86 (by omega), p1 89 (by omega), f1 89 (by omega), p1 90 (by omega), f1 90 (by omega), p1 (61 + 2 * e) (by omega)]
            refine ⟨v1, v2, v3, fun h => by omega, fun _ => ⟨r1, r2, r3, r4, r5, r6, fun l hl => ?_⟩⟩
            obtain ⟨y1, y2, y3⟩ := r7 l hl
            rw [g1 l, p2 _ (by omega)]
            dsimp only
            by_cases q : b ≤ l ∧ l < b + m
            · obtain ⟨x1, x2, x3⟩ := hrd.2.2.2.2.2.2 (a + (l - b)) (by omega)
              rw [if_pos q, if_pos (⟨rfl, q⟩ : e = e ∧ b ≤ l ∧ l < b + m), if_pos (by omega), f1 91 (by omega)]
              refine ⟨x1, ?_, fun h0 => x3 (by omega)⟩
              rw [← x2]
              exact congrArg (A 91) (by omega)
            · rw [if_neg q, if_neg (fun z : e = e ∧ b ≤ l ∧ l < b + m => q z.2), if_neg (by omega), f1 91 (by omega)]
              exact ⟨y1, y2, y3⟩
        · refine api_read hi (.int (-nI 13)) ⟨_, ?_, Sc_r A⟩ (fun A1 hi => ⟨_, ?_, Sc_r A1⟩)
          · have r1 : (nI (T d 4) - nI m < nI a) = (T d 4 < a + m) := pow_sub_lt (by omega) hm ha
            have r2 : (nI (T e 4) - nI m < nI b) = (T e 4 < b + m) := pow_sub_lt (by omega) hm hb
            rw [X11_copy_go ht hd he d2 e2 hs]
            by_cases q1 : T d 4 < a + m
            · rw [if_neg (fun q => q.2.2 (r1.mpr q1))]
            · rw [if_pos ⟨hk, hi0, fun q => q1 (r1.mp q)⟩, if_neg (fun q => q.2.2 (r2.mpr (by omega)))]
          · have ht := iT hi
            obtain ⟨l1, l2, l3, l4, l5, l6⟩ := sh_len ht hd d2
            obtain ⟨m1, m2, m3, m4, m5, m6⟩ := sh_len ht he e2
            rw [X12_copy_go hd he (by rw [(ht d hd).2.2.1, d2]) (by rw [(ht e he).2.2.1, e2]) (by rw [l5, m5, hs]) l3 m3, if_pos]
            have r1 : (nI (T d 4) - nI a < nI m) = (T d 4 < m + a) := pow_sub_lt (by omega) ha hm
            have r2 : (nI m ≤ nI (T e 4) - nI b) = (m + b ≤ T e 4) := le_sub (by omega) hb hm
            by_cases q1 : T d 4 < m + a
            · exact Or.inr (Or.inr (Or.inr (Or.inl (r1.mpr q1))))
            · exact Or.inr (Or.inr (Or.inr (Or.inr (fun q => by have := r2.mp q; omega))))
/-- what is refused ahead of the places: nothing held, no ROWS of one SORT -/
def cpR (T : Nat → Nat → Nat) (d e : Nat) : Int32 := if T d 0 = 0 ∨ T e 0 = 0 then -nI 11 else -nI 12
theorem api_copy (hi : InvX A M I hI T c g) (x i y j k : Int32) : Api 131 236 [.int x, .int i, .int y, .int j, .int k] A g := by
  have ht := iT hi
  have n10 : (nI 1 = nI 0) = False := eq_false (by decide +kernel)
  by_cases hx : okI x 8 = true
  · by_cases hy : okI y 8 = true
    · obtain ⟨d, hd, rfl⟩ := okI_of (by omega) hx
      obtain ⟨e, he, rfl⟩ := okI_of (by omega) hy
      by_cases hall : T d 0 = 2 ∧ T e 0 = 2 ∧ T d 3 = T e 3
      · exact api_copy_in hi hd he hall.1 hall.2.1 hall.2.2 i j k
      · have nn : ∀ (t s : Nat), t < 2 ^ 31 → s < 2 ^ 31 → (nI t = nI s) = (t = s) := fun t s h1 h2 => propext (nI_eq h1 h2)
        refine api_read hi (.int (cpR T d e)) ⟨_, ?_, Sc_r A⟩ (fun A1 hi => ⟨_, ?_, Sc_r A1⟩)
        · obtain ⟨u1, u2, u3, -, ur⟩ := ht d hd
          obtain ⟨w1, w2, w3, -, wr⟩ := ht e he
          rw [en_X11_copy]
          simp (disch := omega) only [↓b11s, hx, hy, bI_t, ↓l_lit, ↓xR, ↓sh_row, ↓sh_I, u2, w2, n10, ↓reduceIte]
          by_cases d0 : T d 0 = 0
          · have hc : cpR T d e = -nI 11 := if_pos (Or.inl d0)
            rw [hc, d0, if_pos rfl]
          · rw [if_neg (by rw [nn _ _ (by omega) (by omega)]; exact d0)]
            by_cases e0 : T e 0 = 0
            · have hc : cpR T d e = -nI 11 := if_pos (Or.inr e0)
              rw [hc, e0, if_pos rfl]
            · have hc : cpR T d e = -nI 12 := if_neg (by omega)
              rw [hc, if_neg (by rw [nn _ _ (by omega) (by omega)]; exact e0)]
              by_cases d2 : T d 0 = 2
              · by_cases e2 : T e 0 = 2
                · have q1 := ur d2
                  have q2 := wr e2
                  rw [d2, e2, if_pos rfl, if_pos rfl, q1.2.2.1, q2.2.2.1, if_neg]
                  rw [nn _ _ (by omega) (by omega)]
                  exact fun z => hall ⟨d2, e2, z⟩
                · rw [d2, if_pos rfl, if_neg (by rw [nn _ _ (by omega) (by omega)]; exact e2)]
              · rw [if_neg (by rw [nn _ _ (by omega) (by omega)]; exact d2)]
        · have ht := iT hi
          obtain ⟨u1, u2, u3, -, ur⟩ := ht d hd
          obtain ⟨w1, w2, w3, -, wr⟩ := ht e he
          have n12 : (nI 1 = nI 2) = False := eq_false (by decide +kernel)
          have n20 : (nI 2 = nI 0) = False := eq_false (by decide +kernel)
          rw [en_X12_copy]
          have hd3 : T d 0 = 0 ∨ T d 0 = 1 ∨ T d 0 = 2 := by omega
          have he3 : T e 0 = 0 ∨ T e 0 = 1 ∨ T e 0 = 2 := by omega
          rcases hd3 with d0 | d0 | d0
          · have hc : cpR T d e = -nI 11 := if_pos (Or.inl d0)
            rw [d0] at u3
            simp (disch := omega) only [↓b12s, hx, hy, bI_t, ↓l_lit, ↓mR, ↓m8r, u3, n10, ↓reduceIte, hc]
          · rw [d0] at u3
            rcases he3 with e0 | e0
            · have hc : cpR T d e = -nI 11 := if_pos (Or.inr e0)
              rw [e0] at w3
              simp (disch := omega) only [↓b12s, hx, hy, bI_t, ↓l_lit, ↓mR, ↓m8r, u3, w3, n10, ↓reduceIte, hc]
            · have hc : cpR T d e = -nI 12 := if_neg (by omega)
              have ne : (nI (T e 0) = nI 0) = False := by rw [nn _ _ (by omega) (by omega)]; exact eq_false (by omega)
              simp (disch := omega) only [↓b12s, hx, hy, bI_t, ↓l_lit, ↓mR, ↓m8r, u3, w3, ne, n10, n12, ↓reduceIte, hc]
          · rw [d0] at u3
            rcases he3 with e0 | e0 | e0
            · have hc : cpR T d e = -nI 11 := if_pos (Or.inr e0)
              rw [e0] at w3
              simp (disch := omega) only [↓b12s, hx, hy, bI_t, ↓l_lit, ↓mR, ↓m8r, u3, w3, n10, n20, ↓reduceIte, hc]
            · have hc : cpR T d e = -nI 12 := if_neg (by omega)
              rw [e0] at w3
              simp (disch := omega) only [↓b12s, hx, hy, bI_t, ↓l_lit, ↓mR, ↓m8r, u3, w3, n10, n20, n12, ↓reduceIte, hc]
            · have hc : cpR T d e = -nI 12 := if_neg (by omega)
              rw [e0] at w3
              have q1 := (ur d0).2.2.2.2.1
              have q2 := (wr e0).2.2.2.2.1
              have l1 := (ur d0).1
              have l2 := (wr e0).1
              have ns : (nI (T d 3) = nI (T e 3)) = False := by rw [nn _ _ (by omega) (by omega)]; exact eq_false (fun z => hall ⟨d0, e0, z⟩)
              simp (disch := omega) only [↓b12s, hx, hy, bI_t, ↓l_lit, ↓mR, ↓m8r, u3, w3, q1, q2, ns, n10, n20, ↓reduceIte, hc]
    · have hy := okI_f hy
      refine api_read hi (.int (-nI 1)) ⟨_, ?_, Sc_r A⟩ (fun A1 hi => ⟨_, ?_, Sc_r A1⟩)
      · rw [en_X11_copy]
        simp (disch := omega) only [↓b11s, hx, hy, bI_t, bI_f, ↓l_lit, n10, ↓reduceIte]
      · rw [en_X12_copy]
        simp (disch := omega) only [↓b12s, hx, hy, bI_t, bI_f, ↓l_lit, n10, ↓reduceIte]
  · have hx := okI_f hx
    refine api_read hi (.int (-nI 1)) ⟨_, ?_, Sc_r A⟩ (fun A1 hi => ⟨_, ?_, Sc_r A1⟩)
    · rw [en_X11_copy]
      simp (disch := omega) only [↓b11s, hx, bI_f, ↓l_lit, ↓reduceIte]
    · rw [en_X12_copy]
      simp (disch := omega) only [↓b12s, hx, bI_f, ↓l_lit, ↓reduceIte]
end B7
