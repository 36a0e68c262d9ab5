/-! THE LAW'S PROLOGUE: what the constructors make, each in a heap of its own -/
def i_r11 : Option xS := ivd (xfn iE_X11 (ylk il_X11) 2 500 [.ref 0] ([.inr (10, [.null, .null, .null, .int 0, .null, .null, .null, .null])], 0, 0))
def i_r12 : Option xS := ivd (xfn iE_X12 (ylk il_X12) 1 500 [.ref 0] ([.inr (11, [.null, .null, .null, .null, .int 0, .int 0, .int 0, .int 0, .null, .null, .int 0, .null, .null, .null, .null, .null, .null, .int 0])], 0, 0))
def i_h11 : xS := (i_r11).getD ([], 0, 0)
def i_h12 : xS := (i_r12).getD ([], 0, 0)
theorem i_getD {r : Option xS} (h : r.isSome = true) : r = some (r.getD ([], 0, 0)) := by
  cases r with
  | none => cases h
  | some x => rfl
theorem i_e11 : i_r11 = some i_h11 := i_getD (by decide +kernel)
theorem i_e12 : i_r12 = some i_h12 := i_getD (by decide +kernel)
theorem i_c11 : i_h11.2 = (77, 2029) ∧ i_h11.1.length = 78 := by decide +kernel
theorem i_c12 : i_h12.2 = (12, 2000) ∧ i_h12.1.length = 13 := by decide +kernel
/-- places moved up -/
def shv (n : Nat) : Value → Value
  | .ref k => .ref (n + k)
  | v => v
def sh (n : Nat) : xO → xO
  | .inl (t, k, .inr (.inr g)) => .inl (t, k, .inr (.inr (fun i => (g i).map (fun j => n + j))))
  | .inl q => .inl q
  | .inr (ci, fs) => .inr (ci, fs.map (shv n))
theorem xo_sh (tc : Nat → ClassId) (ad : Nat → Nat) (n : Nat) (o : xO) : xo tc ad (sh n o) = xo tc (fun k => ad (n + k)) o := by
  rcases o with ⟨t, k, f | f | g⟩ | ⟨ci, fs⟩
  · rfl
  · rfl
  · have e : (fun i => ((g i).map (fun j => n + j)).map ad) = (fun i => (g i).map (fun k => ad (n + k))) := by
      funext i
      cases g i <;> rfl
    show (Sum.inl (tc t, k, .inr (.inr (.inr (.inr (fun i => ((g i).map (fun j => n + j)).map ad))))) : va_E) = .inl (tc t, k, .inr (.inr (.inr (.inr (fun i => (g i).map (fun k => ad (n + k)))))))
    rw [e]
  · have e : (fs.map (shv n)).map (xv ad) = fs.map (xv (fun k => ad (n + k))) := by
      rw [List.map_map]
      apply List.map_congr_left
      intro v _
      cases v <;> rfl
    show (Sum.inr (ci, (fs.map (shv n)).map (xv ad)) : va_E) = .inr (ci, fs.map (xv (fun k => ad (n + k))))
    rw [e]
theorem fr_hi {tc : Nat → ClassId} {ad : Nat → Nat} {n : Nat} {Pf C : List xO} (hn : Pf.length = n) (i : Nat) : (xw tc ad (Pf ++ C.map (sh n)))[n + i]? = (xw tc (fun k => ad (n + k)) C)[i]? := by
  rw [xw_at, xw_at, List.getElem?_append_right (by omega), List.getElem?_map, show n + i - Pf.length = i by omega]
  cases C[i]? with
  | none => rfl
  | some o =>
    show some (ad (n + i), xo tc ad (sh n o)) = some (ad (n + i), xo tc (fun k => ad (n + k)) o)
    rw [xo_sh]
theorem fr_lo {tc : Nat → ClassId} {ad : Nat → Nat} {n : Nat} {Pf X : List xO} (hn : Pf.length = n) {i : Nat} (hi : i < n) : (xw tc ad (Pf ++ X))[i]? = (Pf[i]?).map (fun o => (ad i, xo tc ad o)) := by
  rw [xw_at, List.getElem?_append_left (by omega)]
theorem at_kept {D : va_G} {q : Nat × va_E} {H H1 : Heap} (h : va_at D vwCl q H) (e : H1[q.1]? = H[q.1]?) : va_at D vwCl q H1 := by
  obtain ⟨a, b | b⟩ := q
  · exact e.trans h
  · obtain ⟨r, h1, h2⟩ := h
    exact ⟨r, h1, h2.kept e⟩
theorem at_in {D : va_G} {q : Nat × va_E} {H : Heap} (h : va_at D vwCl q H) : q.1 < H.size := by
  obtain ⟨a, b | b⟩ := q
  · exact (Array.getElem?_eq_some_iff.mp h).1
  · obtain ⟨r, h1, cell, h2, -⟩ := h
    exact (Array.getElem?_eq_some_iff.mp h2).1
/-- a constructor's call whose run is known in a heap of its own -/
theorem i_call {p : Program} {l : Launch} {e : Env} {R : Room} {s : State} {m : MethodId} {args : Array Value} {below : List Frame} {meth : Method} {c : Code} {own : String} {cc : ByteArray} {D : va_G} {tc : Nat → ClassId} {nL n0 : Nat} {ad0 : Nat → Nat} {A : Nat → Prop} {Q : State → Prop} {rt : Option FieldType} {d key pc : Nat} {C C1 : List xO} {c1 s1 c2 s2 : Nat}
    (hc : xCallee l own d key [.ref 0] (C, c1, s1) none (C1, c2, s2)) (hC0 : 0 < C.length) (hC : xCx p s m args meth c own cc nL D tc A n0 false rt) (hd1 : d ≤ R.frames) (hd2 : 40 * d ≤ R.locals) (hdec : decode cc pc = .ok (xiv key, 3)) {Pf : List xO} {n : Nat} (hn : Pf.length = n) (hn0 : n0 ≤ n) (hrf : Pf.all (xokO n) = true) {L : List (Option Value)} (hL : xokL n L = true) {k j : Nat} (hk : k + (c2 - c1) ≤ R.cells) (hj : j + (s2 - s1) ≤ R.slots)
    (hz : xZ p l e R s m args below meth c D tc nL n0 ad0 A 0 0 Q (pc + 3, L, [.ref n], (Pf ++ C1.map (sh n), k + (c2 - c1), j + (s2 - s1)))) : xZ p l e R s m args below meth c D tc nL n0 ad0 A 0 0 Q (pc, L, [.ref n, .ref n], (Pf ++ C.map (sh n), k, j)) := by
  intro ad ls H locs ha hab hn1 hLl hl hP hD hS
  dsimp only at hab hn1 hLl hl hP hD ⊢
  have hPc : va_P D vwCl (xw tc (fun k => ad (n + k)) C) H := fun i q hq => hP (n + i) q ((fr_hi hn i).trans hq)
  have hDc : va_D A (xw tc (fun k => ad (n + k)) C) := ⟨fun i j p q hp hq he => by
      have := hD.1 (n + i) (n + j) p q ((fr_hi hn i).trans hp) ((fr_hi hn j).trans hq) he
      omega, fun i q hq => hD.2 (n + i) q ((fr_hi hn i).trans hq)⟩
  have hrun := hc p e R s m args below meth c cc D tc nL n0 A false rt pc (fun k => ad (n + k)) ls H locs (k - 0) (j - 0) [.ref 0] hC hd1 hd2 hdec rfl hl.1 hPc hDc hS (by show k - 0 + (c2 - c1) ≤ _; omega) (by show j - 0 + (s2 - s1) ≤ _; omega)
  have hA := hC.2.2.2.2.2.2.2.2.1
  have hF : ∀ q, va_A (xw tc (fun k => ad (n + k)) C) H.size q → A q := by
    intro q hq
    rcases hq with ⟨k, ee, hk⟩ | hq
    · exact hDc.2 k _ hk
    · exact hA q (Nat.le_trans hS.1 hq)
  have lo : ∀ (i : Nat) (o : xO), i < n → Pf[i]? = some o → ad i < H.size ∧ ¬ va_A (xw tc (fun k => ad (n + k)) C) H.size (ad i) := by
    intro i o hi ho
    have hq : (xw tc ad (Pf ++ C.map (sh n)))[i]? = some (ad i, xo tc ad o) := by rw [fr_lo hn hi, ho]; rfl
    have h1 := at_in (hP i _ hq)
    refine ⟨h1, fun h => ?_⟩
    rcases h with ⟨k, ee, hk⟩ | h
    · have := hD.1 i (n + k) _ _ hq ((fr_hi hn k).trans hk) rfl
      omega
    · exact absurd h (Nat.not_le.mpr h1)
  refine va_callv (a := ([Value.ref 0].map (xv (fun k => ad (n + k)))).toArray) hrun hS (fun q _ hq => hF q hq) hF (fun u t H1 locs1 ht hvm hp hB hz1 hk1 hS1 => ?_)
  obtain ⟨a1, a2, a3⟩ := hp
  obtain ⟨b1, b2, b3⟩ := hB
  rw [ht] at b1
  dsimp only at a1 a2 a3 b1 b3
  have e1 : ∀ i, i < n → (fun i => if i < n then ad i else u (i - n)) i = ad i := fun i hi => if_pos hi
  have e2 : (fun k => (fun i => if i < n then ad i else u (i - n)) (n + k)) = u := by
    funext k
    show (if n + k < n then ad (n + k) else u (n + k - n)) = u k
    rw [if_neg (by omega), show n + k - n = k by omega]
  have hu0 : u 0 = ad n := a1 0 hC0
  have adr : ∀ (i : Nat) (q : Nat × va_E), (xw tc (fun i => if i < n then ad i else u (i - n)) (Pf ++ C1.map (sh n)))[i]? = some q → (i < n ∧ ∃ o, Pf[i]? = some o ∧ q = (ad i, xo tc (fun i => if i < n then ad i else u (i - n)) o)) ∨ (n ≤ i ∧ (xw tc u C1)[i - n]? = some q) := by
    intro i q hq
    by_cases hi : i < n
    · rw [fr_lo hn hi] at hq
      cases ho : Pf[i]? with
      | none => rw [ho] at hq; cases hq
      | some o =>
        rw [ho] at hq
        have hq := Option.some.inj hq
        dsimp only at hq
        rw [if_pos hi] at hq
        exact Or.inl ⟨hi, o, rfl, hq.symm⟩
    · have h2 := fr_hi (tc := tc) (ad := fun i => if i < n then ad i else u (i - n)) (C := C1) hn (i - n)
      rw [show n + (i - n) = i by omega, e2] at h2
      exact Or.inr ⟨by omega, h2.symm.trans hq⟩
  have kk := hz (fun i => if i < n then ad i else u (i - n)) ls H1 locs1 (fun i hi => (if_pos (by omega)).trans (ha i hi)) (fun h9 => absurd h9 (by simp only [List.length_append, List.length_map]; omega)) (by simp only [List.length_append, List.length_map]; omega) hLl (xad_L e1 hL hl) (fun i q hq => by
      rcases adr i q hq with ⟨hi, o, ho, rfl⟩ | ⟨hi, hq⟩
      · refine at_kept (H := H) (xad_O (n := n) (ad := ad) e1 (List.all_eq_true.mp hrf o (List.mem_of_getElem? ho)) ?_) ?_
        · exact hP i _ (by rw [fr_lo hn hi, ho]; rfl)
        · have := lo i o hi ho
          exact hk1 _ this.1 this.2
      · exact b1 _ q hq) ⟨fun i j q r hq hr he => by
      rcases adr i q hq with ⟨hi, o, ho, rfl⟩ | ⟨hi, hq⟩ <;> rcases adr j r hr with ⟨hj, o', ho', rfl⟩ | ⟨hj, hr⟩
      · exact hD.1 i j (ad i, xo tc ad o) (ad j, xo tc ad o') (by rw [fr_lo hn hi, ho]; rfl) (by rw [fr_lo hn hj, ho']; rfl) he
      · exact absurd (by have := b3.2 _ r hr; rw [← he] at this; exact this) (lo i o hi ho).2
      · exact absurd (by have := b3.2 _ q hq; rw [he] at this; exact this) (lo j o' hj ho').2
      · have := b3.1 _ _ q r hq hr he
        omega, fun i q hq => by
      rcases adr i q hq with ⟨hi, o, ho, rfl⟩ | ⟨hi, hq⟩
      · exact hD.2 i (ad i, xo tc ad o) (by rw [fr_lo hn hi, ho]; rfl)
      · exact hF _ (b3.2 _ q hq)⟩ hS1
  have es : [Value.ref n].map (xv (fun i => if i < n then ad i else u (i - n))) = [Value.ref 0].map (xv (fun k => ad (n + k))) := by
    show [Value.ref (if n < n then ad n else u (n - n))] = [Value.ref (ad (n + 0))]
    rw [if_neg (by omega), Nat.sub_self, hu0]
    rfl
  dsimp only at kk
  rw [es] at kk
  exact kk
section IN
variable {p : Program} {l : Launch} {e : Env} {R : Room} {s : State} {m : MethodId} {args : Array Value} {below : List Frame} {meth : Method} {c : Code} {own : String} {cc : ByteArray} {D : va_G} {tc : Nat → ClassId} {nL n0 : Nat} {ad0 : Nat → Nat} {A : Nat → Prop} {Q : State → Prop} {rt : Option FieldType} {pc : Nat}
theorem z_new {k ci N n c1 s1 : Nat} {fs : List Value} {os : List xO} {L : List (Option Value)} {st : List Value} (hC : xCx p s m args meth c own cc nL D tc A n0 false rt) (hw : xNwOk own k ci N fs) (hdec : decode cc pc = .ok (.new k, 3)) (hlen : os.length = n) (k1 : os.all (xokO n) = true) (k2 : xokL n L = true) (k3 : st.all (xokV n) = true) (hn0 : n0 ≤ n) (hc1 : c1 + 1 ≤ R.cells) (hs1 : s1 + N ≤ R.slots)
    (hq : xZ p l e R s m args below meth c D tc nL n0 ad0 A 0 0 Q (pc + 3, L, .ref n :: st, (os ++ [.inr (ci, fs)], c1 + 1, s1 + N))) : xZ p l e R s m args below meth c D tc nL n0 ad0 A 0 0 Q (pc, L, st, (os, c1, s1)) := by
  obtain ⟨hx, hb, hml, hown, hts, hnw, hlk, hK, hA, hEx, hin, -⟩ := hC
  obtain ⟨C, T, ty, a1, a2, a3, a4, a5, a6, a7⟩ := hw
  subst hlen
  intro ad ls H locs ha hab hn hL hl hP hD hS
  dsimp only at hn hL hl hP hD ⊢
  refine va_new (ci := ci) (fs := fs) hx hb hts (xcl_ok ci _ a1).1 ty a2 hown (hts _ a5) (hts _ a6) (hts _ a7) hK hP hD hS hA a1 a3 (by omega) (by omega) hdec (fun q H1 hP1 hD1 hS1 => ?_)
  have e4 : ∀ ad', fs.map (xv ad') = fs := fun ad' => by
    conv => rhs; rw [← List.map_id fs]
    exact List.map_congr_left (fun v hv => a4 v hv ad')
  have kk := hq (fun j => if j = os.length then q else ad j) ls H1 locs (fun k hk => (if_neg (by omega)).trans (ha k hk)) (fun h9 => absurd h9 (by simp; omega)) (by simp; omega) hL (xad_L (n := os.length) (fun j hj => by simp; omega) k2 hl) (xad_P k1 (fun ad' => by show Sum.inr (ci, fs.map (xv ad')) = Sum.inr (ci, fs.map (xv ad)); rw [e4, e4]) (by show va_P D vwCl (xw tc ad os ++ [(q, Sum.inr (ci, fs.map (xv ad)))]) H1; rw [e4]; exact hP1)) (xad_D (by show va_D A (xw tc ad os ++ [(q, Sum.inr (ci, fs.map (xv ad)))]); rw [e4]; exact hD1)) hS1
  dsimp only at kk
  rw [List.map_cons, xad_S (n := os.length) (ad := ad) (fun j hj => by simp; omega) k3, show xv (fun j => if j = os.length then q else ad j) (.ref os.length) = .ref q by simp [xv], show c1 + 1 - 0 = c1 - 0 + 1 by omega, show s1 + N - 0 = s1 - 0 + N by omega] at kk
  exact kk
theorem xT_long : Cond.arrayClass .long ∈ xT := xTm (by decide +kernel)
theorem z_newl {n c1 s1 : Nat} {os : List xO} {L : List (Option Value)} {st : List Value} (hC : xCx p s m args meth c own cc nL D tc A n0 false rt) (hdec : decode cc pc = .ok (.newarray .long, 2)) (hlen : os.length = n) (k1 : os.all (xokO n) = true) (k2 : xokL n L = true) (k3 : st.all (xokV n) = true) (hn0 : n0 ≤ n) (hc1 : c1 + 1 ≤ R.cells) (hs1 : s1 + 1 ≤ R.slots)
    (hq : xZ p l e R s m args below meth c D tc nL n0 ad0 A 0 0 Q (pc + 2, L, .ref n :: st, (os ++ [.inl (3, 1, .inr (.inl (fun _ => 0)))], c1 + 1, s1 + 1))) : xZ p l e R s m args below meth c D tc nL n0 ad0 A 0 0 Q (pc, L, .int 1 :: st, (os, c1, s1)) := by
  obtain ⟨hx, hb, hml, hown, hts, hnw, hlk, hK, hA, hEx, hin, -⟩ := hC
  subst hlen
  intro ad ls H locs ha hab hn hL hl hP hD hS
  dsimp only at hn hL hl hP hD ⊢
  refine va_newa (atype := .long) (ty := .long) (N' := 1) (a0 := (1, .inr (.inl (fun _ => 0)))) hx hb (hts (.arrayClass .long) xT_long) rfl hK hP hD hS hA (fun cA => rfl) (by decide) (by decide) (by decide) (by omega) (by omega) hdec (fun q cA H1 hK1 hP1 hD1 hS1 => ?_)
  have ecA : cA = tc 3 := xcA (t := 3) hK1 rfl
  subst ecA
  have kk := hq (fun j => if j = os.length then q else ad j) ls H1 locs (fun k hk => (if_neg (by omega)).trans (ha k hk)) (fun h9 => absurd h9 (by simp; omega)) (by simp; omega) hL (xad_L (n := os.length) (fun j hj => by simp; omega) k2 hl) (xad_P k1 (fun ad' => rfl) hP1) (xad_D hD1) hS1
  dsimp only at kk
  rw [List.map_cons, xad_S (n := os.length) (ad := ad) (fun j hj => by simp; omega) k3, show xv (fun j => if j = os.length then q else ad j) (.ref os.length) = .ref q by simp [xv], show c1 + 1 - 0 = c1 - 0 + 1 by omega, show s1 + 1 - 0 = s1 - 0 + 1 by omega] at kk
  exact kk
end IN
