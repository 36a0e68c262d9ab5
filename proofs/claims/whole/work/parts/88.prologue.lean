/-! THE LAW'S PROLOGUE: what the constructors make, each in a heap of its own -/
def i_r11 : Option xS := ivd (xfn iE_X11 (ylk il_X11) 2 500 [.ref 0] ([.inr (10, [.null, .null, .null, .int 0, .null, .null, .null, .null])], 0, 0))
def i_r12 : Option xS := ivd (xfn iE_X12 (ylk il_X12) 1 500 [.ref 0] ([.inr (11, [.null, .null, .null, .null, .int 0, .int 0, .int 0, .int 0, .null, .null, .int 0, .null, .null, .null, .null, .null, .null, .int 0])], 0, 0))
def i_h11 : xS := (i_r11).getD ([], 0, 0)
def i_h12 : xS := (i_r12).getD ([], 0, 0)
theorem i_getD {r : Option xS} (h : r.isSome = true) : r = some (r.getD ([], 0, 0)) := by
  cases r with
  | none => cases h
  | some x => rfl
theorem i_e11 : i_r11 = some i_h11 := i_getD (by decide +kernel)
theorem i_e12 : i_r12 = some i_h12 := i_getD (by decide +kernel)
theorem i_c11 : i_h11.2 = (77, 2029) ∧ i_h11.1.length = 78 := by decide +kernel
theorem i_c12 : i_h12.2 = (12, 2000) ∧ i_h12.1.length = 13 := by decide +kernel
/-- places moved up -/
def shv (n : Nat) : Value → Value
  | .ref k => .ref (n + k)
  | v => v
def sh (n : Nat) : xO → xO
  | .inl (t, k, .inr (.inr g)) => .inl (t, k, .inr (.inr (fun i => (g i).map (fun j => n + j))))
  | .inl q => .inl q
  | .inr (ci, fs) => .inr (ci, fs.map (shv n))
theorem xo_sh (tc : Nat → ClassId) (ad : Nat → Nat) (n : Nat) (o : xO) : xo tc ad (sh n o) = xo tc (fun k => ad (n + k)) o := by
  rcases o with ⟨t, k, f | f | g⟩ | ⟨ci, fs⟩
  · rfl
  · rfl
  · have e : (fun i => ((g i).map (fun j => n + j)).map ad) = (fun i => (g i).map (fun k => ad (n + k))) := by
      funext i
      cases g i <;> rfl
    show (Sum.inl (tc t, k, .inr (.inr (.inr (.inr (fun i => ((g i).map (fun j => n + j)).map ad))))) : va_E) = .inl (tc t, k, .inr (.inr (.inr (.inr (fun i => (g i).map (fun k => ad (n + k)))))))
    rw [e]
  · have e : (fs.map (shv n)).map (xv ad) = fs.map (xv (fun k => ad (n + k))) := by
      rw [List.map_map]
      apply List.map_congr_left
      intro v _
      cases v <;> rfl
    show (Sum.inr (ci, (fs.map (shv n)).map (xv ad)) : va_E) = .inr (ci, fs.map (xv (fun k => ad (n + k))))
    rw [e]
theorem fr_hi {n : Nat} {Pf C : List xO} (hn : Pf.length = n) (i : Nat) : (Pf ++ C.map (sh n))[n + i]? = (C[i]?).map (sh n) := by
  rw [List.getElem?_append_right (by omega), List.getElem?_map, show n + i - Pf.length = i by omega]
theorem fr_lo {n : Nat} {Pf X : List xO} (hn : Pf.length = n) {i : Nat} (hi : i < n) : (Pf ++ X)[i]? = Pf[i]? := by
  rw [List.getElem?_append_left (by omega)]
theorem fr_any {n : Nat} {Pf C : List xO} (hn : Pf.length = n) {i : Nat} {o : xO} (h : (Pf ++ C.map (sh n))[i]? = some o) : (i < n ∧ Pf[i]? = some o) ∨ ∃ k o', i = n + k ∧ C[k]? = some o' ∧ o = sh n o' := by
  by_cases hi : i < n
  · rw [fr_lo hn hi] at h
    exact Or.inl ⟨hi, h⟩
  · obtain ⟨k, rfl⟩ := Nat.exists_eq_add_of_le (Nat.not_lt.mp hi)
    rw [fr_hi hn] at h
    obtain ⟨o', h1, h2⟩ := Option.map_eq_some_iff.mp h
    exact Or.inr ⟨k, o', rfl, h1, h2.symm⟩
theorem xsc_sh (n : Nat) (o : xO) : xsc (sh n o) = xsc o := by
  rcases o with ⟨t, k, f | f | g⟩ | ⟨ci, fs⟩ <;> rfl
theorem at_kept {D : va_G} {q : Nat × va_E} {H H1 : Heap} (h : va_at D vwCl q H) (e : H1[q.1]? = H[q.1]?) : va_at D vwCl q H1 := by
  obtain ⟨a, b | b⟩ := q
  · exact e.trans h
  · obtain ⟨r, h1, h2⟩ := h
    exact ⟨r, h1, h2.kept e⟩
theorem at_in {D : va_G} {q : Nat × va_E} {H : Heap} (h : va_at D vwCl q H) : q.1 < H.size := by
  obtain ⟨a, b | b⟩ := q
  · exact (Array.getElem?_eq_some_iff.mp h).1
  · obtain ⟨r, h1, cell, h2, -⟩ := h
    exact (Array.getElem?_eq_some_iff.mp h2).1
/-- a constructor's call whose run is known in a heap of its own -/
theorem i_call {p : Program} {l : Launch} {e : Env} {R : Room} {s : State} {m : MethodId} {args : Array Value} {below : List Frame} {meth : Method} {c : Code} {own : String} {cc : ByteArray} {D : va_G} {tc : Nat → ClassId} {nL n0 : Nat} {ad0 : Nat → Nat} {A : Nat → Prop} {Q : State → Prop} {rt : Option FieldType} {d key pc : Nat} {C C1 : List xO} {c1 s1 c2 s2 : Nat}
    (hc : xCallee l own d key [.ref 0] (C, c1, s1) none (C1, c2, s2)) (hC0 : 0 < C.length) (hC9 : C1.all (fun o => !xsc o) = true) (hC : xCx p s m args meth c own cc nL D tc A n0 false rt) (hd1 : d ≤ R.frames) (hd2 : 40 * d ≤ R.locals) (hdec : decode cc pc = .ok (xiv key, 3)) {Pf : List xO} {n : Nat} (hn : Pf.length = n) (hn0 : n0 ≤ n) (hrf : Pf.all (xokO n) = true) {L : List (Option Value)} (hL : xokL n L = true) {k j : Nat} (hk : k + (c2 - c1) ≤ R.cells) (hj : j + (s2 - s1) ≤ R.slots)
    (hz : xZ p l e R s m args below meth c D tc nL n0 ad0 A 0 0 Q (pc + 3, L, [.ref n], (Pf ++ C1.map (sh n), k + (c2 - c1), j + (s2 - s1)))) : xZ p l e R s m args below meth c D tc nL n0 ad0 A 0 0 Q (pc, L, [.ref n, .ref n], (Pf ++ C.map (sh n), k, j)) := by
  intro ad ls H locs ha hab hn1 hLl hl hP hD hS
  dsimp only at hab hn1 hLl hl hP hD ⊢
  have pP := xw_P.mp hP
  have pD := xw_D.mp hD.1
  have up : ∀ {i : Nat} {o : xO}, C[i]? = some o → (Pf ++ C.map (sh n))[n + i]? = some (sh n o) := fun {i o} h => by rw [fr_hi hn, h]; rfl
  have hPc : va_P D vwCl (xw tc (fun k => ad (n + k)) C) H := xw_P.mpr fun i o ho hs => by
    have := pP (n + i) (sh n o) (up ho) ((xsc_sh n o).trans hs)
    rw [xo_sh] at this
    exact this
  have hDc0 : va_D A (xw tc (fun k => ad (n + k)) C) := xw_D.mpr ⟨fun i j o o' h1 h2 h3 h4 he => by
      have := pD.1 (n + i) (n + j) (sh n o) (sh n o') (up h1) ((xsc_sh n o).trans h2) (up h3) ((xsc_sh n o').trans h4) he
      omega, fun i o h1 h2 => pD.2 (n + i) (sh n o) (up h1) ((xsc_sh n o).trans h2)⟩
  have hDc : xD s A tc (fun k => ad (n + k)) C := ⟨hDc0, fun i k f ho => hD.2 (n + i) k f (up ho)⟩
  have hrun := hc p e R s m args below meth c cc D tc nL n0 A false rt pc (fun k => ad (n + k)) ls H locs (k - 0) (j - 0) [.ref 0] hC hd1 hd2 hdec rfl hl.1 hPc hDc hS (by show k - 0 + (c2 - c1) ≤ _; omega) (by show j - 0 + (s2 - s1) ≤ _; omega)
  have hA := hC.2.2.2.2.2.2.2.2.1
  have hF : ∀ q, va_A (xw tc (fun k => ad (n + k)) C) H.size q → A q := by
    intro q hq
    rcases hq with ⟨k, ee, hk⟩ | hq
    · exact hDc0.2 k _ hk
    · exact hA q (Nat.le_trans hS.1 hq)
  have lo : ∀ (i : Nat) (o : xO), i < n → Pf[i]? = some o → xsc o = false → ad i < H.size ∧ ¬ va_A (xw tc (fun k => ad (n + k)) C) H.size (ad i) := by
    intro i o hi ho hs
    have h1 := at_in (pP i o ((fr_lo hn hi).trans ho) hs)
    refine ⟨h1, fun h => ?_⟩
    rcases h with ⟨k, ee, hk⟩ | h
    · obtain ⟨a, o', g1, g2, g3, -⟩ := xw_inv hk
      have := pD.1 i (n + a) o (sh n o') ((fr_lo hn hi).trans ho) hs (up g1) ((xsc_sh n o').trans g2) (Prod.mk.inj g3).1
      omega
    · exact absurd h (Nat.not_le.mpr h1)
  refine va_callv (a := ([Value.ref 0].map (xv (fun k => ad (n + k)))).toArray) hrun hS (fun q _ hq => hF q hq) hF (fun u t H1 locs1 ht hvm hp hB hz1 hk1 hS1 => ?_)
  obtain ⟨a1, a2, a3⟩ := hp
  obtain ⟨b1, b2, b3⟩ := hB
  rw [ht] at b1
  dsimp only at a1 a2 a3 b1 b3
  obtain ⟨ad', had'⟩ : ∃ ad' : Nat → Nat, ad' = fun i => if i < n then ad i else u (i - n) := ⟨_, rfl⟩
  have e1 : ∀ i, i < n → ad' i = ad i := fun i hi => by rw [had']; exact if_pos hi
  have e3 : ∀ k, ad' (n + k) = u k := fun k => by
    rw [had']
    show (if n + k < n then ad (n + k) else u (n + k - n)) = u k
    rw [if_neg (by omega), show n + k - n = k by omega]
  have e2 : (fun k => ad' (n + k)) = u := funext e3
  have hu0 : u 0 = ad n := a1 0 hC0
  have qP := xw_P.mp b1
  have qD := xw_D.mp b3
  have kk := hz ad' ls H1 locs1 (fun i hi => (e1 i (by omega)).trans (ha i hi)) (fun h9 => absurd h9 (by simp only [List.length_append, List.length_map]; omega)) (by simp only [List.length_append, List.length_map]; omega) hLl (xad_L e1 hL hl) (xw_P.mpr fun i o hq hs => by
      rcases fr_any hn hq with ⟨hi, ho⟩ | ⟨k, o', rfl, ho, rfl⟩
      · rw [e1 i hi]
        have h3 := lo i o hi ho hs
        exact at_kept (H := H) (xad_O (n := n) (ad := ad) e1 (List.all_eq_true.mp hrf o (List.mem_of_getElem? ho)) (pP i o ((fr_lo hn hi).trans ho) hs)) (hk1 _ h3.1 h3.2)
      · rw [e3, xo_sh, e2]
        exact qP k o' ho ((xsc_sh n o').symm.trans hs)) ⟨xw_D.mpr ⟨fun i j o o' hq hs hr hs' he => by
      rcases fr_any hn hq with ⟨hi, ho⟩ | ⟨k, o1, rfl, ho, rfl⟩ <;> rcases fr_any hn hr with ⟨hj, ho'⟩ | ⟨k', o2, rfl, ho', rfl⟩
      · rw [e1 i hi, e1 j hj] at he
        exact pD.1 i j o o' ((fr_lo hn hi).trans ho) hs ((fr_lo hn hj).trans ho') hs' he
      · rw [e1 i hi, e3] at he
        exact absurd (by have := qD.2 k' o2 ho' ((xsc_sh n o2).symm.trans hs'); rw [← he] at this; exact this) (lo i o hi ho hs).2
      · rw [e1 j hj, e3] at he
        exact absurd (by have := qD.2 k o1 ho ((xsc_sh n o1).symm.trans hs); rw [he] at this; exact this) (lo j o' hj ho' hs').2
      · rw [e3, e3] at he
        have := qD.1 k k' o1 o2 ho ((xsc_sh n o1).symm.trans hs) ho' ((xsc_sh n o2).symm.trans hs') he
        omega, fun i o hq hs => by
      rcases fr_any hn hq with ⟨hi, ho⟩ | ⟨k, o1, rfl, ho, rfl⟩
      · rw [e1 i hi]
        exact pD.2 i o ((fr_lo hn hi).trans ho) hs
      · rw [e3]
        exact hF _ (qD.2 k o1 ho ((xsc_sh n o1).symm.trans hs))⟩, fun i k f hq => by
      rcases fr_any hn hq with ⟨hi, ho⟩ | ⟨k', o1, rfl, ho, he⟩
      · rw [e1 i hi]
        exact hD.2 i k f ((fr_lo hn hi).trans ho)
      · have h4 := List.all_eq_true.mp hC9 o1 (List.mem_of_getElem? ho)
        rw [← xsc_sh n o1, ← he] at h4
        cases h4⟩ hS1
  have es : [Value.ref n].map (xv ad') = [Value.ref 0].map (xv (fun k => ad (n + k))) := by
    show [Value.ref (ad' (n + 0))] = [Value.ref (ad (n + 0))]
    rw [e3, hu0]
    rfl
  dsimp only at kk
  rw [es] at kk
  exact kk
section IN
variable {p : Program} {l : Launch} {e : Env} {R : Room} {s : State} {m : MethodId} {args : Array Value} {below : List Frame} {meth : Method} {c : Code} {own : String} {cc : ByteArray} {D : va_G} {tc : Nat → ClassId} {nL n0 : Nat} {ad0 : Nat → Nat} {A : Nat → Prop} {Q : State → Prop} {rt : Option FieldType} {pc : Nat}
theorem z_new {k ci N n c1 s1 : Nat} {fs : List Value} {os : List xO} {L : List (Option Value)} {st : List Value} (hC : xCx p s m args meth c own cc nL D tc A n0 false rt) (hw : xNwOk own k ci N fs) (hdec : decode cc pc = .ok (.new k, 3)) (hlen : os.length = n) (k1 : os.all (xokO n) = true) (k2 : xokL n L = true) (k3 : st.all (xokV n) = true) (hn0 : n0 ≤ n) (hc1 : c1 + 1 ≤ R.cells) (hs1 : s1 + N ≤ R.slots)
    (hq : xZ p l e R s m args below meth c D tc nL n0 ad0 A 0 0 Q (pc + 3, L, .ref n :: st, (os ++ [.inr (ci, fs)], c1 + 1, s1 + N))) : xZ p l e R s m args below meth c D tc nL n0 ad0 A 0 0 Q (pc, L, st, (os, c1, s1)) := by
  obtain ⟨hx, hb, hml, hown, hts, hnw, hlk, hK, hA, hEx, hin, -⟩ := hC
  obtain ⟨C, T, ty, a1, a2, a3, a4, a5, a6, a7⟩ := hw
  subst hlen
  intro ad ls H locs ha hab hn hL hl hP hD hS
  dsimp only at hn hL hl hP hD ⊢
  refine va_new (ci := ci) (fs := fs) hx hb hts (xcl_ok ci _ a1).1 ty a2 hown (hts _ a5) (hts _ a6) (hts _ a7) hK hP hD.1 hS hA a1 a3 (by omega) (by omega) hdec (fun q H1 hP1 hD1 hS1 => ?_)
  have e4 : ∀ ad', fs.map (xv ad') = fs := fun ad' => by
    conv => rhs; rw [← List.map_id fs]
    exact List.map_congr_left (fun v hv => a4 v hv ad')
  have kk := hq (fun j => if j = os.length then q else ad j) ls H1 locs (fun k hk => (if_neg (by omega)).trans (ha k hk)) (fun h9 => absurd h9 (by simp; omega)) (by simp; omega) hL (xad_L (n := os.length) (fun j hj => by simp; omega) k2 hl) (xad_P k1 (fun ad' => by show Sum.inr (ci, fs.map (xv ad')) = Sum.inr (ci, fs.map (xv ad)); rw [e4, e4]) (by show va_P D vwCl (xw tc ad os ++ [(q, Sum.inr (ci, fs.map (xv ad)))]) H1; rw [e4]; exact hP1)) (xad_D rfl hD (by show va_D A (xw tc ad os ++ [(q, Sum.inr (ci, fs.map (xv ad)))]); rw [e4]; exact hD1)) hS1
  dsimp only at kk
  rw [List.map_cons, xad_S (n := os.length) (ad := ad) (fun j hj => by simp; omega) k3, show xv (fun j => if j = os.length then q else ad j) (.ref os.length) = .ref q by simp [xv], show c1 + 1 - 0 = c1 - 0 + 1 by omega, show s1 + N - 0 = s1 - 0 + N by omega] at kk
  exact kk
theorem xT_long : Cond.arrayClass .long ∈ xT := xTm (by decide +kernel)
theorem z_newl {n c1 s1 : Nat} {os : List xO} {L : List (Option Value)} {st : List Value} (hC : xCx p s m args meth c own cc nL D tc A n0 false rt) (hdec : decode cc pc = .ok (.newarray .long, 2)) (hlen : os.length = n) (k1 : os.all (xokO n) = true) (k2 : xokL n L = true) (k3 : st.all (xokV n) = true) (hn0 : n0 ≤ n) (hc1 : c1 + 1 ≤ R.cells) (hs1 : s1 + 1 ≤ R.slots)
    (hq : xZ p l e R s m args below meth c D tc nL n0 ad0 A 0 0 Q (pc + 2, L, .ref n :: st, (os ++ [.inl (3, 1, .inr (.inl (fun _ => 0)))], c1 + 1, s1 + 1))) : xZ p l e R s m args below meth c D tc nL n0 ad0 A 0 0 Q (pc, L, .int 1 :: st, (os, c1, s1)) := by
  obtain ⟨hx, hb, hml, hown, hts, hnw, hlk, hK, hA, hEx, hin, -⟩ := hC
  subst hlen
  intro ad ls H locs ha hab hn hL hl hP hD hS
  dsimp only at hn hL hl hP hD ⊢
  refine va_newa (atype := .long) (ty := .long) (N' := 1) (a0 := (1, .inr (.inl (fun _ => 0)))) hx hb (hts (.arrayClass .long) xT_long) rfl hK hP hD.1 hS hA (fun cA => rfl) (by decide) (by decide) (by decide) (by omega) (by omega) hdec (fun q cA H1 hK1 hP1 hD1 hS1 => ?_)
  have ecA : cA = tc 3 := xcA (t := 3) hK1 rfl
  subst ecA
  have kk := hq (fun j => if j = os.length then q else ad j) ls H1 locs (fun k hk => (if_neg (by omega)).trans (ha k hk)) (fun h9 => absurd h9 (by simp; omega)) (by simp; omega) hL (xad_L (n := os.length) (fun j hj => by simp; omega) k2 hl) (xad_P k1 (fun ad' => rfl) hP1) (xad_D rfl hD hD1) hS1
  dsimp only at kk
  rw [List.map_cons, xad_S (n := os.length) (ad := ad) (fun j hj => by simp; omega) k3, show xv (fun j => if j = os.length then q else ad j) (.ref os.length) = .ref q by simp [xv], show c1 + 1 - 0 = c1 - 0 + 1 by omega, show s1 + 1 - 0 = s1 - 0 + 1 by omega] at kk
  exact kk
end IN
