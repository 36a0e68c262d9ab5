/-! the law's own look at an element -/
def cl_LE : List (Nat × Instr) := [(0, .aload_n 3), (1, .iconst 0), (2, .aload_n 0), (3, .iload_n 1), (4, .iload_n 2), (5, .invokevirtual 7), (9, .goto 11), (14, .iconst 1), (15, .ireturn), (18, .iconst 2), (19, .ireturn), (20, .iconst 0), (21, .ireturn)]
theorem dk_LE : cl_LE.all (xdecB cL_element) = true := by decide +kernel
def xEi : xEnv := (fun _ => none, fun _ => none, fun _ => none, fun _ => none, fun _ => none, false, some .int)
theorem xEi_ok {l : Launch} {own : String} {d : Nat} : xEOk l own d xEi := ⟨fun _ _ _ _ _ e => (by cases e), fun _ _ e => (by cases e), fun _ _ e => (by cases e), fun _ _ _ _ e => (by cases e), fun _ _ _ _ e => (by cases e), fun _ _ e => (by cases e)⟩
theorem yw_EL : xYw yX11_element cX11_element 3 (some .long) 2 := ⟨xTm (by decide +kernel), xTm (by decide +kernel), by decide +kernel, by decide +kernel, by decide +kernel, by omega⟩
theorem le_w1 : Cond.methodLink RL 7 yX11_element ∈ xT := xTm (by decide +kernel)
theorem le_w2 : Cond.instanceMethod yX11_element ∈ xT := xTm (by decide +kernel)
theorem le_w3 : Cond.selects yX11_element.cls yX11_element yX11_element ∈ xT := xTm (by decide +kernel)
section LE
variable {l : Launch} {d : Nat} {x y : Int32} {h : xS} {fs : List Value}
theorem le_T (hc : h.1[1]? = some (.inr (10, fs))) {cls : String} (hT : FT l yX11_element cX11_element 3 (some .long) (d + 20) [.ref 1, .int x, .int y] h cls) (pre suf : List ExceptionTableEntry) (z : ExceptionTableEntry) (hsplit : tableOf hhE = pre ++ z :: suf) (hx2 : covers z 5 = true) (hx0 : z.catchType ≠ 0) (hpass : ∀ z ∈ pre, z.catchType ≠ 0 ∧ ∃ nm, Cond.classLink RL z.catchType nm ∈ xT ∧ (cls, nm) ∈ xNcl) (hlink : Cond.classLink RL z.catchType cls ∈ xT) (hcast : Cond.castable cls cls ∈ xNW) (hast : decode cL_element z.handlerPc = .ok (.astore 4, 2)) {v : Int32} (hrun : xrun xEi (ylk cl_LE) 2 (z.handlerPc + 2, [some (.ref 1), some (.int x), some (.int y), some (.ref 92), none], [], zfg h) = some (some (.int v), zfg h)) : xMetW l yL_element cL_element 5 (some .int) hhE (d + 1 + 20) [.ref 1, .int x, .int y, .ref 92] h (some (.int v)) (zfg h) := by
  intro D tc ad sz
  refine met_ofWH (cc := cL_element) (maxL := 5) (ret := some .int) (by decide +kernel) rfl ?_
  intro p e s m args below meth c s₁ B hml hv
  obtain ⟨rfl, hsz, hP, hK, hD0, hnw, hEx, hSC⟩ := hv
  subst hsz
  have hts := atoms_spec (ws := Cond.codeWith yL_element cL_element 5 (some .int) hhE :: xT) B.pre
  have htab := vx_table (x := yL_element) B (hts _ List.mem_cons_self)
  have hts' : ∀ w ∈ xT, w.before ([Value.ref 1, .int x, .int y, .ref 92].map (xv ad)).toArray s = true := fun w hw => hts w (List.mem_cons_of_mem _ hw)
  have hown : s.vm.findClass RL = some m.cls := findClass_of_methodNamed B.named
  have hA : ∀ q : Nat, s.heap.size ≤ q → va_A (xw tc ad h.1) s.heap.size q := fun q h => Or.inr h
  have hC : xCx p s m ([Value.ref 1, .int x, .int y, .ref 92].map (xv ad)).toArray meth c RL cL_element 5 D tc (va_A (xw tc ad h.1) s.heap.size) h.1.length false (some .int) :=
    ⟨B.exec, B.bytes, hml, hown, hts', hnw, B.notSynchronized, hK, hA, hEx, fun hi => absurd hi (fun z => by cases z), B.returns⟩
  have hl2 := lv_entry ([Value.ref 1, .int x, .int y, .ref 92].map (xv ad)) (n := 5) (by rw [xfl_len]; show 4 ≤ 5; omega)
  rw [lg_entry_eq]
  generalize (lg_sl ([Value.ref 1, .int x, .int y, .ref 92].map (xv ad)) ++ List.replicate (5 - (lg_sl ([Value.ref 1, .int x, .int y, .ref 92].map (xv ad))).length) Slot.unset).toArray = ls0 at hl2 ⊢
  have hi : xis h 1 10 = true := by unfold xis; rw [hc]; simp
  have hZ := (xpath_ok (E := xEi) (d := d + 21) (l := l) (e := e) (R := xrm (d + 1 + 20) h (zfg h)) (below := below) (ad0 := ad) (c0 := h.2.1) (s0 := h.2.2) (q' := (5, [some (.ref 1), some (.int x), some (.int y), some (.ref 92), none], [.int y, .int x, .ref 1, .int 0, .ref 92], h)) (Q := MQ below (xQ D tc ad h.1.length (va_A (xw tc ad h.1) s.heap.size) (zfg h) (some (.int v))) ([Value.ref 1, .int x, .int y, .ref 92].map (xv ad)).toArray s ((zfg h).2.1 - h.2.1) ((zfg h).2.2 - h.2.2) (va_A (xw tc ad h.1) s.heap.size)) hC xcl_ok xEi_ok (by show d + 21 ≤ d + 1 + 20; omega) (by show 40 * (d + 21) ≤ 40 * (d + 1 + 20); omega) (xcd_of dk_LE) 5 (0, xent [.ref 1, .int x, .int y, .ref 92] 5, [], h) rfl).2 (Nat.le_refl _) (Nat.le_refl _) (by show h.2.1 - h.2.1 ≤ _; omega) (by show h.2.2 - h.2.2 ≤ _; omega) (by
    intro ad' ls H locs ha hab hn0 hL hls hP' hD' hS
    have had : ad' = ad := hab rfl
    subst had
    dsimp only at hL hls hP' hD' hS ⊢
    have hF := xFr (h := h) hD' hA hS
    obtain ⟨w1, w2, w3, w4, w5, w6⟩ := yw_EL
    have hr := vx_runV (C := RX11) (b := ad' 1) (As := [Value.int x, .int y]) (rest := [.int 0, .ref (ad' 92)]) (g := F0 m 5 ls [.int y, .int x, .ref (ad' 1), .int 0, .ref (ad' 92)]) (locs := locs) (cells := h.2.1 - h.2.1) (slots := h.2.2 - h.2.2) (l := l) (e := e) (below := below) (meth := meth) (R := xrm (d + 1 + 20) h (zfg h)) ⟨B.exec, B.bytes, hml, hown, hts'⟩ (hT D tc ad' H.size (va_Ql (S := Unit) (fun _ _ => False) (fun _ _ => True) (fun _ => False))) ⟨callB_of [Value.int x, .int y].length hts' (xgood w1) rfl rfl rfl (hts' _ w2) (hts' _ le_w1) ⟨w3, w4, w5⟩ ⟨by show d + 20 + 1 ≤ d + 1 + 20; omega, by show 8 + (3 + 11) + 40 * (d + 20) ≤ 40 * (d + 1 + 20); omega⟩, hts' _ le_w2, hts' _ le_w3⟩ ⟨xblind, xk_recv (q := (RX11, _, _)) hK hP' rfl hi, xpre hK hnw hA hEx hS hP' hD'⟩ rfl rfl hls.1 rfl (lv_room (by show 2 ≤ 8; omega)) (by show decode cL_element 5 = _; decide +kernel) ⟨by show h.2.1 - h.2.1 + 1 ≤ h.2.1 + 1 - h.2.1; omega, by show h.2.2 - h.2.2 + 8 ≤ h.2.2 + 8 - h.2.2; omega⟩
    refine vx_calll (SX := Unit) hr hS (fun _ _ hq => hq.elim) hF (fun q _ hq => hF q hq) (fun E ce q9 u t H1 locs1 ht hvm hp hB hz1 hk1 hS1 hce hcv hcl => ?_) (fun r u t H1 locs1 ht hvm hp hB hz1 hk1 hS1 => hp.elim)
    obtain ⟨rfl, hP1⟩ := hB
    rw [ht] at hP1
    refine vx_catch hown pre z suf (htab.trans hsplit) (fun z hz => Or.inr ⟨(hpass z hz).1, ?_⟩) hx2 hx0 (hts' _ hlink) (va_Nw.use rfl (hnw _ hcast)) hce hcv hcl ?_
    · obtain ⟨nm, n1, n2⟩ := (hpass z hz).2
      exact ⟨nm, hts' _ n1, hEx.2.2.2 _ n2⟩
    · refine lv_astore B.exec B.bytes hast hls (by omega) rfl (fun ls' h' => ?_)
      have hend := (xrun_ok (E := xEi) (d := d + 21) (l := l) (e := e) (R := xrm (d + 1 + 20) h (zfg h)) (below := below) (ad0 := ad') (c0 := h.2.1) (s0 := h.2.2) hC xcl_ok xEi_ok (by show d + 21 ≤ d + 1 + 20; omega) (by show 40 * (d + 21) ≤ 40 * (d + 1 + 20); omega) (xcd_of dk_LE) 2 _ hrun).2.2 (by show h.2.1 ≤ h.2.1 + 1; omega) (by show h.2.2 ≤ h.2.2 + 8; omega) (Nat.le_refl _) (Nat.le_refl _)
      have := hend ad' ls' H1 locs1 (fun _ _ => rfl) (fun _ => rfl) (Nat.le_refl _) rfl ⟨h'.1, h'.2.1, fun q hq => h'.2.2 q (List.mem_cons_of_mem _ hq)⟩ hP1 hD' hS1
      dsimp only at this
      have e1 : h.2.1 - h.2.1 + 1 = (zfg h).2.1 - h.2.1 := by show _ = h.2.1 + 1 - h.2.1; omega
      have e2 : h.2.2 - h.2.2 + 8 = (zfg h).2.2 - h.2.2 := by show _ = h.2.2 + 8 - h.2.2; omega
      rw [e1, e2]
      exact this)
  have := hZ ad ls0 s.heap [] (fun _ _ => rfl) (fun _ => rfl) (Nat.le_refl _) (xent_len (vs := [Value.ref 1, .int x, .int y, .ref 92]) (by show 4 ≤ 5; omega)) (xent_has hl2) hP ⟨hD0.self, hSC⟩ va_S.rf
  dsimp only at this
  rw [Nat.sub_self, Nat.sub_self] at this
  exact this
noncomputable def leF (x y : Int32) (h : xS) (v : Int64) : xF := .inr (.inr (fun vs h' => @ite _ (vs = [.ref 1, .int x, .int y] ∧ h' = h) (Classical.propDecidable _) (some (v, h)) none))
noncomputable def leE (x y : Int32) (h : xS) (v : Int64) : xEnv := (fun _ => none, fun _ => none, fun key => if key = 21 then some (3, false, leF x y h v) else none, fun _ => none, fun _ => none, false, some .int)
theorem leE_ok (hc : h.1[1]? = some (.inr (10, fs))) {v : Int64} (hM : xMet l yX11_element cX11_element 3 (some .long) (d + 20) [.ref 1, .int x, .int y] h (some (.long v)) h) : xEOk l RL (d + 21) (leE x y h v) := by
  have hi : xis h 1 10 = true := by unfold xis; rw [hc]; simp
  have hS : xSite l RL (d + 21) 21 3 false (leF x y h v) := by
    refine xsite (fun vs h1 pu h2 hr => ?_) (fun vs h1 pu h2 hn hr => ?_)
    · obtain ⟨r, e, -⟩ := hr
      dsimp only at e
      split at e
      · rename_i hh
        cases e
        rw [hh.2]
        exact ⟨xle_r _, xna_r _ _⟩
      · cases e
    · obtain ⟨r, e, rfl⟩ := hr
      dsimp only at e
      split at e
      · rename_i hh
        cases e
        obtain ⟨rfl, rfl⟩ := hh
        exact ⟨some (.long v), rfl, xk_V (k := 7) (q := (RX11, _, _)) hM yw_EL le_w1 le_w2 le_w3 (by omega) rfl rfl hi⟩
      · cases e
  refine ⟨fun _ _ _ _ _ e => (by cases e), fun _ _ e => (by cases e), fun _ _ e => (by cases e), fun key n b F hk => ?_, fun _ _ _ _ e => (by cases e), fun _ _ e => (by cases e)⟩
  replace hk : (if key = 21 then some (3, false, leF x y h v) else none) = some (n, b, F) := hk
  split at hk
  · rename_i hkey
    cases hk
    rw [hkey]
    exact hS
  · cases hk
theorem leE_run {v : Int64} : xblk (leE x y h v) (ylk cl_LE) (fun _ _ => (none : Option xSt)) (fun _ => false) some 6 (0, xent [.ref 1, .int x, .int y, .ref 92] 5, [], h) = some (8, [some (.ref 1), some (.int x), some (.int y), some (.ref 92), none], [.long v, .int 0, .ref 92], h) := by
  have e1 : (@ite _ ([Value.ref 1, .int x, .int y] = [Value.ref 1, .int x, .int y] ∧ h = h) (Classical.propDecidable _) (some (v, h)) none) = some (v, h) := if_pos ⟨rfl, rfl⟩
  show (Option.bind (@ite _ ([Value.ref 1, .int x, .int y] = [Value.ref 1, .int x, .int y] ∧ h = h) (Classical.propDecidable _) (some (v, h)) none) _) = _
  rw [e1]
  rfl
theorem le_N (hc : h.1[1]? = some (.inr (10, fs))) {v : Int64} (hM : xMet l yX11_element cX11_element 3 (some .long) (d + 20) [.ref 1, .int x, .int y] h (some (.long v)) h) {g : Nat → Int64} (h92 : h.1[92]? = some (.inl (3, 1, .inr (.inl g)))) : xMetW l yL_element cL_element 5 (some .int) hhE (d + 1 + 20) [.ref 1, .int x, .int y, .ref 92] h (some (.int 0)) (h.1.set 92 (.inl (3, 1, .inr (.inl (fun k => if k = 0 then v else g k)))), h.2) := by
  intro D tc ad sz
  refine met_ofWH (cc := cL_element) (maxL := 5) (ret := some .int) (by decide +kernel) rfl ?_
  intro p e s m args below meth c s₁ B hml hv
  obtain ⟨rfl, hsz, hP, hK, hD0, hnw, hEx, hSC⟩ := hv
  subst hsz
  have hts := atoms_spec (ws := Cond.codeWith yL_element cL_element 5 (some .int) hhE :: xT) B.pre
  have hts' : ∀ w ∈ xT, w.before ([Value.ref 1, .int x, .int y, .ref 92].map (xv ad)).toArray s = true := fun w hw => hts w (List.mem_cons_of_mem _ hw)
  have hown : s.vm.findClass RL = some m.cls := findClass_of_methodNamed B.named
  have hA : ∀ q : Nat, s.heap.size ≤ q → va_A (xw tc ad h.1) s.heap.size q := fun q h => Or.inr h
  have hC : xCx p s m ([Value.ref 1, .int x, .int y, .ref 92].map (xv ad)).toArray meth c RL cL_element 5 D tc (va_A (xw tc ad h.1) s.heap.size) h.1.length false (some .int) :=
    ⟨B.exec, B.bytes, hml, hown, hts', hnw, B.notSynchronized, hK, hA, hEx, fun hi => absurd hi (fun z => by cases z), B.returns⟩
  have hl2 := lv_entry ([Value.ref 1, .int x, .int y, .ref 92].map (xv ad)) (n := 5) (by rw [xfl_len]; show 4 ≤ 5; omega)
  rw [lg_entry_eq]
  generalize (lg_sl ([Value.ref 1, .int x, .int y, .ref 92].map (xv ad)) ++ List.replicate (5 - (lg_sl ([Value.ref 1, .int x, .int y, .ref 92].map (xv ad))).length) Slot.unset).toArray = ls0 at hl2 ⊢
  obtain ⟨h', hh'⟩ : ∃ h', h' = ((h.1.set 92 (.inl (3, 1, .inr (.inl (fun k => if k = 0 then v else g k)))), h.2) : xS) := ⟨_, rfl⟩
  rw [← hh']
  have hrun : xrun xEi (ylk cl_LE) 3 (9, [some (.ref 1), some (.int x), some (.int y), some (.ref 92), none], [], h') = some (some (.int 0), h') := rfl
  have e21 : h'.2.1 = h.2.1 := by rw [hh']
  have e22 : h'.2.2 = h.2.2 := by rw [hh']
  have hlen : h'.1.length = h.1.length := by rw [hh']; simp
  have hZ := (xpath_ok (E := leE x y h v) (d := d + 21) (l := l) (e := e) (R := xrm (d + 1 + 20) h h') (below := below) (ad0 := ad) (c0 := h.2.1) (s0 := h.2.2) (Q := MQ below (xQ D tc ad h.1.length (va_A (xw tc ad h.1) s.heap.size) h' (some (.int 0))) ([Value.ref 1, .int x, .int y, .ref 92].map (xv ad)).toArray s (h'.2.1 - h.2.1) (h'.2.2 - h.2.2) (va_A (xw tc ad h.1) s.heap.size)) hC xcl_ok (leE_ok hc hM) (by show d + 21 ≤ d + 1 + 20; omega) (by show 40 * (d + 21) ≤ 40 * (d + 1 + 20); omega) (xcd_of dk_LE) 6 _ leE_run).2 (Nat.le_refl _) (Nat.le_refl _) (by show h.2.1 - h.2.1 ≤ _; omega) (by show h.2.2 - h.2.2 ≤ _; omega) (by
    intro ad' ls H locs ha hab hn0 hL hls hP' hD' hS
    have had : ad' = ad := hab rfl
    subst had
    dsimp only at hL hls hP' hD' hS ⊢
    refine va_last (x := v) (i := 0) B.exec B.bytes hK hP' hD'.1 hS (xk h.1 92) 3 (cA := tc 3) (n := 1) (f := g) (xw_at h92 rfl) rfl (show ¬ ((0 : Int32) < 0 ∨ 1 ≤ (0 : Int32).toNatClampNeg) by decide) (by show decode cL_element 8 = _; decide +kernel) (fun H1 locs1 hP1 hD1 hS1 => ?_)
    have hend := (xrun_ok (E := xEi) (d := d + 21) (l := l) (e := e) (R := xrm (d + 1 + 20) h h') (below := below) (ad0 := ad') (c0 := h.2.1) (s0 := h.2.2) hC xcl_ok xEi_ok (by show d + 21 ≤ d + 1 + 20; omega) (by show 40 * (d + 21) ≤ 40 * (d + 1 + 20); omega) (xcd_of dk_LE) 3 _ hrun).2.2 (by rw [e21]; exact Nat.le_refl _) (by rw [e22]; exact Nat.le_refl _) (Nat.le_refl _) (Nat.le_refl _)
    have hP2 : va_P D vwCl (xw tc ad' h'.1) H1 := by rw [hh']; exact xsetP _ h92 rfl rfl rfl hP1
    have hD2 : xD s (va_A (xw tc ad' h.1) s.heap.size) tc ad' h'.1 := by rw [hh']; exact xsetD _ h92 rfl rfl hD' rfl hD1
    have := hend ad' ls H1 locs1 (fun _ _ => rfl) (fun _ => rfl) (by rw [hlen]; exact Nat.le_refl _) rfl hls hP2 hD2 hS1
    dsimp only at this
    rw [e21, e22] at this ⊢
    exact this)
  have := hZ ad ls0 s.heap [] (fun _ _ => rfl) (fun _ => rfl) (Nat.le_refl _) (xent_len (vs := [Value.ref 1, .int x, .int y, .ref 92]) (by show 4 ≤ 5; omega)) (xent_has hl2) hP ⟨hD0.self, hSC⟩ va_S.rf
  dsimp only at this
  rw [Nat.sub_self, Nat.sub_self] at this
  exact this
end LE
