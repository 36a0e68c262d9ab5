/-! a failure caught -/
section CF
variable {l : Launch} {d : Nat} {a ci : Nat} {f : Int32} {h : xS} {fs : List Value}
theorem zE_CF (ih : zOk l d) : xEOk l RX11 (d + 21) (zenv m_CF (zcall d)) := zE (X := m_CF) (zp_X11 l) ih
theorem cf_T (ih : zOk l d) (hc : h.1[a]? = some (.inr (ci, fs))) {y : MethodName} {cy : ByteArray} {cls : String} {qC : vw_C} (hq : vwCl[ci]? = some qC) (hT : FT l y cy 2 none 8 [.ref a, .int f] h cls) (w1 : Cond.code y cy 2 none ∈ xT) (w2 : Cond.initialized y.cls ∈ xT) (h4 : Cond.selects qC.1 yX8_fail y ∈ xT) (h5 : Cond.instanceMethod y ∈ xT) (pre suf : List ExceptionTableEntry) (x : ExceptionTableEntry) (hsplit : tableOf hhC = pre ++ x :: suf) (hx2 : covers x 2 = true) (hx0 : x.catchType ≠ 0) (hpass : ∀ z ∈ pre, z.catchType ≠ 0 ∧ ∃ nm, Cond.classLink RX11 z.catchType nm ∈ xT ∧ (cls, nm) ∈ xNcl) (hlink : Cond.classLink RX11 x.catchType cls ∈ xT) (hcast : Cond.castable cls cls ∈ xNW) (hast : decode cX11_caughtFailure x.handlerPc = .ok (.astore_n 2, 1)) {N : Nat} {v : Int32} (hrun : xrun (zenv m_CF (zcall d)) (ylk cl_CF) N (x.handlerPc + 1, [some (.ref a), some (.int f), none], [], zfg h) = some (some (.int v), zfg h)) : xMetW l yX11_caughtFailure cX11_caughtFailure 3 (some .int) hhC (d + 1 + 20) [.ref a, .int f] h (some (.int v)) (zfg h) := by
  intro D tc ad sz
  refine met_ofWH (cc := cX11_caughtFailure) (maxL := 3) (ret := some .int) (by decide +kernel) rfl ?_
  intro p e s m args below meth c s₁ B hml hv
  obtain ⟨rfl, hsz, hP, hK, hD0, hnw, hEx, hSC⟩ := hv
  subst hsz
  have hts := atoms_spec (ws := Cond.codeWith yX11_caughtFailure cX11_caughtFailure 3 (some .int) hhC :: xT) B.pre
  have htab := vx_table (x := yX11_caughtFailure) B (hts _ List.mem_cons_self)
  have hts' : ∀ w ∈ xT, w.before ([Value.ref a, .int f].map (xv ad)).toArray s = true := fun w hw => hts w (List.mem_cons_of_mem _ hw)
  have hown : s.vm.findClass RX11 = some m.cls := findClass_of_methodNamed B.named
  have hA : ∀ q : Nat, s.heap.size ≤ q → va_A (xw tc ad h.1) s.heap.size q := fun q h => Or.inr h
  have hE := zE_CF ih
  have hC : xCx p s m ([Value.ref a, .int f].map (xv ad)).toArray meth c RX11 cX11_caughtFailure 3 D tc (va_A (xw tc ad h.1) s.heap.size) h.1.length false (some .int) :=
    ⟨B.exec, B.bytes, hml, hown, hts', hnw, B.notSynchronized, hK, hA, hEx, fun hi => absurd hi (fun z => by cases z), B.returns⟩
  have hl2 := lv_entry ([Value.ref a, .int f].map (xv ad)) (n := 3) (by rw [xfl_len]; show 2 ≤ 3; omega)
  rw [lg_entry_eq]
  generalize (lg_sl ([Value.ref a, .int f].map (xv ad)) ++ List.replicate (3 - (lg_sl ([Value.ref a, .int f].map (xv ad))).length) Slot.unset).toArray = ls0 at hl2 ⊢
  have hi : xis h a ci = true := by unfold xis; rw [hc]; simp
  have hZ := (xpath_ok (E := zenv m_CF (zcall d)) (l := l) (e := e) (R := xrm (d + 1 + 20) h (zfg h)) (below := below) (ad0 := ad) (c0 := h.2.1) (s0 := h.2.2) (q' := (2, [some (.ref a), some (.int f), none], [.int f, .ref a], h)) (Q := MQ below (xQ D tc ad h.1.length (va_A (xw tc ad h.1) s.heap.size) (zfg h) (some (.int v))) ([Value.ref a, .int f].map (xv ad)).toArray s ((zfg h).2.1 - h.2.1) ((zfg h).2.2 - h.2.2) (va_A (xw tc ad h.1) s.heap.size)) hC xcl_ok hE (by show d + 21 ≤ d + 1 + 20; omega) (by show 40 * (d + 21) ≤ 40 * (d + 1 + 20); omega) (xcd_of dk_CF) 2 (0, xent [.ref a, .int f] 3, [], h) rfl).2 (Nat.le_refl _) (Nat.le_refl _) (by show h.2.1 - h.2.1 ≤ _; omega) (by show h.2.2 - h.2.2 ≤ _; omega) (by
    intro ad' ls H locs ha hab hn0 hL hls hP' hD' hS
    have had : ad' = ad := hab rfl
    subst had
    dsimp only at hL hls hP' hD' hS ⊢
    have hF := xFr (h := h) hD' hA hS
    have hlen : ∀ sig, parseMethodDescriptor yX8_fail.desc = some sig → [Value.int f].length = sig.parameters.length := by
      intro sig hs
      have w5 : (parseMethodDescriptor yX8_fail.desc).map (fun d => d.parameters.length) = some 1 := by decide +kernel
      rw [hs] at w5
      exact (Option.some.inj w5).symm
    have hcu : va_CU (xrm (d + 1 + 20) h (zfg h)) s ([Value.ref a, .int f].map (xv ad')).toArray RX11 qC.1 yX8_fail.cls 376 yX8_fail y cy 2 none (.code y cy 2 none :: xT) (rmF 8) 1 8 [Value.int f].length :=
      ⟨⟨rfl, rfl, by show 8 + 1 ≤ d + 1 + 20; omega, by show 8 + (2 + 11) + 40 * 8 ≤ 40 * (d + 1 + 20); omega, pay_in hts' (xgood w1), List.mem_cons_self⟩, hts' _ w1, hts' _ w2, by decide +kernel, hlen, hts' _ (xTm (by decide +kernel)), hts' _ (xTm (by decide +kernel)), va_Decl.of (b := cX8_fail) (m := 2) (ret := none) (hts' _ (xTm (by decide +kernel))) (hts' _ (xTm (by decide +kernel))), hts' _ h4, hts' _ h5⟩
    have hr := vx_runU (C := qC.1) (owner := yX8_fail.cls) (b := ad' a) (As := [Value.int f]) (rest := []) (g := F0 m 2 ls [.int f, .ref (ad' a)]) (locs := locs) (cells := h.2.1 - h.2.1) (slots := h.2.2 - h.2.2) (l := l) (e := e) (below := below) (meth := meth) (R := xrm (d + 1 + 20) h (zfg h)) ⟨B.exec, B.bytes, hml, hown, hts'⟩ (hT D tc ad' H.size (va_Qv (S := Unit) (fun _ => False) (fun _ _ => True) (fun _ => False))) hcu ⟨xblind, xk_recv hK hP' hq hi, xpre hK hnw hA hEx hS hP' hD'⟩ rfl rfl hls.1 rfl (lv_room (by decide)) (by show decode cX11_caughtFailure 2 = _; decide +kernel) ⟨by show h.2.1 - h.2.1 + 1 ≤ h.2.1 + 1 - h.2.1; omega, by show h.2.2 - h.2.2 + 8 ≤ h.2.2 + 8 - h.2.2; omega⟩
    refine vx_callv (SX := Unit) hr hS (fun _ _ hq => hq.elim) hF (fun q _ hq => hF q hq) (fun E ce q9 u t H1 locs1 ht hvm hp hB hz1 hk1 hS1 hce hcv hcl => ?_) (fun u t H1 locs1 ht hvm hp hB hz1 hk1 hS1 => hp.elim)
    obtain ⟨rfl, hP1⟩ := hB
    rw [ht] at hP1
    refine vx_catch hown pre x suf (htab.trans hsplit) (fun z hz => Or.inr ⟨(hpass z hz).1, ?_⟩) hx2 hx0 (hts' _ hlink) (va_Nw.use rfl (hnw _ hcast)) hce hcv hcl ?_
    · obtain ⟨nm, n1, n2⟩ := (hpass z hz).2
      exact ⟨nm, hts' _ n1, hEx.2.2.2 _ n2⟩
    · refine lv_astore_n B.exec B.bytes hast rfl hls (by omega) rfl (fun ls' h' => ?_)
      have hend := (xrun_ok (l := l) (e := e) (R := xrm (d + 1 + 20) h (zfg h)) (below := below) (ad0 := ad') (c0 := h.2.1) (s0 := h.2.2) hC xcl_ok hE (by show d + 21 ≤ d + 1 + 20; omega) (by show 40 * (d + 21) ≤ 40 * (d + 1 + 20); omega) (xcd_of dk_CF) N _ hrun).2.2 (by show h.2.1 ≤ h.2.1 + 1; omega) (by show h.2.2 ≤ h.2.2 + 8; omega) (Nat.le_refl _) (Nat.le_refl _)
      have := hend ad' ls' H1 locs1 (fun _ _ => rfl) (fun _ => rfl) (Nat.le_refl _) rfl ⟨h'.1, h'.2.1, fun q hq => h'.2.2 q (List.mem_cons_of_mem _ hq)⟩ hP1 hD' hS1
      dsimp only at this
      have e1 : h.2.1 - h.2.1 + 1 = (zfg h).2.1 - h.2.1 := by show _ = h.2.1 + 1 - h.2.1; omega
      have e2 : h.2.2 - h.2.2 + 8 = (zfg h).2.2 - h.2.2 := by show _ = h.2.2 + 8 - h.2.2; omega
      rw [e1, e2]
      exact this)
  have := hZ ad ls0 s.heap [] (fun _ _ => rfl) (fun _ => rfl) (Nat.le_refl _) (xent_len (vs := [Value.ref a, .int f]) (by show 2 ≤ 3; omega)) (xent_has hl2) hP ⟨hD0.self, hSC⟩ va_S.rf
  dsimp only at this
  rw [Nat.sub_self, Nat.sub_self] at this
  exact this
theorem xcertW {y : MethodName} {cc : ByteArray} {nL d N : Nat} {ret : Option FieldType} {hh : List (Nat × Nat × Nat × Nat)} {E : xEnv} {cd : Nat → Option Instr} (hy : plainName y.cls = true) (hcl : xClOk) (hE : xEOk l y.cls d E) (hin : E.2.2.2.2.2.1 = false) (hret : E.2.2.2.2.2.2 = ret) (hcd : ∀ pc i, cd pc = some i → xdec cc pc i)
    {vs : List Value} {h0 : xS} {r : Option Value} {h1 : xS} (hrun : xfn E cd nL N vs h0 = some (r, h1)) : xMetW l y cc nL ret hh d vs h0 r h1 := by
  unfold xfn at hrun
  split at hrun
  · rename_i hlen
    intro D tc ad sz
    refine met_ofWH (cc := cc) (maxL := nL) (ret := ret) hy rfl ?_
    intro p e s m args below meth c s₁ B hml hv
    obtain ⟨rfl, hsz, hP, hK, hD0, hnw, hEx, hSC⟩ := hv
    subst hsz
    have hts := atoms_spec (ws := Cond.codeWith y cc nL ret hh :: xT) B.pre
    have hown : s.vm.findClass y.cls = some m.cls := findClass_of_methodNamed B.named
    have hA : ∀ q : Nat, s.heap.size ≤ q → va_A (xw tc ad h0.1) s.heap.size q := fun q h => Or.inr h
    have hC : xCx p s m (vs.map (xv ad)).toArray meth c y.cls cc nL D tc (va_A (xw tc ad h0.1) s.heap.size) h0.1.length E.2.2.2.2.2.1 E.2.2.2.2.2.2 :=
      ⟨B.exec, B.bytes, hml, hown, fun w hw => hts w (List.mem_cons_of_mem _ hw), hnw, B.notSynchronized, hK, hA, hEx, fun hi => absurd (hin.symm.trans hi) (fun z => by cases z), by rw [hret]; exact B.returns⟩
    have hl := lv_entry (vs.map (xv ad)) (n := nL) (by rw [xfl_len]; exact hlen)
    rw [lg_entry_eq]
    generalize (lg_sl (vs.map (xv ad)) ++ List.replicate (nL - (lg_sl (vs.map (xv ad))).length) Slot.unset).toArray = ls at hl ⊢
    have hZ := (xrun_ok (l := l) (e := e) (R := xrm d h0 h1) (below := below) (ad0 := ad) (c0 := h0.2.1) (s0 := h0.2.2) hC hcl hE (Nat.le_refl _) (Nat.le_refl _) hcd N (0, xent vs nL, [], h0) hrun).2.2 (Nat.le_refl _) (Nat.le_refl _) (Nat.le_refl _) (Nat.le_refl _)
    have := hZ ad ls s.heap [] (fun _ _ => rfl) (fun _ => rfl) (Nat.le_refl _) (xent_len hlen) (xent_has hl) hP ⟨hD0.self, hSC⟩ va_S.rf
    dsimp only at this
    rw [Nat.sub_self, Nat.sub_self] at this
    exact this
  · cases hrun
/-- the one call that goes through -/
noncomputable def cfF (a : Nat) (f : Int32) (h : xS) : xF := .inl (fun vs h' => @ite _ (vs = [.ref a, .int f] ∧ h' = h) (Classical.propDecidable _) (some h) none)
noncomputable def cfE (d : Nat) (a : Nat) (f : Int32) (h : xS) : xEnv := ((zenv m_CF (zcall d)).1, (zenv m_CF (zcall d)).2.1, fun key => if key = 1128 then some (2, false, cfF a f h) else (zenv m_CF (zcall d)).2.2.1 key, (zenv m_CF (zcall d)).2.2.2)
theorem cf_N (ih : zOk l d) (hc : h.1[a]? = some (.inr (ci, fs))) {y : MethodName} {cy : ByteArray} {qC : vw_C} (hq : vwCl[ci]? = some qC) (hM : xMet l y cy 2 none 8 [.ref a, .int f] h none h) (hw : xYw y cy 2 none 1) (hdx : y.desc = yX8_fail.desc) (h4 : Cond.selects qC.1 yX8_fail y ∈ xT) (h5 : Cond.instanceMethod y ∈ xT) : xMetW l yX11_caughtFailure cX11_caughtFailure 3 (some .int) hhC (d + 1 + 20) [.ref a, .int f] h (some (.int (-15))) h := by
  have hE := zE_CF (l := l) ih
  have hi : xis h a ci = true := by unfold xis; rw [hc]; simp
  have hS : xSite l RX11 (d + 21) 1128 2 false (cfF a f h) := by
    refine xsite (fun vs h1 pu h2 hr => ?_) (fun vs h1 pu h2 hn hr => ?_)
    · obtain ⟨e, -⟩ := hr
      dsimp only at e
      split at e
      · rename_i hh
        cases e
        rw [hh.2]
        exact ⟨xle_r _, xna_r _ _⟩
      · cases e
    · obtain ⟨e, rfl⟩ := hr
      dsimp only at e
      split at e
      · rename_i hh
        cases e
        obtain ⟨rfl, rfl⟩ := hh
        exact ⟨none, rfl, xk_U (k := 376) (x := yX8_fail) (b0 := cX8_fail) (m0 := 2) (r0 := none) hM hw hdx (by decide +kernel) (xTm (by decide +kernel)) (xTm (by decide +kernel)) (xTm (by decide +kernel)) h4 h5 (xTm (by decide +kernel)) (by omega) hq hi⟩
      · cases e
  have hE' : xEOk l RX11 (d + 21) (cfE d a f h) := by
    obtain ⟨e1, e2, e3, e4, e5, e6⟩ := hE
    refine ⟨e1, e2, e3, fun key n b F hk => ?_, e5, e6⟩
    replace hk : (if key = 1128 then some (2, false, cfF a f h) else (zenv m_CF (zcall d)).2.2.1 key) = some (n, b, F) := hk
    split at hk
    · rename_i hkey
      cases hk
      rw [hkey]
      exact hS
    · exact e4 key n b F hk
  refine xcertW (N := 6) (E := cfE d a f h) (cd := ylk cl_CF) (by decide +kernel) xcl_ok (by rw [show d + 1 + 20 = d + 21 by omega]; exact hE') rfl rfl (xcd_of dk_CF) ?_
  unfold xfn
  rw [if_pos (show (xfl [Value.ref a, .int f]).length ≤ 3 by show 2 ≤ 3; omega)]
  have e1 : (@ite _ ([Value.ref a, .int f] = [Value.ref a, .int f] ∧ h = h) (Classical.propDecidable _) (some h) none) = some h := if_pos ⟨rfl, rfl⟩
  show (Option.bind (@ite _ ([Value.ref a, .int f] = [Value.ref a, .int f] ∧ h = h) (Classical.propDecidable _) (some h) none) _) = _
  rw [e1]
  rfl
theorem ycl_fg {A : yM} (a : Nat) : ycl (yfg A) a = ycl A a := by
  unfold ycl ysh
  rw [show yfg A 93 0 = A 93 0 by unfold yfg yup; rw [if_neg (by omega)]]
theorem price5 {A : yM} {a : Nat} {f : Int32} {n : Nat} (hn : 6 ≤ n) (h : ycl A a = some 5) : ycall n 48 [.ref a, .int f] A = some (some (.int (10 + f)), A) := by
  obtain ⟨n, rfl⟩ := Nat.exists_eq_add_of_le' (show 3 ≤ n by omega)
  rw [en_X5_price, yvt_c h rfl, en_X3_price, yvt_c h rfl, en_X2_price]
  rfl
/-- what of a failure is caught, whatever it is -/
theorem cf_ok (hl : l.stackTraces = false) (ih : zOk l d) (hd6 : 6 ≤ d) {c0 s0 : Nat} {A : yM} (hci : ycl A a = some ci) (hc10 : ci < 10 ∧ ci ≠ 0 ∧ ci ≠ 7) (hf : 0 ≤ f) (hg0 : 0 ≤ A 94 0) (hg1 : (A 94 0).toNatClampNeg < 100000) : xMetW l yX11_caughtFailure cX11_caughtFailure 3 (some .int) hhC (d + 1 + 20) [.ref a, .int f] (yhs c0 s0 A) (some (.int (yct ci f))) (if yct ci f = -15 then yhs c0 s0 A else zfg (yhs c0 s0 A)) := by
  obtain ⟨fs, hfs⟩ := ycl_z (c0 := c0) (s0 := s0) hci
  obtain ⟨q1, q2, q3⟩ := hc10
  have ge : ∀ k : Int32, k < 0 → f ≠ k := fun k hk e => Int32.not_lt.mpr hf (e ▸ hk)
  have ne15 : ∀ k : Int32, -15 - k < 0 → ¬ k + f = -15 := fun k hk e => ge (-15 - k) hk (by rw [← e, Int32.add_comm, Int32.add_sub_cancel])
  have cases8 : ci = 1 ∨ ci = 2 ∨ ci = 3 ∨ ci = 4 ∨ ci = 5 ∨ ci = 6 ∨ ci = 8 ∨ ci = 9 := by omega
  have dT : tableOf hhC = [⟨0, 5, 8, 379⟩, ⟨0, 5, 19, 343⟩, ⟨0, 5, 25, 350⟩] := by decide +kernel
  have y2 : xYw yX2_fail cX2_fail 2 none 1 := ⟨xTm (by decide +kernel), xTm (by decide +kernel), by decide +kernel, by decide +kernel, by decide +kernel, by omega⟩
  have y4 : xYw yX4_fail cX4_fail 2 none 1 := ⟨xTm (by decide +kernel), xTm (by decide +kernel), by decide +kernel, by decide +kernel, by decide +kernel, by omega⟩
  have y5 : xYw yX5_fail cX5_fail 2 none 1 := ⟨xTm (by decide +kernel), xTm (by decide +kernel), by decide +kernel, by decide +kernel, by decide +kernel, by omega⟩
  have y8 : xYw yX8_fail cX8_fail 2 none 1 := ⟨xTm (by decide +kernel), xTm (by decide +kernel), by decide +kernel, by decide +kernel, by decide +kernel, by omega⟩
  have i2 : Cond.instanceMethod yX2_fail ∈ xT := xTm (by decide +kernel)
  have i4 : Cond.instanceMethod yX4_fail ∈ xT := xTm (by decide +kernel)
  have i5 : Cond.instanceMethod yX5_fail ∈ xT := xTm (by decide +kernel)
  have i8 : Cond.instanceMethod yX8_fail ∈ xT := xTm (by decide +kernel)
  have k1 : Cond.classLink RX11 379 "java/lang/UnsupportedOperationException" ∈ xT := xTm (by decide +kernel)
  have k2 : Cond.classLink RX11 343 "java/lang/IllegalArgumentException" ∈ xT := xTm (by decide +kernel)
  have k3 : Cond.classLink RX11 350 "java/lang/IllegalStateException" ∈ xT := xTm (by decide +kernel)
  have c1 : Cond.castable "java/lang/UnsupportedOperationException" "java/lang/UnsupportedOperationException" ∈ xNW := xNm (by decide +kernel)
  have c2 : Cond.castable "java/lang/IllegalArgumentException" "java/lang/IllegalArgumentException" ∈ xNW := xNm (by decide +kernel)
  have c3 : Cond.castable "java/lang/IllegalStateException" "java/lang/IllegalStateException" ∈ xNW := xNm (by decide +kernel)
  have e100 : (Int8.ofInt 100).toInt32 = (100 : Int32) := by decide +kernel
  have e200 : (Int16.ofInt 200).toInt32 = (200 : Int32) := by decide +kernel
  by_cases h0 : f = 0
  · subst h0
    have two : ∀ {q : vw_C}, vwCl[ci]? = some q → yct ci 0 = -15 → Cond.selects q.1 yX8_fail yX2_fail ∈ xT → xMetW l yX11_caughtFailure cX11_caughtFailure 3 (some .int) hhC (d + 1 + 20) [.ref a, .int 0] (yhs c0 s0 A) (some (.int (yct ci 0))) (if yct ci 0 = -15 then yhs c0 s0 A else zfg (yhs c0 s0 A)) := fun hq h15 hs => by
      rw [if_pos h15, h15]
      exact cf_N ih hfs hq fm_2 y2 rfl hs i2
    have eight : ∀ {q : vw_C}, vwCl[ci]? = some q → yct ci 0 = -15 → Cond.selects q.1 yX8_fail yX8_fail ∈ xT → xMetW l yX11_caughtFailure cX11_caughtFailure 3 (some .int) hhC (d + 1 + 20) [.ref a, .int 0] (yhs c0 s0 A) (some (.int (yct ci 0))) (if yct ci 0 = -15 then yhs c0 s0 A else zfg (yhs c0 s0 A)) := fun hq h15 hs => by
      rw [if_pos h15, h15]
      exact cf_N ih hfs hq fm_8 y8 rfl hs i8
    have four : ∀ {q : vw_C}, vwCl[ci]? = some q → yct ci 0 = -15 → Cond.selects q.1 yX8_fail yX4_fail ∈ xT → xMetW l yX11_caughtFailure cX11_caughtFailure 3 (some .int) hhC (d + 1 + 20) [.ref a, .int 0] (yhs c0 s0 A) (some (.int (yct ci 0))) (if yct ci 0 = -15 then yhs c0 s0 A else zfg (yhs c0 s0 A)) := fun hq h15 hs => by
      rw [if_pos h15, h15]
      exact cf_N ih hfs hq fm_4 y4 rfl hs i4
    rcases cases8 with rfl | rfl | rfl | rfl | rfl | rfl | rfl | rfl
    · exact two rfl rfl (xTm (by decide +kernel))
    · exact two rfl rfl (xTm (by decide +kernel))
    · exact two rfl rfl (xTm (by decide +kernel))
    · exact four rfl rfl (xTm (by decide +kernel))
    · rw [if_pos (show yct 5 0 = -15 from rfl), show yct 5 0 = -15 from rfl]
      exact cf_N ih hfs (qC := _) rfl fm_5 y5 rfl (xTm (by decide +kernel)) i5
    · exact eight rfl rfl (xTm (by decide +kernel))
    · exact eight rfl rfl (xTm (by decide +kernel))
    · exact four rfl rfl (xTm (by decide +kernel))
  · have don : ∀ {q : vw_C}, vwCl[ci]? = some q → yct ci f = 100 + f → Cond.selects q.1 yX8_fail yX2_fail ∈ xT → xMetW l yX11_caughtFailure cX11_caughtFailure 3 (some .int) hhC (d + 1 + 20) [.ref a, .int f] (yhs c0 s0 A) (some (.int (yct ci f))) (if yct ci f = -15 then yhs c0 s0 A else zfg (yhs c0 s0 A)) := fun hq h15 hs => by
      rw [h15, if_neg (ne15 100 (by decide +kernel))]
      refine cf_T (N := 4) ih hfs hq (ft_2 hl h0) y2.1 y2.2.1 hs i2 [⟨0, 5, 8, 379⟩] [⟨0, 5, 25, 350⟩] ⟨0, 5, 19, 343⟩ dT (by decide +kernel) (by decide) (fun z hz => ?_) k2 c2 (by decide +kernel) ?_
      · cases List.mem_singleton.mp hz
        exact ⟨by decide, _, k1, by decide +kernel⟩
      · show some (some (Value.int ((Int8.ofInt 100).toInt32 + f)), _) = _
        rw [e100]
    have stu : ∀ {q : vw_C}, vwCl[ci]? = some q → yct ci f = f → Cond.selects q.1 yX8_fail yX8_fail ∈ xT → xMetW l yX11_caughtFailure cX11_caughtFailure 3 (some .int) hhC (d + 1 + 20) [.ref a, .int f] (yhs c0 s0 A) (some (.int (yct ci f))) (if yct ci f = -15 then yhs c0 s0 A else zfg (yhs c0 s0 A)) := fun hq h15 hs => by
      rw [h15, if_neg (ge (-15) (by decide +kernel))]
      refine cf_T (N := 2) ih hfs hq (ft_8 hl h0) y8.1 y8.2.1 hs i8 [⟨0, 5, 8, 379⟩, ⟨0, 5, 19, 343⟩] [] ⟨0, 5, 25, 350⟩ dT (by decide +kernel) (by decide) (fun z hz => ?_) k3 c3 (by decide +kernel) ?_
      · rcases List.mem_cons.mp hz with rfl | hz
        · exact ⟨by decide, _, k1, by decide +kernel⟩
        · cases List.mem_singleton.mp hz
          exact ⟨by decide, _, k2, by decide +kernel⟩
      · rfl
    have four : ∀ {q : vw_C}, vwCl[ci]? = some q → yct ci f = -15 → Cond.selects q.1 yX8_fail yX4_fail ∈ xT → xMetW l yX11_caughtFailure cX11_caughtFailure 3 (some .int) hhC (d + 1 + 20) [.ref a, .int f] (yhs c0 s0 A) (some (.int (yct ci f))) (if yct ci f = -15 then yhs c0 s0 A else zfg (yhs c0 s0 A)) := fun hq h15 hs => by
      rw [if_pos h15, h15]
      exact cf_N ih hfs hq fm_4 y4 rfl hs i4
    rcases cases8 with rfl | rfl | rfl | rfl | rfl | rfl | rfl | rfl
    · exact don rfl (if_neg h0) (xTm (by decide +kernel))
    · exact don rfl (if_neg h0) (xTm (by decide +kernel))
    · exact don rfl (if_neg h0) (xTm (by decide +kernel))
    · exact four rfl rfl (xTm (by decide +kernel))
    · have h15 : yct 5 f = 200 + (10 + f) := if_neg h0
      rw [h15, if_neg (by rw [← Int32.add_assoc]; exact ne15 (200 + 10) (by decide +kernel))]
      refine cf_T (qC := _) (N := 6) ih hfs rfl (ft_5 hl h0) y5.1 y5.2.1 (xTm (by decide +kernel)) i5 [] [⟨0, 5, 19, 343⟩, ⟨0, 5, 25, 350⟩] ⟨0, 5, 8, 379⟩ dT (by decide +kernel) (by decide) (fun z hz => by cases hz) k1 c1 (by decide +kernel) ?_
      have hp : zcall d 48 [.ref a, .int f] (zfg (yhs c0 s0 A)) = some (some (.int (10 + f)), zfg (yhs c0 s0 A)) := by
        rw [← yhs_fg hg0 hg1]
        exact ycall_z c0 s0 d 48 _ (yfg A) _ _ (price5 hd6 (by rw [ycl_fg]; exact hci))
      have hz : zri (zvt [(1, 36), (2, 39), (3, 42), (4, 45), (5, 48), (6, 51), (8, 62), (9, 45)] (zcall d) [.ref a, .int f] (zfg (yhs c0 s0 A))) = some (10 + f, zfg (yhs c0 s0 A)) := by
        unfold zvt
        dsimp only
        rw [show (zfg (yhs c0 s0 A)).1[a]? = some (.inr (5, fs)) from hfs]
        dsimp only
        rw [show ylk [(1, 36), (2, 39), (3, 42), (4, 45), (5, 48), (6, 51), (8, 62), (9, 45)] 5 = some 48 from rfl]
        dsimp only
        rw [hp]
        rfl
      show Option.bind (zri (zvt [(1, 36), (2, 39), (3, 42), (4, 45), (5, 48), (6, 51), (8, 62), (9, 45)] (zcall d) [.ref a, .int f] (zfg (yhs c0 s0 A)))) _ = _
      rw [hz]
      show some (some (Value.int ((Int16.ofInt 200).toInt32 + (10 + f))), _) = _
      rw [e200]
    · exact stu rfl (if_neg h0) (xTm (by decide +kernel))
    · exact stu rfl (if_neg h0) (xTm (by decide +kernel))
    · exact four rfl rfl (xTm (by decide +kernel))
end CF
