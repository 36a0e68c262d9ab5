/-! WHAT IS THROWN, AND WHAT IS CAUGHT OF IT -/
abbrev nmE : List String := ["java/lang/RuntimeException", "java/lang/Exception"]
def xAt (own : String) (ic : Nat) (cls : String) : Bool := (vx_atS own ic cls nmE).all (fun w => decide (w ∈ tables_1) && (goodWord w || (xnw w && w.onTables)))
theorem xAt_ok {own cls : String} {ic : Nat} (h : xAt own ic cls = true) {args : Array Value} {s : State} (hts : ∀ w ∈ xT, w.before args s = true) (hnw : ∀ w ∈ xNW, va_Nw w s) : ∀ w ∈ vx_atS own ic cls nmE, w.before args s = true ∧ vx_ot w = true := by
  intro w hw
  have h1 := List.all_eq_true.mp h w hw
  simp only [Bool.and_eq_true, decide_eq_true_eq, Bool.or_eq_true] at h1
  obtain ⟨h1, h2⟩ := h1
  rcases h2 with h2 | ⟨h2, h3⟩
  · exact ⟨hts w (List.mem_filter.mpr ⟨List.mem_append_right _ h1, h2⟩), by unfold vx_ot; rw [h2]; simp⟩
  · exact ⟨va_Nw.use h3 (hnw w (List.mem_filter.mpr ⟨h1, h2⟩)), by unfold vx_ot; rw [h3]; rfl⟩
/-- a stretch of a run -/
theorem xpath_ok {p : Program} {l : Launch} {e : Env} {R : Room} {s : State} {m : MethodId} {args : Array Value} {below : List Frame} {meth : Method} {c : Code} {own : String} {cc : ByteArray} {D : va_G} {tc : Nat → ClassId} {nL n0 : Nat} {ad0 : Nat → Nat} {A : Nat → Prop} {c0 s0 : Nat} {Q : State → Prop} {d : Nat} {E : xEnv} {cd : Nat → Option Instr} (hC : xCx p s m args meth c own cc nL D tc A n0 E.2.2.2.2.2.1 E.2.2.2.2.2.2) (hcl : xClOk) (hE : xEOk l own d E) (hd1 : d ≤ R.frames) (hd2 : 40 * d ≤ R.locals) (hcd : ∀ pc i, cd pc = some i → xdec cc pc i) {q' : xSt} : ∀ (n : Nat) (q : xSt), xblk E cd (fun _ _ => (none : Option xSt)) (fun _ => false) some n q = some q' →
    xle q.2.2.2 q'.2.2.2 ∧ (c0 ≤ q.2.2.2.2.1 → s0 ≤ q.2.2.2.2.2 → q'.2.2.2.2.1 - c0 ≤ R.cells → q'.2.2.2.2.2 - s0 ≤ R.slots → xZ p l e R s m args below meth c D tc nL n0 ad0 A c0 s0 Q q' → xZ p l e R s m args below meth c D tc nL n0 ad0 A c0 s0 Q q) := by
  intro n
  induction n with
  | zero => intro q hq; cases hq; exact ⟨xle_r _, fun _ _ _ _ h => h⟩
  | succ n ih =>
    intro q hq
    obtain ⟨pc, L, st, h⟩ := q
    simp only [xblk] at hq
    split at hq
    · cases hq
    · rename_i i hi
      rcases xstp_ok (Q := Q) (below := below) (e := e) (ad0 := ad0) (c0 := c0) (s0 := s0) hC hcl hE hd1 hd2 (hcd pc i hi) hq with ⟨q2, hk, hle, hna, hz⟩ | ⟨r', hk, hrt⟩
      · obtain ⟨g1, g3⟩ := ih q2 hk
        refine ⟨xle_t hle g1, fun k1 k2 k3 k4 k5 => ?_⟩
        have b1 := g1.2.1
        have b2 := g1.2.2.1
        have b3 := hle.2.1
        have b4 := hle.2.2.1
        dsimp only at b3 b4 k1 k2
        exact hz k1 k2 (by omega) (by omega) (g3 (by omega) (by omega) k3 k4 k5)
      · cases hk
/-- a body with handlers that returns -/
theorem met_ofWH {l : Launch} {y : MethodName} {ws ws' : List Cond} {rm : Room} {Pc : Array Value → State → Prop} {Qc : Array Value → State → Outcome → State → Prop} {mc ms : Nat} {free : Addr → Prop} {cc : ByteArray} {maxL : Nat} {ret : Option FieldType} {hh : List (Nat × Nat × Nat × Nat)}
    (hy : plainName y.cls = true) (hw : ws = Cond.codeWith y cc maxL ret hh :: ws')
    (body : ∀ p e s m args below meth c s₁, BodyLoose p l y (headSpec ws rm) cc maxL ret e s m args below meth c s₁ → c.maxLocals = maxL → Pc args s →
      W p l e (headSpec ws rm).room s m args below meth c s.heap [] 0 0 (MQ below Qc args s mc ms free) (entryFrame m args maxL)) : Met l y ws rm Pc Qc mc ms free := by
  refine MetFree.of_bodyS (code := cc) (maxLocals := maxL) (ret := ret) hy ?_ ?_
  · intro args s m h hn
    obtain ⟨m9, meth, c, hn9, h1, h2, h3, h4, -, h5, h6, -⟩ := Cond.codeWith_spec (atoms_spec (ws := ws) h _ (by rw [hw]; exact List.mem_cons_self))
    cases hn.symm.trans hn9
    exact ⟨meth, c, h1, h2, h3, h4, h5, h6⟩
  · intro p e s m args below meth c s₁ B hml hP _
    have hh0 : s₁.heap = s.heap := by rw [B.state]; rfl
    obtain ⟨t, a1, o, b1, b2, b3, b4⟩ := body p e s m args below meth c s₁ B hml hP s₁ hh0 (Stand.of_body B)
    exact ⟨t, o, a1, b1, b2, b3, b4⟩
/-- a method that throws: which class; the cells are as they were -/
def XF (D : va_G) (tc : Nat → ClassId) (ad : Nat → Nat) (sz : Nat) (h0 : xS) (cls : String) : String → State → State → Prop := vx_X (S := Unit) (fun _ => True) (fun E _ t => E = cls ∧ va_P D vwCl (xw tc ad h0.1) t.heap) (va_A (xw tc ad h0.1) sz)
abbrev rmF (d : Nat) : Room := { frames := d, cells := 1, slots := 8, locals := 40 * d }
def FT (l : Launch) (y : MethodName) (cc : ByteArray) (nL : Nat) (ret : Option FieldType) (d : Nat) (vs : List Value) (h0 : xS) (cls : String) : Prop :=
  ∀ (D : va_G) (tc : Nat → ClassId) (ad : Nat → Nat) (sz : Nat) (Qc : Array Value → State → Outcome → State → Prop), vx_Met l y (.code y cc nL ret :: xT) (rmF d) (va_Pc (vs.map (xv ad)) (xPre D tc ad sz h0)) Qc (XF D tc ad sz h0 cls) 1 8 (va_A (xw tc ad h0.1) sz)
/-- throw new .. with a text, from a place that a stretch of a run leads to -/
theorem ft_ok {l : Launch} {y : MethodName} {cc : ByteArray} {nL d : Nat} {ret : Option FieldType} {E : xEnv} {cd : Nat → Option Instr} {vs : List Value} {h0 : xS} {cls text : String} {ik is ic n pc : Nat} {L : List (Option Value)} {w : Bool} (hl : l.stackTraces = false) (hy : plainName y.cls = true) (hcl : xClOk) (hE : xEOk l y.cls d E) (hin : E.2.2.2.2.2.1 = false) (hret : E.2.2.2.2.2.2 = ret) (hcd : ∀ pc i, cd pc = some i → xdec cc pc i) (hd8 : 8 ≤ d) (hlen : (xfl vs).length ≤ nL)
    (hrun : xblk E cd (fun _ _ => (none : Option xSt)) (fun _ => false) some n (0, xent vs nL, [], h0) = some (pc, L, [], h0))
    (hfit : Bundle.fit cls = true) (hk : Cond.classLink y.cls ik cls ∈ xT) (hini : Cond.initialized cls ∈ xT) (hstr : (y.cls, is, text) ∈ xStr) (hat : xAt y.cls ic cls = true)
    (d0 : decode cc pc = .ok (.new ik, 3)) (d3 : decode cc (pc + 3) = .ok (.dup, 1)) (d4 : if w = true then decode cc (pc + 4) = .ok (.ldc_w is, 3) ∧ decode cc (pc + 7) = .ok (.invokespecial ic, 3) ∧ decode cc (pc + 10) = .ok (.athrow, 1) else decode cc (pc + 4) = .ok (.ldc is, 2) ∧ decode cc (pc + 6) = .ok (.invokespecial ic, 3) ∧ decode cc (pc + 9) = .ok (.athrow, 1)) : FT l y cc nL ret d vs h0 cls := by
  intro D tc ad sz Qc
  refine vx_ofW (cc := cc) (maxL := nL) (ret := ret) hy rfl ?_
  intro p e s m args below meth c s₁ B hml ht hv
  obtain ⟨rfl, hsz, hP, hK, hD0, hnw, hEx, hSC⟩ := hv
  subst hsz
  have hts := atoms_spec (ws := Cond.code y cc nL ret :: xT) B.pre
  have hts' : ∀ w ∈ xT, w.before (vs.map (xv ad)).toArray s = true := fun w hw => hts w (List.mem_cons_of_mem _ hw)
  have hown : s.vm.findClass y.cls = some m.cls := findClass_of_methodNamed B.named
  have hA : ∀ q : Nat, s.heap.size ≤ q → va_A (xw tc ad h0.1) s.heap.size q := fun q h => Or.inr h
  have hC : xCx p s m (vs.map (xv ad)).toArray meth c y.cls cc nL D tc (va_A (xw tc ad h0.1) s.heap.size) h0.1.length E.2.2.2.2.2.1 E.2.2.2.2.2.2 :=
    ⟨B.exec, B.bytes, hml, hown, hts', hnw, B.notSynchronized, hK, hA, hEx, fun hi => absurd (hin.symm.trans hi) (fun z => by cases z), by rw [hret]; exact B.returns⟩
  have hl2 := lv_entry (vs.map (xv ad)) (n := nL) (by rw [xfl_len]; exact hlen)
  rw [lg_entry_eq]
  generalize (lg_sl (vs.map (xv ad)) ++ List.replicate (nL - (lg_sl (vs.map (xv ad))).length) Slot.unset).toArray = ls0 at hl2 ⊢
  obtain ⟨sa, hsa⟩ := hEx.2.2.1 _ hstr
  have hats := xAt_ok hat hts' hnw
  have hZ := (xpath_ok (l := l) (e := e) (R := rmF d) (below := below) (ad0 := ad) (c0 := h0.2.1) (s0 := h0.2.2) (Q := vx_MQ below Qc (XF D tc ad s.heap.size h0 cls) (vs.map (xv ad)).toArray s 1 8 (va_A (xw tc ad h0.1) s.heap.size)) hC hcl hE (Nat.le_refl _) (Nat.le_refl _) hcd n (0, xent vs nL, [], h0) hrun).2 (Nat.le_refl _) (Nat.le_refl _) (by show h0.2.1 - h0.2.1 ≤ 1; omega) (by show h0.2.2 - h0.2.2 ≤ 8; omega) (by
    intro ad' ls H locs ha hab hn0 hL hls hP' hD' hS
    have had : ad' = ad := hab rfl
    subst had
    dsimp only at hL hls hP' hD' hS ⊢
    have hx : ∀ t : State, s.vm.Alike t.vm → H.size ≤ t.heap.size → (∀ q : Nat, q < H.size → t.heap[q]? = H[q]?) → XF D tc ad' s.heap.size h0 cls cls s t := fun t _ h1 h2 => by
      refine ⟨(), trivial, ⟨rfl, hP'.kept (fun k q hk => h2 _ (va_at.lt (hP' k q hk)))⟩, Nat.le_trans hS.1 h1, fun q hq1 hq2 => ?_⟩
      rw [h2 q (Nat.lt_of_lt_of_le hq1 hS.1)]
      exact hS.2.1 q hq1 hq2
    cases w with
    | false =>
      obtain ⟨d4, d6, d9⟩ := d4
      exact vx_throwS (A := va_A (xw tc ad' h0.1) s.heap.size) B.exec B.bytes hl hown hfit (by decide) (hts' _ hk) (hts' _ hini) hsa (fun w hw => (hats w hw).1) (fun w hw => by
        rcases List.mem_cons.mp hw with rfl | hw
        · rfl
        · rcases List.mem_cons.mp hw with rfl | hw
          · rfl
          · exact (hats w hw).2) hEx.1 hEx.2.1 hS (hls.1.trans hml.symm) d0 d3 d4 d6 d9 (fun x hx => (ht x hx).elim) (by show 2 + 3 < d; omega) (by show 0 + (13 * (2 + 1) + 43) ≤ 40 * d; omega) (by show h0.2.1 - h0.2.1 + 1 ≤ 1; omega) (by show h0.2.2 - h0.2.2 + 6 ≤ 8; omega) B.notSynchronized hx hS.2.2 (by omega) (by omega)
    | true =>
      obtain ⟨d4, d7, d10⟩ := d4
      exact vx_throwSW (A := va_A (xw tc ad' h0.1) s.heap.size) B.exec B.bytes hl hown hfit (by decide) (hts' _ hk) (hts' _ hini) hsa (fun w hw => (hats w hw).1) (fun w hw => by
        rcases List.mem_cons.mp hw with rfl | hw
        · rfl
        · rcases List.mem_cons.mp hw with rfl | hw
          · rfl
          · exact (hats w hw).2) hEx.1 hEx.2.1 hS (hls.1.trans hml.symm) d0 d3 d4 d7 d10 (fun x hx => (ht x hx).elim) (by show 2 + 3 < d; omega) (by show 0 + (13 * (2 + 1) + 43) ≤ 40 * d; omega) (by show h0.2.1 - h0.2.1 + 1 ≤ 1; omega) (by show h0.2.2 - h0.2.2 + 6 ≤ 8; omega) B.notSynchronized hx hS.2.2 (by omega) (by omega))
  have := hZ ad ls0 s.heap [] (fun _ _ => rfl) (fun _ => rfl) (Nat.le_refl _) (xent_len hlen) (xent_has hl2) hP ⟨hD0.self, hSC⟩ va_S.rf
  dsimp only at this
  rw [Nat.sub_self, Nat.sub_self] at this
  exact this
