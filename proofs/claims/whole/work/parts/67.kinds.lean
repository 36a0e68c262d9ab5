/-! the kinds of calls -/
theorem xgood {w : Cond} (hw : w ∈ xT) : GoodIn xT (w :: xT) := by
  intro v hv
  have h1 : v ∈ xT := by
    rcases List.mem_cons.mp hv with rfl | h
    · exact hw
    · exact h
  exact ⟨h1, good_of_word (List.mem_filter.mp h1).2⟩
theorem xblind {av : List Value} {D : va_G} {tc : Nat → ClassId} {ad : Nat → Nat} {sz : Nat} {h0 : xS} : FrameBlind (va_Pc av (xPre D tc ad sz h0)) := by
  intro a U g mk q
  obtain ⟨q0, q1, qP, qK, qD, qN, qE, qC⟩ := q
  exact ⟨q0, q1, qP, va_K.moved (u := U) (U := U.calling g mk a) (Vm.Alike.refl U.vm) qK, qD, fun w hw => xnw_same (u := U) (U := U.calling g mk a) (List.mem_filter.mp hw).2 rfl (qN w hw), xEx_same (u := U) (U := U.calling g mk a) qE rfl, fun i n f hf => ⟨(qC i n f hf).1, va_X.moved (u := U) (U := U.calling g mk a) (Vm.Alike.refl U.vm) (qC i n f hf).2⟩⟩
theorem xcat_ok {ad : Nat → Nat} {rest : List Value} (h : xcat rest = true) : ((rest.map (xv ad)).map fun v => v.category).sum ≤ 8 := by
  have := Nat.le_of_ble_eq_true h
  rw [List.map_map]
  have e : ((fun v : Value => v.category) ∘ xv ad) = fun v => v.category := by funext v; exact xv_cat ad v
  rw [e]
  exact this
section XK
variable {l : Launch} {own : String} {d k : Nat} {vs : List Value} {h h' : xS} {r : Option Value} {y : MethodName} {cy : ByteArray} {nY dY : Nat} {ret : Option FieldType}
theorem xFr {s : State} {tc : Nat → ClassId} {A : Nat → Prop} {ad : Nat → Nat} {H : Heap} {locs : List Loc} (hD : xD s A tc ad h.1) (hA : ∀ q, s.heap.size ≤ q → A q) (hS : va_S A s.heap H locs) : ∀ q, va_A (xw tc ad h.1) H.size q → A q := by
  intro q hq
  rcases hq with ⟨k, ee, hk⟩ | hq
  · exact hD.1.2 k _ hk
  · exact hA q (Nat.le_trans hS.1 hq)
theorem xpre {s : State} {D : va_G} {tc : Nat → ClassId} {A : Nat → Prop} {ad : Nat → Nat} {H : Heap} (hK : va_K D vwCl (xty tc) s) (hnw : ∀ w ∈ xNW, va_Nw w s) (hA : ∀ q, s.heap.size ≤ q → A q) (hEx : xEx A s s.heap) {locs : List Loc} (hS : va_S A s.heap H locs) (hP : va_P D vwCl (xw tc ad h.1) H) (hD : xD s A tc ad h.1) {av : List Value} : ∀ U : State, U.heap = H → s.WarmedH U.vm → va_Pc av (xPre D tc ad H.size h) av.toArray U := by
  intro U hU hW
  refine ⟨rfl, by rw [hU], by rw [hU]; exact hP, va_K.moved hW.alike hK, hD.1.weaken (fun _ _ _ _ => trivial), fun w hw => xnw_warm (List.mem_filter.mp hw).2 hW (hnw w hw), xEx_go hEx hS (xFr hD hA hS) hU hW, fun i n f hf => ?_⟩
  obtain ⟨c1, c2⟩ := hD.2 i n f hf
  have hlt := (Array.getElem?_eq_some_iff.mp c2.choose_spec.1).1
  refine ⟨fun hq => c1 (xFr hD hA hS _ hq), ?_⟩
  rw [hU]
  exact va_X.moved hW.alike (c2.kept (hS.2.1 _ hlt c1))
/-- what every call asks of its callee's words -/
def xYw (y : MethodName) (cy : ByteArray) (nY : Nat) (ret : Option FieldType) (n : Nat) : Prop :=
  Cond.code y cy nY ret ∈ xT ∧ Cond.initialized y.cls ∈ xT ∧ y.cls ≠ "java/lang/invoke/MethodHandle" ∧ y.cls ≠ "java/lang/invoke/VarHandle" ∧ (parseMethodDescriptor y.desc).map (fun d => d.parameters.length) = some n ∧ nY ≤ 21
theorem xk_S (hM : xMet l y cy nY ret dY vs h r h') (hw : xYw y cy nY ret vs.length) (h1 : Cond.methodLink own k y ∈ xT) (h2 : Cond.static y ∈ xT) (hd : dY < d) : xCallee l own d (3 * k + 1) vs h r h' := by
  intro p e R s m args below meth c cc D tc nL n0 A init rt pc ad ls H locs cells slots rest hC hd1 hd2 hdec hcat hsz hP hD hS hc1 hc2
  obtain ⟨hx, hb, hml, hown, hts, hnw, hlk, hK, hA, hEx, -⟩ := hC
  obtain ⟨w1, w2, w3, w4, w5, w6⟩ := hw
  have hdec : decode cc pc = .ok (.invokestatic k, 3) := by rw [hdec]; unfold xiv; rw [show (3 * k + 1) % 3 = 1 by omega, show (3 * k + 1) / 3 = k by omega]; rfl
  exact va_runS (As := vs.map (xv ad)) (g := F0 m pc ls _) ⟨hx, hb, hml, hown, hts⟩ (hM D tc ad H.size) ⟨callB_of vs.length hts (xgood w1) rfl rfl rfl (hts _ w2) (hts _ h1) ⟨w3, w4, w5⟩ ⟨by show dY + 1 ≤ R.frames; omega, by show 8 + (nY + 11) + 40 * dY ≤ R.locals; omega⟩, hts _ h2⟩ ⟨xblind, xpre hK hnw hA hEx hS hP hD⟩ rfl (by simp) hsz (by simp) (lv_room (xcat_ok hcat)) hdec ⟨hc1, hc2⟩
theorem xk_SN {host : String} (hM : xMet l y cy nY ret dY vs h r h') (hw : xYw y cy nY ret vs.length) (h1 : Cond.methodLinkNest own k y host ∈ xNW) (h2 : Cond.static y ∈ xT) (hd : dY < d) : xCallee l own d (3 * k + 1) vs h r h' := by
  intro p e R s m args below meth c cc D tc nL n0 A init rt pc ad ls H locs cells slots rest hC hd1 hd2 hdec hcat hsz hP hD hS hc1 hc2
  obtain ⟨hx, hb, hml, hown, hts, hnw, hlk, hK, hA, hEx, -⟩ := hC
  obtain ⟨w1, w2, w3, w4, w5, w6⟩ := hw
  have hdec : decode cc pc = .ok (.invokestatic k, 3) := by rw [hdec]; unfold xiv; rw [show (3 * k + 1) % 3 = 1 by omega, show (3 * k + 1) / 3 = k by omega]; rfl
  exact va_runSN (As := vs.map (xv ad)) (g := F0 m pc ls _) ⟨hx, hb, hml, hown, hts⟩ (hM D tc ad H.size) ⟨va_cnB vs.length hts (xgood w1) rfl rfl rfl (hnw _ h1) (hts _ w2) ⟨w3, w4, w5⟩ ⟨by show dY + 1 ≤ R.frames; omega, by show 8 + (nY + 11) + 40 * dY ≤ R.locals; omega⟩, hts _ h2, trivial⟩ ⟨xblind, xpre hK hnw hA hEx hS hP hD⟩ rfl (by simp) hsz (by simp) (lv_room (xcat_ok hcat)) hdec ⟨hc1, hc2⟩
/-- the one that is called: its kind of cell -/
def xis (h : xS) (a ci : Nat) : Bool := match h.1[a]? with
  | some (.inr (cj, _)) => cj == ci
  | _ => false
theorem xis_ok {a ci : Nat} (hi : xis h a ci = true) : ∃ fs, h.1[a]? = some (.inr (ci, fs)) := by
  unfold xis at hi
  split at hi
  · rename_i cj fs heq
    rw [beq_iff_eq] at hi
    subst hi
    exact ⟨fs, heq⟩
  · cases hi
theorem xk_recv {s : State} {D : va_G} {tc : Nat → ClassId} {ad : Nat → Nat} {H : Heap} {a ci : Nat} {q : vw_C} (hK : va_K D vwCl (xty tc) s) (hP : va_P D vwCl (xw tc ad h.1) H) (hq : vwCl[ci]? = some q) (hi : xis h a ci = true) : ∃ cell : Cell, H[ad a]? = some cell ∧ cell.vm.isStatics = false ∧ s.vm.findClass q.1 = some cell.cls := by
  obtain ⟨fs, hf⟩ := xis_ok hi
  exact va_recv (q0 := xk h.1 a) hK hP hq (xw_at hf rfl)
theorem xk_V {a ci : Nat} {q : vw_C} {As : List Value} (hM : xMet l y cy nY ret dY (.ref a :: As) h r h') (hw : xYw y cy nY ret As.length) (h1 : Cond.methodLink own k y ∈ xT) (h2 : Cond.instanceMethod y ∈ xT) (h3 : Cond.selects y.cls y y ∈ xT) (hd : dY < d) (hq : vwCl[ci]? = some q) (hqc : q.1 = y.cls) (hi : xis h a ci = true) : xCallee l own d (3 * k) (.ref a :: As) h r h' := by
  intro p e R s m args below meth c cc D tc nL n0 A init rt pc ad ls H locs cells slots rest hC hd1 hd2 hdec hcat hsz hP hD hS hc1 hc2
  obtain ⟨hx, hb, hml, hown, hts, hnw, hlk, hK, hA, hEx, -⟩ := hC
  obtain ⟨w1, w2, w3, w4, w5, w6⟩ := hw
  have hdec : decode cc pc = .ok (.invokevirtual k, 3) := by rw [hdec]; unfold xiv; rw [show (3 * k) % 3 = 0 by omega, show (3 * k) / 3 = k by omega]; rfl
  exact va_runV (C := y.cls) (b := ad a) (As := As.map (xv ad)) (g := F0 m pc ls _) ⟨hx, hb, hml, hown, hts⟩ (hM D tc ad H.size) ⟨callB_of As.length hts (xgood w1) rfl rfl rfl (hts _ w2) (hts _ h1) ⟨w3, w4, w5⟩ ⟨by show dY + 1 ≤ R.frames; omega, by show 8 + (nY + 11) + 40 * dY ≤ R.locals; omega⟩, hts _ h2, hts _ h3⟩ ⟨xblind, by rw [← hqc]; exact xk_recv hK hP hq hi, xpre hK hnw hA hEx hS hP hD⟩ rfl (by simp) hsz (by simp [xv]) (lv_room (xcat_ok hcat)) hdec ⟨hc1, hc2⟩
theorem xk_VN {host : String} {a ci : Nat} {q : vw_C} {As : List Value} (hM : xMet l y cy nY ret dY (.ref a :: As) h r h') (hw : xYw y cy nY ret As.length) (h1 : Cond.methodLinkNest own k y host ∈ xNW) (h2 : Cond.instanceMethod y ∈ xT) (h3 : Cond.selects y.cls y y ∈ xT) (hd : dY < d) (hq : vwCl[ci]? = some q) (hqc : q.1 = y.cls) (hi : xis h a ci = true) : xCallee l own d (3 * k) (.ref a :: As) h r h' := by
  intro p e R s m args below meth c cc D tc nL n0 A init rt pc ad ls H locs cells slots rest hC hd1 hd2 hdec hcat hsz hP hD hS hc1 hc2
  obtain ⟨hx, hb, hml, hown, hts, hnw, hlk, hK, hA, hEx, -⟩ := hC
  obtain ⟨w1, w2, w3, w4, w5, w6⟩ := hw
  have hdec : decode cc pc = .ok (.invokevirtual k, 3) := by rw [hdec]; unfold xiv; rw [show (3 * k) % 3 = 0 by omega, show (3 * k) / 3 = k by omega]; rfl
  exact va_runVN (C := y.cls) (b := ad a) (As := As.map (xv ad)) (g := F0 m pc ls _) ⟨hx, hb, hml, hown, hts⟩ (hM D tc ad H.size) ⟨va_cnB As.length hts (xgood w1) rfl rfl rfl (hnw _ h1) (hts _ w2) ⟨w3, w4, w5⟩ ⟨by show dY + 1 ≤ R.frames; omega, by show 8 + (nY + 11) + 40 * dY ≤ R.locals; omega⟩, hts _ h2, hts _ h3⟩ ⟨xblind, by rw [← hqc]; exact xk_recv hK hP hq hi, xpre hK hnw hA hEx hS hP hD⟩ rfl (by simp) hsz (by simp [xv]) (lv_room (xcat_ok hcat)) hdec ⟨hc1, hc2⟩
/-- by the kind of the one that is called: x is named, y is run -/
theorem xk_U {x : MethodName} {a ci : Nat} {q : vw_C} {As : List Value} {b0 : ByteArray} {m0 : Nat} {r0 : Option FieldType} (hM : xMet l y cy nY ret dY (.ref a :: As) h r h') (hw : xYw y cy nY ret As.length) (hdx : y.desc = x.desc) (hx2 : x.cls ≠ "java/lang/invoke/MethodHandle" ∧ x.cls ≠ "java/lang/invoke/VarHandle") (h1 : Cond.methodLink own k x ∈ xT) (h2 : Cond.sameMethod x.cls x.cls x.name x.desc ∈ xT) (h3 : Cond.instanceMethod x ∈ xT) (h4 : Cond.selects q.1 x y ∈ xT) (h5 : Cond.instanceMethod y ∈ xT) (h6 : Cond.code x b0 m0 r0 ∈ xT) (hd : dY < d) (hq : vwCl[ci]? = some q) (hi : xis h a ci = true) : xCallee l own d (3 * k) (.ref a :: As) h r h' := by
  intro p e R s m args below meth c cc D tc nL n0 A init rt pc ad ls H locs cells slots rest hC hd1 hd2 hdec hcat hsz hP hD hS hc1 hc2
  obtain ⟨hx, hb, hml, hown, hts, hnw, hlk, hK, hA, hEx, -⟩ := hC
  obtain ⟨w1, w2, w3, w4, w5, w6⟩ := hw
  have hdec : decode cc pc = .ok (.invokevirtual k, 3) := by rw [hdec]; unfold xiv; rw [show (3 * k) % 3 = 0 by omega, show (3 * k) / 3 = k by omega]; rfl
  have hlen : ∀ sig, parseMethodDescriptor x.desc = some sig → As.length = sig.parameters.length := by
    intro sig hs
    rw [hdx, hs] at w5
    exact (Option.some.inj w5).symm
  have hcu : va_CU R s args own q.1 x.cls k x y cy nY ret (.code y cy nY ret :: xT) (xrm dY h h') (h'.2.1 - h.2.1) (h'.2.2 - h.2.2) As.length :=
    ⟨⟨rfl, rfl, by show dY + 1 ≤ R.frames; omega, by show 8 + (nY + 11) + 40 * dY ≤ R.locals; omega, pay_in hts (xgood w1), List.mem_cons_self⟩, hts _ w1, hts _ w2, hx2, hlen, hts _ h1, hts _ h2, va_Decl.of (hts _ h3) (hts _ h6), hts _ h4, hts _ h5⟩
  exact va_runU (C := q.1) (owner := x.cls) (b := ad a) (As := As.map (xv ad)) (g := F0 m pc ls _) ⟨hx, hb, hml, hown, hts⟩ (hM D tc ad H.size) hcu ⟨xblind, xk_recv hK hP hq hi, xpre hK hnw hA hEx hS hP hD⟩ rfl (by simp) hsz (by simp [xv]) (lv_room (xcat_ok hcat)) hdec ⟨hc1, hc2⟩
/-- the method that one's own stands over -/
theorem xk_SU {a ci : Nat} {q : vw_C} {As : List Value} (hM : xMet l y cy nY ret dY (.ref a :: As) h r h') (hw : xYw y cy nY ret As.length) (hn : y.name ≠ "<init>") (h1 : Cond.methodLink own k y ∈ xT) (h2 : Cond.sameMethod y.cls y.cls y.name y.desc ∈ xT) (h3 : Cond.superclass own y.cls ∈ xT) (h4 : Cond.instanceMethod y ∈ xT) (hd : dY < d) (hq : vwCl[ci]? = some q) (hi : xis h a ci = true) : xCallee l own d (3 * k + 2) (.ref a :: As) h r h' := by
  intro p e R s m args below meth c cc D tc nL n0 A init rt pc ad ls H locs cells slots rest hC hd1 hd2 hdec hcat hsz hP hD hS hc1 hc2
  obtain ⟨hx, hb, hml, hown, hts, hnw, hlk, hK, hA, hEx, -⟩ := hC
  obtain ⟨w1, w2, w3, w4, w5, w6⟩ := hw
  have hdec : decode cc pc = .ok (.invokespecial k, 3) := by rw [hdec]; unfold xiv; rw [show (3 * k + 2) % 3 = 2 by omega, show (3 * k + 2) / 3 = k by omega]; rfl
  have hlen : ∀ sig, parseMethodDescriptor y.desc = some sig → As.length = sig.parameters.length := by
    intro sig hs
    rw [hs] at w5
    exact (Option.some.inj w5).symm
  exact va_runSU (C := q.1) (b := ad a) (As := As.map (xv ad)) (g := F0 m pc ls _) (hK.1 ci q hq).2 ⟨hx, hb, hml, hown, hts⟩ (hM D tc ad H.size) ⟨⟨rfl, rfl, by show dY + 1 ≤ R.frames; omega, by show 8 + (nY + 11) + 40 * dY ≤ R.locals; omega, pay_in hts (xgood w1), List.mem_cons_self⟩, hts _ h1, hts _ h2, hts _ h3, hts _ h4, hts _ w2, hts _ w1, hn, hlen⟩ ⟨xblind, xk_recv hK hP hq hi, xpre hK hnw hA hEx hS hP hD⟩ rfl (by simp) hsz (by simp [xv]) (lv_room (xcat_ok hcat)) hdec ⟨hc1, hc2⟩
theorem xk_I {a : Nat} {As : List Value} (hM : xMet l y cy nY none dY (.ref a :: As) h r h') (hw : xYw y cy nY none As.length) (hn : y.name = "<init>") (h1 : Cond.methodLink own k y ∈ xT) (h2 : Cond.instanceMethod y ∈ xT) (hd : dY < d) : xCallee l own d (3 * k + 2) (.ref a :: As) h r h' := by
  intro p e R s m args below meth c cc D tc nL n0 A init rt pc ad ls H locs cells slots rest hC hd1 hd2 hdec hcat hsz hP hD hS hc1 hc2
  obtain ⟨hx, hb, hml, hown, hts, hnw, hlk, hK, hA, hEx, -⟩ := hC
  obtain ⟨w1, w2, w3, w4, w5, w6⟩ := hw
  have hdec : decode cc pc = .ok (.invokespecial k, 3) := by rw [hdec]; unfold xiv; rw [show (3 * k + 2) % 3 = 2 by omega, show (3 * k + 2) / 3 = k by omega]; rfl
  exact va_runI (b := ad a) (As := As.map (xv ad)) (g := F0 m pc ls _) ⟨hx, hb, hml, hown, hts⟩ (hM D tc ad H.size) ⟨callB_of As.length hts (xgood w1) rfl rfl rfl (hts _ w2) (hts _ h1) ⟨w3, w4, w5⟩ ⟨by show dY + 1 ≤ R.frames; omega, by show 8 + (nY + 11) + 40 * dY ≤ R.locals; omega⟩, hn, hts _ h2⟩ ⟨xblind, xpre hK hnw hA hEx hS hP hD⟩ rfl (by simp) hsz (by simp [xv]) (lv_room (xcat_ok hcat)) hdec ⟨hc1, hc2⟩
theorem xk_IN {host : String} {a : Nat} {As : List Value} (hM : xMet l y cy nY none dY (.ref a :: As) h r h') (hw : xYw y cy nY none As.length) (hn : y.name = "<init>") (h1 : Cond.methodLinkNest own k y host ∈ xNW) (h2 : Cond.instanceMethod y ∈ xT) (hd : dY < d) : xCallee l own d (3 * k + 2) (.ref a :: As) h r h' := by
  intro p e R s m args below meth c cc D tc nL n0 A init rt pc ad ls H locs cells slots rest hC hd1 hd2 hdec hcat hsz hP hD hS hc1 hc2
  obtain ⟨hx, hb, hml, hown, hts, hnw, hlk, hK, hA, hEx, -⟩ := hC
  obtain ⟨w1, w2, w3, w4, w5, w6⟩ := hw
  have hdec : decode cc pc = .ok (.invokespecial k, 3) := by rw [hdec]; unfold xiv; rw [show (3 * k + 2) % 3 = 2 by omega, show (3 * k + 2) / 3 = k by omega]; rfl
  exact va_runIN (b := ad a) (As := As.map (xv ad)) (g := F0 m pc ls _) ⟨hx, hb, hml, hown, hts⟩ (hM D tc ad H.size) ⟨va_cnB As.length hts (xgood w1) rfl rfl rfl (hnw _ h1) (hts _ w2) ⟨w3, w4, w5⟩ ⟨by show dY + 1 ≤ R.frames; omega, by show 8 + (nY + 11) + 40 * dY ≤ R.locals; omega⟩, hn, hts _ h2⟩ ⟨xblind, xpre hK hnw hA hEx hS hP hD⟩ rfl (by simp) hsz (by simp [xv]) (lv_room (xcat_ok hcat)) hdec ⟨hc1, hc2⟩
end XK
