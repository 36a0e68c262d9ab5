/-! contracts out of runs, and calls by contract -/
def xPre (D : va_G) (tc : Nat → ClassId) (ad : Nat → Nat) (sz : Nat) (h0 : xS) (U : State) : Prop := U.heap.size = sz ∧ va_P D vwCl (xw tc ad h0.1) U.heap ∧ va_K D vwCl (xty tc) U ∧ va_D (fun _ => True) (xw tc ad h0.1) ∧ (∀ w ∈ xNW, va_Nw w U) ∧ xEx (va_A (xw tc ad h0.1) sz) U U.heap ∧ xSC U (va_A (xw tc ad h0.1) sz) ad h0.1
abbrev xrm (d : Nat) (h0 h1 : xS) : Room := { frames := d, cells := h1.2.1 - h0.2.1, slots := h1.2.2 - h0.2.2, locals := 40 * d }
def xMet (l : Launch) (y : MethodName) (cc : ByteArray) (nL : Nat) (ret : Option FieldType) (d : Nat) (vs : List Value) (h0 : xS) (r : Option Value) (h1 : xS) : Prop :=
  ∀ (D : va_G) (tc : Nat → ClassId) (ad : Nat → Nat) (sz : Nat), Met l y (.code y cc nL ret :: xT) (xrm d h0 h1) (va_Pc (vs.map (xv ad)) (xPre D tc ad sz h0)) (xQ D tc ad h0.1.length (va_A (xw tc ad h0.1) sz) h1 r) (h1.2.1 - h0.2.1) (h1.2.2 - h0.2.2) (va_A (xw tc ad h0.1) sz)
def xfn (E : xEnv) (cd : Nat → Option Instr) (nL N : Nat) (vs : List Value) (h : xS) : Option (Option Value × xS) := if (xfl vs).length ≤ nL then xrun E cd N (0, xent vs nL, [], h) else none
theorem xcert {l : Launch} {y : MethodName} {cc : ByteArray} {nL d N : Nat} {ret : Option FieldType} {E : xEnv} {cd : Nat → Option Instr} (hy : plainName y.cls = true) (hcl : xClOk) (hE : xEOk l y.cls d E) (hin : E.2.2.2.2.2.1 = true → y.name = "<init>") (hret : E.2.2.2.2.2.2 = ret) (hcd : ∀ pc i, cd pc = some i → xdec cc pc i)
    {vs : List Value} {h0 : xS} {r : Option Value} {h1 : xS} (hrun : xfn E cd nL N vs h0 = some (r, h1)) : xMet l y cc nL ret d vs h0 r h1 := by
  unfold xfn at hrun
  split at hrun
  · rename_i hlen
    intro D tc ad sz
    refine Met.ofW (cc := cc) (maxL := nL) (ret := ret) hy rfl ?_
    intro p e s m args below meth c s₁ B hml hv
    obtain ⟨rfl, hsz, hP, hK, hD0, hnw, hEx, hSC⟩ := hv
    subst hsz
    have hts := atoms_spec (ws := Cond.code y cc nL ret :: xT) B.pre
    have hown : s.vm.findClass y.cls = some m.cls := findClass_of_methodNamed B.named
    have hnm : meth.name = y.name := (name_of_methodNamed B.named B.method).1
    have hA : ∀ q : Nat, s.heap.size ≤ q → va_A (xw tc ad h0.1) s.heap.size q := fun q h => Or.inr h
    have hC : xCx p s m (vs.map (xv ad)).toArray meth c y.cls cc nL D tc (va_A (xw tc ad h0.1) s.heap.size) h0.1.length E.2.2.2.2.2.1 E.2.2.2.2.2.2 :=
      ⟨B.exec, B.bytes, hml, hown, fun w hw => hts w (List.mem_cons_of_mem _ hw), hnw, B.notSynchronized, hK, hA, hEx, fun hi => hnm.trans (hin hi), by rw [hret]; exact B.returns⟩
    have hl := lv_entry (vs.map (xv ad)) (n := nL) (by rw [xfl_len]; exact hlen)
    rw [lg_entry_eq]
    generalize (lg_sl (vs.map (xv ad)) ++ List.replicate (nL - (lg_sl (vs.map (xv ad))).length) Slot.unset).toArray = ls at hl ⊢
    have hZ := (xrun_ok (l := l) (e := e) (R := xrm d h0 h1) (below := below) (ad0 := ad) (c0 := h0.2.1) (s0 := h0.2.2) hC hcl hE (Nat.le_refl _) (Nat.le_refl _) hcd N (0, xent vs nL, [], h0) hrun).2.2 (Nat.le_refl _) (Nat.le_refl _) (Nat.le_refl _) (Nat.le_refl _)
    have := hZ ad ls s.heap [] (fun _ _ => rfl) (fun _ => rfl) (Nat.le_refl _) (xent_len hlen) (xent_has hl) hP ⟨hD0.self, hSC⟩ va_S.rf
    dsimp only at this
    rw [Nat.sub_self, Nat.sub_self] at this
    exact this
  · cases hrun
/-- how a call goes on, by what it gives back -/
def xpu : Option Value → List Value → Prop
  | none, pu => pu = []
  | some (.int v), pu => pu = [.int v]
  | some (.long v), pu => pu = [.long v]
  | _, _ => False
/-- a call that goes through, from any caller in the class own of depth d -/
def xCallee (l : Launch) (own : String) (d key : Nat) (vs : List Value) (h : xS) (r : Option Value) (h' : xS) : Prop :=
  ∀ (p : Program) (e : Env) (R : Room) (s : State) (m : MethodId) (args : Array Value) (below : List Frame) (meth : Method) (c : Code) (cc : ByteArray) (D : va_G) (tc : Nat → ClassId) (nL n0 : Nat) (A : Nat → Prop) (init : Bool) (rt : Option FieldType) (pc : Nat) (ad : Nat → Nat) (ls : Array Slot) (H : Heap) (locs : List Loc) (cells slots : Nat) (rest : List Value),
    xCx p s m args meth c own cc nL D tc A n0 init rt → d ≤ R.frames → 40 * d ≤ R.locals → decode cc pc = .ok (xiv key, 3) → xcat rest = true → ls.size = nL → va_P D vwCl (xw tc ad h.1) H → xD s A tc ad h.1 → va_S A s.heap H locs → cells + (h'.2.1 - h.2.1) ≤ R.cells → slots + (h'.2.2 - h.2.2) ≤ R.slots →
    va_Run p l e R s m args below meth c H locs cells slots (h'.2.1 - h.2.1) (h'.2.2 - h.2.2) (F0 m pc ls ((vs.reverse ++ rest).map (xv ad))) (rest.map (xv ad)) (xQ D tc ad h.1.length (va_A (xw tc ad h.1) H.size) h' r (vs.map (xv ad)).toArray) (va_A (xw tc ad h.1) H.size)
theorem xsite {l : Launch} {own : String} {d key n : Nat} {b : Bool} {F : xF} (hm : ∀ vs h pu h', xres F vs h pu h' → xle h h' ∧ xna b h h') (hc : ∀ vs h pu h', vs.length = n → xres F vs h pu h' → ∃ r, xpu r pu ∧ xCallee l own d key vs h r h') : xSite l own d key n b F := by
  refine ⟨hm, ?_⟩
  intro p e R s m args below meth c cc D tc nL n0 ad0 A c0 s0 Q init rt pc L vs rest h pu h' hC hd1 hd2 hdec hn hcat hb hr k1 k2 k3 k4 hz
  obtain ⟨r, hpu, hrun⟩ := hc vs h pu h' hn hr
  obtain ⟨hle, hna⟩ := hm vs h pu h' hr
  have g1 := hle.1
  have g2 := hle.2.1
  have g3 := hle.2.2.1
  have g4 := hle.2.2.2
  intro ad ls H locs ha hab hn0 hL hl hP hD hS
  dsimp only at hab hn0 hL hl hP hD ⊢
  have hrun := hrun p e R s m args below meth c cc D tc nL n0 A init rt pc ad ls H locs (h.2.1 - c0) (h.2.2 - s0) rest hC hd1 hd2 hdec hcat hl.1 hP hD hS (by omega) (by omega)
  have hA := hC.2.2.2.2.2.2.2.2.1
  have hF : ∀ q, va_A (xw tc ad h.1) H.size q → A q := by
    intro q hq
    rcases hq with ⟨k, ee, hk⟩ | hq
    · exact hD.1.2 k _ hk
    · exact hA q (Nat.le_trans hS.1 hq)
  have key2 : ∀ (u : Nat → Nat) (t : State) (H1 : Heap) (locs1 : List Loc), t.heap = H1 → s.vm.Alike t.vm → xAg h.1.length ad h' u → xB D tc (va_A (xw tc ad h.1) H.size) h' u t → va_S A s.heap H1 locs1 → W p l e R s m args below meth c H1 locs1 (h.2.1 - c0 + (h'.2.1 - h.2.1)) (h.2.2 - s0 + (h'.2.2 - h.2.2)) Q (F0 m (pc + 3) ls ((pu.map (xv ad)) ++ rest.map (xv ad))) := by
    intro u t H1 locs1 ht hvm hag hB hS1
    obtain ⟨a1, a2, a3⟩ := hag
    obtain ⟨b1, b2, b3⟩ := hB
    rw [ht] at b1
    have eL : lv_has ls nL (xl u L) ∧ rest.map (xv u) = rest.map (xv ad) := by
      cases hbb : b with
      | false =>
        have := a2 (hna hbb)
        subst this
        exact ⟨hl, rfl⟩
      | true => exact ⟨xad_L a1 (hb hbb).1 hl, xad_S a1 (hb hbb).2⟩
    have ep : pu.map (xv u) = pu.map (xv ad) := by
      cases r with
      | none => cases hpu; rfl
      | some v => cases v <;> first | (cases hpu; rfl) | cases hpu
    have := hz u ls H1 locs1 (fun k hk => (a1 k (Nat.lt_of_lt_of_le hk hn0)).trans (ha k hk)) (fun he => by
        have e1 : h.1.length = n0 := by dsimp only at he; omega
        rw [a2 (by dsimp only at he; omega)]
        exact hab e1) (Nat.le_trans hn0 g1) hL eL.1 b1 ⟨b3.weaken (fun _ _ _ hq => hF _ hq), xSC_kp hD.2 g4 a1⟩ hS1
    dsimp only at this
    rw [List.map_append, ep, eL.2, show h'.2.1 - c0 = h.2.1 - c0 + (h'.2.1 - h.2.1) by omega, show h'.2.2 - s0 = h.2.2 - s0 + (h'.2.2 - h.2.2) by omega] at this
    exact this
  cases r with
  | none =>
    cases hpu
    exact va_callv (a := (vs.map (xv ad)).toArray) hrun hS (fun q _ hq => hF q hq) hF (fun u t H1 locs1 ht hvm hp hB hz1 hk1 hS1 => key2 u t H1 locs1 ht hvm hp hB hS1)
  | some v =>
    cases v with
    | int v =>
      cases hpu
      exact va_calli (a := (vs.map (xv ad)).toArray) hrun hS (fun q _ hq => hF q hq) hF (fun r u t H1 locs1 ht hvm hp hB hz1 hk1 hS1 => by rw [hp.1]; exact key2 u t H1 locs1 ht hvm hp.2 hB hS1)
    | long v =>
      cases hpu
      exact va_calll (a := (vs.map (xv ad)).toArray) hrun hS (fun q _ hq => hF q hq) hF (fun r u t H1 locs1 ht hvm hp hB hz1 hk1 hS1 => by rw [hp.1]; exact key2 u t H1 locs1 ht hvm hp.2 hB hS1)
    | _ => cases hpu
