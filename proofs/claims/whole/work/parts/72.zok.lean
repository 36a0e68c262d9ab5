/-! A METHOD'S CONTRACT, to a depth of calls; calls by their entries in a class's pool -/
theorem ylk_mem {α : Type} : ∀ {l : List (Nat × α)} {n : Nat} {v : α}, ylk l n = some v → (n, v) ∈ l := by
  intro l
  induction l with
  | nil => intro n v h; cases h
  | cons q r ih =>
    intro n v h
    obtain ⟨k, w⟩ := q
    simp only [ylk] at h
    split at h
    · rename_i hk
      cases h
      rw [Nat.eq_of_beq_eq_true hk]
      exact List.mem_cons_self
    · exact List.mem_cons_of_mem _ (ih h)
def xMetW (l : Launch) (y : MethodName) (cc : ByteArray) (nL : Nat) (ret : Option FieldType) (hh : List (Nat × Nat × Nat × Nat)) (d : Nat) (vs : List Value) (h0 : xS) (r : Option Value) (h1 : xS) : Prop :=
  ∀ (D : va_G) (tc : Nat → ClassId) (ad : Nat → Nat) (sz : Nat), Met l y (.codeWith y cc nL ret hh :: xT) (xrm d h0 h1) (va_Pc (vs.map (xv ad)) (xPre D tc ad sz h0)) (xQ D tc ad h0.1.length (va_A (xw tc ad h0.1) sz) h1 r) (h1.2.1 - h0.2.1) (h1.2.2 - h0.2.2) (va_A (xw tc ad h0.1) sz)
def hhC : List (Nat × Nat × Nat × Nat) := [(0, 5, 8, 379), (0, 5, 19, 343), (0, 5, 25, 350)]
def hhE : List (Nat × Nat × Nat × Nat) := [(0, 9, 12, 13), (0, 9, 16, 15)]
def zM (l : Launch) (d m : Nat) : Prop := ∀ X vs h r h', mtab[m]? = some X → zcall d m vs h = some (r, h') → xMet l X.1 X.2.1 X.2.2.1 X.2.2.2.1 (d + 20) vs h r h'
def zOk (l : Launch) (d : Nat) : Prop := (∀ m, zM l d m) ∧ (∀ vs h r h', zcall d 900 vs h = some (r, h') → xMetW l yX11_caughtFailure cX11_caughtFailure 3 (some .int) hhC (d + 20) vs h r h') ∧ (∀ vs h r h', zcall d 901 vs h = some (r, h') → xMetW l yL_element cL_element 5 (some .int) hhE (d + 20) vs h r h')
/-- words by their places -/
theorem xTi (i : Nat) {w : Cond} (h : tables_1[i]? = some w) (hg : goodWord w = true) : w ∈ xT := List.mem_filter.mpr ⟨List.mem_append_right _ (List.mem_of_getElem? h), hg⟩
theorem xTs {q : MethodName × Nat} (i : Nat) (h : lw_privs[i]? = some q) : Cond.selects q.1.cls q.1 q.1 ∈ xT := List.mem_filter.mpr ⟨List.mem_append_left _ (List.mem_map.mpr ⟨q, List.mem_of_getElem? h, rfl⟩), rfl⟩
theorem xNi (i : Nat) {w : Cond} (h : tables_1[i]? = some w) (hg : xnw w = true) : w ∈ xNW := List.mem_filter.mpr ⟨List.mem_of_getElem? h, hg⟩
theorem zrk_inv {F : List Value → xS → Option (Option Value × xS)} {rk : Nat} {vs : List Value} {h : xS} {pu : List Value} {h' : xS} (hr : xres (zrk rk F) vs h pu h') : ∃ r, F vs h = some (r, h') ∧ xpu r pu := by
  obtain _ | _ | rk := rk
  · obtain ⟨e, hp⟩ := hr
    replace e : zrv (F vs h) = some h' := e
    unfold zrv at e
    split at e
    · rename_i h2 e2; cases e; exact ⟨_, e2, hp⟩
    · cases e
  · obtain ⟨r, e, hp⟩ := hr
    replace e : zri (F vs h) = some (r, h') := e
    unfold zri at e
    split at e
    · rename_i x h2 e2; cases e; exact ⟨_, e2, hp⟩
    · cases e
  · obtain ⟨r, e, hp⟩ := hr
    replace e : zrl (F vs h) = some (r, h') := e
    unfold zrl at e
    split at e
    · rename_i x h2 e2; cases e; exact ⟨_, e2, hp⟩
    · cases e
theorem zvt_inv {tab : List (Nat × Nat)} {Z : zC} {vs : List Value} {h : xS} {r : Option Value} {h' : xS} (e : zvt tab Z vs h = some (r, h')) : ∃ a As ci m, vs = .ref a :: As ∧ xis h a ci = true ∧ (ci, m) ∈ tab ∧ Z m vs h = some (r, h') := by
  unfold zvt at e
  split at e
  · rename_i a As
    split at e
    · rename_i ci fs hc
      split at e
      · rename_i m hm
        refine ⟨a, As, ci, m, rfl, ?_, ylk_mem hm, e⟩
        unfold xis
        rw [hc]
        simp
      · cases e
    · cases e
  · cases e
section ZS
variable {l : Launch} {own : String} {d k n rk m key : Nat} {X : yMth}
theorem zs_S (hk : key = 3 * k + 1) (ih : zM l d m) (hX : mtab[m]? = some X) (hw : xYw X.1 X.2.1 X.2.2.1 X.2.2.2.1 n) (h1 : Cond.methodLink own k X.1 ∈ xT) (h2 : Cond.static X.1 ∈ xT) : xSite l own (d + 21) key n false (zfn (n, rk, 0, [], m) (zcall d)) := by
  subst hk
  refine xsite (zfn_le (zcall_le d) _) (fun vs h pu h' hn hr => ?_)
  obtain ⟨r, e, hp⟩ := zrk_inv (F := zcall d m) hr
  subst hn
  exact ⟨r, hp, xk_S (ih X vs h r h' hX e) hw h1 h2 (by omega)⟩
theorem zs_SN {host : String} (hk : key = 3 * k + 1) (ih : zM l d m) (hX : mtab[m]? = some X) (hw : xYw X.1 X.2.1 X.2.2.1 X.2.2.2.1 n) (h1 : Cond.methodLinkNest own k X.1 host ∈ xNW) (h2 : Cond.static X.1 ∈ xT) : xSite l own (d + 21) key n false (zfn (n, rk, 0, [], m) (zcall d)) := by
  subst hk
  refine xsite (zfn_le (zcall_le d) _) (fun vs h pu h' hn hr => ?_)
  obtain ⟨r, e, hp⟩ := zrk_inv (F := zcall d m) hr
  subst hn
  exact ⟨r, hp, xk_SN (ih X vs h r h' hX e) hw h1 h2 (by omega)⟩
theorem zs_V {ci : Nat} {q : vw_C} (hk : key = 3 * k) (ih : zM l d m) (hX : mtab[m]? = some X) (hw : xYw X.1 X.2.1 X.2.2.1 X.2.2.2.1 n) (h1 : Cond.methodLink own k X.1 ∈ xT) (h2 : Cond.instanceMethod X.1 ∈ xT) (h3 : Cond.selects X.1.cls X.1 X.1 ∈ xT) (hq : vwCl[ci]? = some q) (hqc : q.1 = X.1.cls) : xSite l own (d + 21) key (n + 1) false (zfn (n + 1, rk, 1, [(ci, m)], 0) (zcall d)) := by
  subst hk
  refine xsite (zfn_le (zcall_le d) _) (fun vs h pu h' hn hr => ?_)
  obtain ⟨r, e, hp⟩ := zrk_inv (F := zvt [(ci, m)] (zcall d)) hr
  obtain ⟨a, As, cj, m', rfl, hi, hm, e2⟩ := zvt_inv e
  simp only [List.mem_singleton, Prod.mk.injEq] at hm
  obtain ⟨rfl, rfl⟩ := hm
  have hn : As.length = n := by simpa using hn
  subst hn
  exact ⟨r, hp, xk_V (ih X _ h r h' hX e2) hw h1 h2 h3 (by omega) hq hqc hi⟩
theorem zs_VN {ci : Nat} {q : vw_C} {host : String} (hk : key = 3 * k) (ih : zM l d m) (hX : mtab[m]? = some X) (hw : xYw X.1 X.2.1 X.2.2.1 X.2.2.2.1 n) (h1 : Cond.methodLinkNest own k X.1 host ∈ xNW) (h2 : Cond.instanceMethod X.1 ∈ xT) (h3 : Cond.selects X.1.cls X.1 X.1 ∈ xT) (hq : vwCl[ci]? = some q) (hqc : q.1 = X.1.cls) : xSite l own (d + 21) key (n + 1) false (zfn (n + 1, rk, 1, [(ci, m)], 0) (zcall d)) := by
  subst hk
  refine xsite (zfn_le (zcall_le d) _) (fun vs h pu h' hn hr => ?_)
  obtain ⟨r, e, hp⟩ := zrk_inv (F := zvt [(ci, m)] (zcall d)) hr
  obtain ⟨a, As, cj, m', rfl, hi, hm, e2⟩ := zvt_inv e
  simp only [List.mem_singleton, Prod.mk.injEq] at hm
  obtain ⟨rfl, rfl⟩ := hm
  have hn : As.length = n := by simpa using hn
  subst hn
  exact ⟨r, hp, xk_VN (ih X _ h r h' hX e2) hw h1 h2 h3 (by omega) hq hqc hi⟩
theorem zs_U {tab : List (Nat × Nat)} {x : MethodName} {b0 : ByteArray} {m0 : Nat} {r0 : Option FieldType} (hk : key = 3 * k) (ih : ∀ m, zM l d m) (hx2 : x.cls ≠ "java/lang/invoke/MethodHandle" ∧ x.cls ≠ "java/lang/invoke/VarHandle") (h1 : Cond.methodLink own k x ∈ xT) (h2 : Cond.sameMethod x.cls x.cls x.name x.desc ∈ xT) (h3 : Cond.instanceMethod x ∈ xT) (h6 : Cond.code x b0 m0 r0 ∈ xT)
    (ht : ∀ q ∈ tab, ∃ X c, mtab[q.2]? = some X ∧ vwCl[q.1]? = some c ∧ xYw X.1 X.2.1 X.2.2.1 X.2.2.2.1 n ∧ X.1.desc = x.desc ∧ Cond.selects c.1 x X.1 ∈ xT ∧ Cond.instanceMethod X.1 ∈ xT) : xSite l own (d + 21) key (n + 1) false (zfn (n + 1, rk, 1, tab, 0) (zcall d)) := by
  subst hk
  refine xsite (zfn_le (zcall_le d) _) (fun vs h pu h' hn hr => ?_)
  obtain ⟨r, e, hp⟩ := zrk_inv (F := zvt tab (zcall d)) hr
  obtain ⟨a, As, cj, m', rfl, hi, hm, e2⟩ := zvt_inv e
  obtain ⟨X, c, t1, t2, t3, t4, t5, t6⟩ := ht _ hm
  have hn : As.length = n := by simpa using hn
  subst hn
  exact ⟨r, hp, xk_U (ih m' X _ h r h' t1 e2) t3 t4 hx2 h1 h2 h3 t5 t6 h6 (by omega) t2 hi⟩
theorem zs_SU {tab : List (Nat × Nat)} (hk : key = 3 * k + 2) (ih : ∀ m, zM l d m) (hX : mtab[m]? = some X) (hw : xYw X.1 X.2.1 X.2.2.1 X.2.2.2.1 n) (hn0 : X.1.name ≠ "<init>") (h1 : Cond.methodLink own k X.1 ∈ xT) (h2 : Cond.sameMethod X.1.cls X.1.cls X.1.name X.1.desc ∈ xT) (h3 : Cond.superclass own X.1.cls ∈ xT) (h4 : Cond.instanceMethod X.1 ∈ xT)
    (ht : ∀ q ∈ tab, q.2 = m ∧ ∃ c, vwCl[q.1]? = some c) : xSite l own (d + 21) key (n + 1) false (zfn (n + 1, rk, 1, tab, 0) (zcall d)) := by
  subst hk
  refine xsite (zfn_le (zcall_le d) _) (fun vs h pu h' hn hr => ?_)
  obtain ⟨r, e, hp⟩ := zrk_inv (F := zvt tab (zcall d)) hr
  obtain ⟨a, As, cj, m', rfl, hi, hm, e2⟩ := zvt_inv e
  obtain ⟨rfl, c, t2⟩ := ht _ hm
  have hn : As.length = n := by simpa using hn
  subst hn
  exact ⟨r, hp, xk_SU (ih _ X _ h r h' hX e2) hw hn0 h1 h2 h3 h4 (by omega) t2 hi⟩
/-- a static call of a method with a table of handlers -/
theorem xk_SW {vs : List Value} {h h' : xS} {r : Option Value} {y : MethodName} {cy : ByteArray} {nY dY d : Nat} {ret : Option FieldType} {hh : List (Nat × Nat × Nat × Nat)} (hM : xMetW l y cy nY ret hh dY vs h r h') (w1 : Cond.codeWith y cy nY ret hh ∈ xT) (w2 : Cond.initialized y.cls ∈ xT) (w3 : y.cls ≠ "java/lang/invoke/MethodHandle" ∧ y.cls ≠ "java/lang/invoke/VarHandle") (w5 : (parseMethodDescriptor y.desc).map (fun d => d.parameters.length) = some vs.length) (w6 : nY ≤ 21) (h1 : Cond.methodLink own k y ∈ xT) (h2 : Cond.static y ∈ xT) (hd : dY < d) : xCallee l own d (3 * k + 1) vs h r h' := by
  intro p e R s m args below meth c cc D tc nL n0 A init rt pc ad ls H locs cells slots rest hC hd1 hd2 hdec hcat hsz hP hD hS hc1 hc2
  obtain ⟨hx, hb, hml, hown, hts, hnw, hlk, hK, hA, hEx, -⟩ := hC
  have hdec : decode cc pc = .ok (.invokestatic k, 3) := by rw [hdec]; unfold xiv; rw [show (3 * k + 1) % 3 = 1 by omega, show (3 * k + 1) / 3 = k by omega]; rfl
  have hlen : ∀ sig, parseMethodDescriptor y.desc = some sig → vs.length = sig.parameters.length := by
    intro sig hs
    rw [hs] at w5
    exact (Option.some.inj w5).symm
  exact vx_runSW (As := vs.map (xv ad)) (g := F0 m pc ls _) ⟨hx, hb, hml, hown, hts⟩ (hM D tc ad H.size) ⟨⟨rfl, rfl, by show dY + 1 ≤ R.frames; omega, by show 8 + (nY + 11) + 40 * dY ≤ R.locals; omega, pay_in hts (xgood w1), List.mem_cons_self⟩, hts _ w1, hts _ w2, w3, hlen, hts _ h1, hts _ h2⟩ ⟨xblind, xpre hK hnw hA hEx hS hP hD⟩ rfl (by simp) hsz (by simp) (lv_room (xcat_ok hcat)) hdec ⟨hc1, hc2⟩
theorem zs_W {y : MethodName} {cy : ByteArray} {nY : Nat} {ret : Option FieldType} {hh : List (Nat × Nat × Nat × Nat)} (hk : key = 3 * k + 1) (ih : ∀ vs h r h', zcall d m vs h = some (r, h') → xMetW l y cy nY ret hh (d + 20) vs h r h') (w1 : Cond.codeWith y cy nY ret hh ∈ xT) (w2 : Cond.initialized y.cls ∈ xT) (w3 : y.cls ≠ "java/lang/invoke/MethodHandle" ∧ y.cls ≠ "java/lang/invoke/VarHandle") (w5 : (parseMethodDescriptor y.desc).map (fun d => d.parameters.length) = some n) (w6 : nY ≤ 21) (h1 : Cond.methodLink own k y ∈ xT) (h2 : Cond.static y ∈ xT) : xSite l own (d + 21) key n false (zfn (n, rk, 0, [], m) (zcall d)) := by
  subst hk
  refine xsite (zfn_le (zcall_le d) _) (fun vs h pu h' hn hr => ?_)
  obtain ⟨r, e, hp⟩ := zrk_inv (F := zcall d m) hr
  subst hn
  exact ⟨r, hp, xk_SW (ih vs h r h' e) w1 w2 w3 w5 w6 h1 h2 (by omega)⟩
end ZS
/-! what is to be shown of a class's pool and of a method; the contracts out of it -/
def zPool (l : Launch) (K : yCls) : Prop := (∀ q ∈ K.2.1, xFd K.1 q.1 q.2.1 q.2.2.1 q.2.2.2.1 q.2.2.2.2) ∧ (∀ q ∈ K.2.2.1, match q.2 with | .inl v => Cond.constant K.1 q.1 v ∈ xT | .inr v => Cond.constantLong K.1 q.1 v ∈ xT) ∧ ∀ d, zOk l d → ∀ q ∈ K.2.2.2, xSite l K.1 (d + 21) q.1 q.2.1 false (zfn q.2 (zcall d))
theorem zE {l : Launch} {d : Nat} {X : yMth} (hp : zPool l X.2.2.2.2.2.2) (h : zOk l d) : xEOk l X.2.2.2.2.2.2.1 (d + 21) (zenv X (zcall d)) := by
  obtain ⟨p1, p2, p3⟩ := hp
  refine ⟨fun n ci k kd fin e => p1 _ (ylk_mem e), fun n v e => p2 _ (ylk_mem e), fun n v e => p2 _ (ylk_mem e), fun key n b F e => ?_, fun k ci N fs e => absurd (show (none : Option (Nat × Nat × List Value)) = some (ci, N, fs) from e) (fun z => by cases z), fun k t e => absurd (show (none : Option Nat) = some t from e) (fun z => by cases z)⟩
  obtain ⟨s, h1, h2⟩ := Option.map_eq_some_iff.mp e
  cases h2
  exact p3 d h _ (ylk_mem h1)
def zMok (l : Launch) (X : yMth) : Prop := plainName X.1.cls = true ∧ X.2.2.2.2.1.all (xdecB X.2.1) = true ∧ X.2.2.2.2.2.2.1 = X.1.cls ∧ zPool l X.2.2.2.2.2.2
theorem zM_step {l : Launch} {d : Nat} (hcl : xClOk) (hm : ∀ X ∈ mtab, zMok l X) (ih : zOk l d) (m : Nat) : zM l (d + 1) m := by
  intro X vs h r h' hX e
  obtain ⟨h1, h2, h3, h4⟩ := hm X (List.mem_of_getElem? hX)
  simp only [zcall] at e
  rw [hX] at e
  dsimp only at e
  split at e
  · rename_i hle
    obtain ⟨n, hn⟩ := xbig_ex e
    have hE := zE h4 ih
    rw [h3] at hE
    exact xcert (d := d + 1 + 20) (E := zenv X (zcall d)) (cd := ylk X.2.2.2.2.1) (N := n) h1 hcl (by rw [show d + 1 + 20 = d + 21 by omega]; exact hE) (fun z => absurd (show false = true from z) (fun z => by cases z)) rfl (fun pc i hi => xdec_of (q := (pc, i)) (List.all_eq_true.mp h2 _ (ylk_mem hi))) (by unfold xfn; rw [if_pos (Nat.le_of_ble_eq_true hle)]; exact hn)
  · cases e
