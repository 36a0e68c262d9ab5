/-! THE PURE MACHINE IS THE REAL ONE: a step of it is a step of the kit's -/
def xT : List Cond := lw_tbl.filter goodWord
def xnw : Cond → Bool
  | .fieldLinkNest .. | .methodLinkNest .. | .castable .. | .declares _ | .arrayOver (.object _) => true
  | _ => false
def xNW : List Cond := tables_1.filter xnw
theorem xnw_warm {w : Cond} (h : xnw w = true) {s U : State} (hW : s.WarmedH U.vm) (hz : va_Nw w s) : va_Nw w U := by
  cases w with
  | fieldLinkNest a i b n d k => exact va_Nw.warmF hW hz
  | methodLinkNest a i x k => exact va_Nw.warmM hW hz
  | castable C T => exact va_Nw.warmC hW hz
  | declares x => exact va_Nw.warmD hW hz
  | arrayOver ty =>
    cases ty with
    | object C => exact va_AO.moved hW.alike hz
    | _ => cases h
  | _ => cases h
theorem xnw_same {w : Cond} (h : xnw w = true) {u U : State} (e : u.vm = U.vm) (hz : va_Nw w u) : va_Nw w U := by
  cases w with
  | fieldLinkNest a i b n d k => exact va_Nw.same rfl e hz
  | methodLinkNest a i x k => exact va_Nw.same rfl e hz
  | castable C T => exact va_Nw.same rfl e hz
  | declares x => exact va_Nw.same rfl e hz
  | arrayOver ty =>
    cases ty with
    | object C => exact va_AO.moved (by rw [e]; exact Vm.Alike.refl _) hz
    | _ => cases h
  | _ => cases h
abbrev xty (tc : Nat → ClassId) : List (ClassId × FieldType) := [(tc 0, .int), (tc 1, .object RX8), (tc 2, .object RX7), (tc 3, .long)]
/-- String constants that are thrown; classes of exceptions that are not those of others -/
def xStr : List (String × Nat × String) := [("DegreeInMistakes$Don", 13, "a don's failure"), ("DegreeInMistakes$Genius", 17, "a genius's failure"), ("DegreeInMistakes$Student", 9, "a student's failure"), ("DegreeInMistakes", 345, "no such shelf"), ("DegreeInMistakes", 352, "no row"), ("DegreeInMistakes", 355, "no such place")]
def xNcl : List (String × String) := [("java/lang/IllegalArgumentException", "java/lang/UnsupportedOperationException"), ("java/lang/IllegalStateException", "java/lang/UnsupportedOperationException"), ("java/lang/IllegalStateException", "java/lang/IllegalArgumentException")]
/-- what exceptions rest on: two statics of Throwable, outside of what may be written; the texts; the classes apart -/
def xEx (A : Nat → Prop) (U : State) (H : Heap) : Prop := vx_Zq Bundle.tN "UNASSIGNED_STACK" Bundle.steD A U H ∧ vx_Zq Bundle.tN "SUPPRESSED_SENTINEL" Bundle.listD A U H ∧ (∀ q ∈ xStr, ∃ a, vk_R q.1 q.2.1 q.2.2 a U) ∧ (∀ q ∈ xNcl, va_Nc q.1 q.2 U)
theorem xEx_go {A B : Nat → Prop} {s U : State} {H : Heap} {locs : List Loc} (h : xEx A s s.heap) (hS : va_S A s.heap H locs) (hAB : ∀ q, B q → A q) (hU : U.heap = H) (hW : s.WarmedH U.vm) : xEx B U U.heap := by
  obtain ⟨h1, h2, h3, h4⟩ := h
  refine ⟨?_, ?_, fun q hq => ?_, fun q hq => va_Nc.moved hW.alike (h4 q hq)⟩
  · rw [hU]
    exact (vx_Zq.moved hW.alike (h1.kept hS.2.1)).narrow hAB
  · rw [hU]
    exact (vx_Zq.moved hW.alike (h2.kept hS.2.1)).narrow hAB
  · obtain ⟨a, ha⟩ := h3 q hq
    exact ⟨a, vk_R.warm hW ha⟩
theorem xEx_same {A : Nat → Prop} {u U : State} {H : Heap} (h : xEx A u H) (e : U.vm = u.vm) : xEx A U H := by
  obtain ⟨h1, h2, h3, h4⟩ := h
  have hvm : u.vm.Alike U.vm := by rw [e]; exact Vm.Alike.refl _
  exact ⟨vx_Zq.moved hvm h1, vx_Zq.moved hvm h2, fun q hq => (by obtain ⟨a, ha⟩ := h3 q hq; exact ⟨a, vk_R.same e ha⟩), fun q hq => va_Nc.moved hvm (h4 q hq)⟩
/-- the script: it lies where nothing is written, and holds its ints -/
def xSC (s : State) (A : Nat → Prop) (ad : Nat → Nat) (os : List xO) : Prop := ∀ (a n : Nat) (f : Nat → Int32), os[a]? = some (.inl (4, n, .inl f)) → ¬ A (ad a) ∧ va_X (ad a) n f s s.heap
/-- the addresses are apart and of a kind; the script -/
def xD (s : State) (A : Nat → Prop) (tc : Nat → ClassId) (ad : Nat → Nat) (os : List xO) : Prop := va_D A (xw tc ad os) ∧ xSC s A ad os
/-- no script comes into being -/
def xkp (os os' : List xO) : Prop := ∀ (a n : Nat) (f : Nat → Int32), os'[a]? = some (.inl (4, n, .inl f)) → os[a]? = some (.inl (4, n, .inl f))
theorem xkp_set {os : List xO} {k : Nat} {o : xO} (hs : xsc o = false) : xkp os (os.set k o) := by
  intro a n f h
  rw [List.getElem?_set] at h
  split at h
  · split at h
    · cases h
      cases hs
    · cases h
  · exact h
theorem xkp_app {os : List xO} {o : xO} (hs : xsc o = false) : xkp os (os ++ [o]) := by
  intro a n f h
  rw [List.getElem?_append] at h
  split at h
  · exact h
  · rw [List.getElem?_singleton] at h
    split at h
    · cases h
      cases hs
    · cases h
theorem xSC_kp {s : State} {A : Nat → Prop} {ad ad' : Nat → Nat} {os os' : List xO} (h : xSC s A ad os) (hk : xkp os os') (ha : ∀ k, k < os.length → ad' k = ad k) : xSC s A ad' os' := by
  intro a n f hf
  have h1 := hk a n f hf
  rw [ha a (List.getElem?_eq_some_iff.mp h1).1]
  exact h a n f h1
/-- what holds of a method's start: the machine, its code, the words, the cells' kinds -/
def xCx (p : Program) (s : State) (m : MethodId) (args : Array Value) (meth : Method) (c : Code) (own : String) (cc : ByteArray) (nL : Nat) (D : va_G) (tc : Nat → ClassId) (A : Nat → Prop) (n0 : Nat) (init : Bool) (rt : Option FieldType) : Prop :=
  p.tables.exec = Jvm.exec ∧ c.code = cc ∧ c.maxLocals = nL ∧ s.vm.findClass own = some m.cls ∧ (∀ w ∈ xT, w.before args s = true) ∧ (∀ w ∈ xNW, va_Nw w s) ∧ meth.locks = false ∧ va_K D vwCl (xty tc) s ∧ (∀ q, s.heap.size ≤ q → A q) ∧ xEx A s s.heap ∧ (init = true → meth.name = "<init>") ∧ meth.sig.returnType = rt
def xZ (p : Program) (l : Launch) (e : Env) (R : Room) (s : State) (m : MethodId) (args : Array Value) (below : List Frame) (meth : Method) (c : Code) (D : va_G) (tc : Nat → ClassId) (nL n0 : Nat) (ad0 : Nat → Nat) (A : Nat → Prop) (c0 s0 : Nat) (Q : State → Prop) (q : xSt) : Prop :=
  ∀ (ad : Nat → Nat) (ls : Array Slot) (H : Heap) (locs : List Loc), (∀ k, k < n0 → ad k = ad0 k) → (q.2.2.2.1.length = n0 → ad = ad0) → n0 ≤ q.2.2.2.1.length → q.2.1.length = nL → lv_has ls nL (xl ad q.2.1) → va_P D vwCl (xw tc ad q.2.2.2.1) H → xD s A tc ad q.2.2.2.1 → va_S A s.heap H locs →
    W p l e R s m args below meth c H locs (q.2.2.2.2.1 - c0) (q.2.2.2.2.2 - s0) Q (F0 m q.1 ls (q.2.2.1.map (xv ad)))
def xle (h h' : xS) : Prop := h.1.length ≤ h'.1.length ∧ h.2.1 ≤ h'.2.1 ∧ h.2.2 ≤ h'.2.2 ∧ xkp h.1 h'.1
theorem xle_r (h : xS) : xle h h := ⟨Nat.le_refl _, Nat.le_refl _, Nat.le_refl _, fun _ _ _ h => h⟩
theorem xle_t {a b c : xS} (h1 : xle a b) (h2 : xle b c) : xle a c := ⟨Nat.le_trans h1.1 h2.1, Nat.le_trans h1.2.1 h2.2.1, Nat.le_trans h1.2.2.1 h2.2.2.1, fun i n f h => h1.2.2.2 i n f (h2.2.2.2 i n f h)⟩
/-- no new cell -/
def xna (b : Bool) (h h' : xS) : Prop := b = false → h'.1.length = h.1.length
theorem xna_r (b : Bool) (h : xS) : xna b h h := fun _ => rfl
theorem xna_t {b : Bool} {h1 h2 h3 : xS} (a : xna b h1 h2) (c : xna b h2 h3) : xna b h1 h3 := fun hb => (c hb).trans (a hb)
/-- where the pure machine goes, and that the real one goes there with it -/
def xGo {ρ : Type} (p : Program) (l : Launch) (e : Env) (R : Room) (s : State) (m : MethodId) (args : Array Value) (below : List Frame) (meth : Method) (c : Code) (D : va_G) (tc : Nat → ClassId) (nL n0 : Nat) (ad0 : Nat → Nat) (A : Nat → Prop) (c0 s0 : Nat) (Q : State → Prop) (init : Bool) (q : xSt) (K : xSt → Option ρ) (x : ρ) : Prop :=
  ∃ q', K q' = some x ∧ xle q.2.2.2 q'.2.2.2 ∧ xna init q.2.2.2 q'.2.2.2 ∧ (c0 ≤ q.2.2.2.2.1 → s0 ≤ q.2.2.2.2.2 → q'.2.2.2.2.1 - c0 ≤ R.cells → q'.2.2.2.2.2 - s0 ≤ R.slots → xZ p l e R s m args below meth c D tc nL n0 ad0 A c0 s0 Q q' → xZ p l e R s m args below meth c D tc nL n0 ad0 A c0 s0 Q q)
/-- the lengths of the instructions that are used -/
def xlen : Instr → Option Nat
  | .bipush _ | .ldc _ | .iload _ | .lload _ | .aload _ | .istore _ | .lstore _ | .astore _ | .newarray _ => some 2
  | .sipush _ | .ldc_w _ | .ldc2_w _ | .iinc _ _ | .goto _ | .ifCond _ _ | .if_icmp _ _ | .getfield _ | .putfield _ | .anewarray _ | .new _ | .invokevirtual _ | .invokestatic _ | .invokespecial _ => some 3
  | .tableswitch .. | .lookupswitch .. => none
  | _ => some 1
def xjok (pc : Nat) : Instr → Bool
  | .goto o | .ifCond _ o | .if_icmp _ o => decide (0 ≤ (pc : Int) + o)
  | .tableswitch d lo hi offs => decide (0 ≤ (pc : Int) + d) && offs.toList.all (fun o => decide (0 ≤ (pc : Int) + o)) && decide (hi - lo + 1 = (offs.toList.length : Int)) && decide (-2147483648 ≤ lo) && decide (hi < 2147483648)
  | .lookupswitch d ps => decide (0 ≤ (pc : Int) + d) && ps.toList.all (fun q => decide (0 ≤ (pc : Int) + q.2) && decide (-2147483648 ≤ q.1) && decide (q.1 < 2147483648)) && (ps.toList.zip (ps.toList.drop 1)).all (fun (a, next) => a.1 < next.1)
  | _ => true
def xdec (cc : ByteArray) (pc : Nat) (i : Instr) : Prop := (∃ n, decode cc pc = .ok (i, n) ∧ ∀ k, xlen i = some k → n = k) ∧ xjok pc i = true
def xdecB (cc : ByteArray) (q : Nat × Instr) : Bool := match decode cc q.1 with
  | .ok (i, n) => decide (i = q.2) && (match xlen q.2 with | some k => n == k | none => true) && xjok q.1 q.2
  | _ => false
theorem xdec_of {cc : ByteArray} {q : Nat × Instr} (h : xdecB cc q = true) : xdec cc q.1 q.2 := by
  unfold xdecB at h
  split at h
  · rename_i i n hd
    simp only [Bool.and_eq_true, decide_eq_true_eq] at h
    obtain ⟨⟨rfl, h2⟩, h3⟩ := h
    refine ⟨⟨n, hd, fun k hk => ?_⟩, h3⟩
    rw [hk] at h2
    simpa using h2
  · cases h
theorem xdec_l {cc : ByteArray} {pc : Nat} {i : Instr} {k : Nat} (h : xdec cc pc i) (hk : xlen i = some k) : decode cc pc = .ok (i, k) := by
  obtain ⟨⟨n, h1, h2⟩, -⟩ := h
  rw [h2 k hk] at h1
  exact h1
theorem xjmp_ok {pc : Nat} {o : Int} (h : 0 ≤ (pc : Int) + o) : (pc : Int) + o = ((xjmp pc o : Nat) : Int) := by
  unfold xjmp
  omega
/-- a field by its number in the pool: the link is there, plain or of a nest mate -/
def xFd (own : String) (n ci k kd : Nat) (fin : Bool) : Prop :=
  ∃ (C : String) (T : u_T) (N : Nat), vwCl[ci]? = some (C, T, N) ∧ k < N ∧ (T k).1 = C ∧ (T k).2.2.2 = fin ∧
    ((C = own ∧ Cond.fieldLink own n C (T k).2.1 (T k).2.2.1 ∈ xT) ∨ ((fin = false ∨ kd = 5) ∧ ∃ host, Cond.fieldLinkNest own n C (T k).2.1 (T k).2.2.1 host ∈ xNW)) ∧
    (kd = 5 ∨ (kd = 0 ∧ parseFieldDescriptor (T k).2.2.1 = some .int) ∨ (kd = 1 ∧ ∃ ty, parseFieldDescriptor (T k).2.2.1 = some ty ∧ ∀ a, narrow ty (.ref a) = .ref a ∧ fits ty (.ref a) = true) ∨ (kd = 2 ∧ parseFieldDescriptor (T k).2.2.1 = some .boolean))
def xClOk : Prop := ∀ (ci : Nat) (r : vw_C), vwCl[ci]? = some r → (∀ w ∈ u_ws r.1 r.2.1 r.2.2, w ∈ xT) ∧ (∃ ty : Nat → FieldType, (∀ k, k < r.2.2 → parseFieldDescriptor (r.2.1 k).2.2.1 = some (ty k))) ∧ (∀ a, a < r.2.2 → ∀ b, b < r.2.2 → a ≠ b → (r.2.1 a).2.1 ≠ (r.2.1 b).2.1)
/-- what a call does, as a relation -/
def xres : xF → List Value → xS → List Value → xS → Prop
  | .inl f, vs, h, pu, h' => f vs h = some h' ∧ pu = []
  | .inr (.inl f), vs, h, pu, h' => ∃ r, f vs h = some (r, h') ∧ pu = [.int r]
  | .inr (.inr f), vs, h, pu, h' => ∃ r, f vs h = some (r, h') ∧ pu = [.long r]
def xiv (key : Nat) : Instr := match key % 3 with
  | 0 => .invokevirtual (key / 3)
  | 1 => .invokestatic (key / 3)
  | _ => .invokespecial (key / 3)
/-- a call by its number in the pool, from methods of depth d -/
def xSite (l : Launch) (own : String) (d : Nat) (k : Nat) (n : Nat) (b : Bool) (F : xF) : Prop :=
  (∀ vs h pu h', xres F vs h pu h' → xle h h' ∧ xna b h h') ∧
  ∀ (p : Program) (e : Env) (R : Room) (s : State) (m : MethodId) (args : Array Value) (below : List Frame) (meth : Method) (c : Code) (cc : ByteArray) (D : va_G) (tc : Nat → ClassId) (nL n0 : Nat) (ad0 : Nat → Nat) (A : Nat → Prop) (c0 s0 : Nat) (Q : State → Prop) (init : Bool) (rt : Option FieldType) (pc : Nat) (L : List (Option Value)) (vs rest : List Value) (h : xS) (pu : List Value) (h' : xS),
    xCx p s m args meth c own cc nL D tc A n0 init rt → d ≤ R.frames → 40 * d ≤ R.locals → decode cc pc = .ok (xiv k, 3) → vs.length = n → xcat rest = true → (b = true → xokL h.1.length L = true ∧ rest.all (xokV h.1.length) = true) → xres F vs h pu h' →
    c0 ≤ h.2.1 → s0 ≤ h.2.2 → h'.2.1 - c0 ≤ R.cells → h'.2.2 - s0 ≤ R.slots → xZ p l e R s m args below meth c D tc nL n0 ad0 A c0 s0 Q (pc + 3, L, pu ++ rest, h') → xZ p l e R s m args below meth c D tc nL n0 ad0 A c0 s0 Q (pc, L, vs.reverse ++ rest, h)

theorem fb_bmod0 {z : Int} (h1 : -2147483648 ≤ z) (h2 : z < 2147483648) : z.bmod (2 ^ 32) = z := by
  rw [Int.bmod_def]
  have : z % ((2 ^ 32 : Nat) : Int) = if 0 ≤ z then z else z + 4294967296 := by
    split <;> omega
  rw [this]
  split <;> split <;> omega
theorem xsw_tab {ρ : Type} {x : Int32} {d : Nat} {K : Nat → Option ρ} {y : ρ} (pc : Nat) : ∀ (offs : List Int) (lo : Int), -2147483648 ≤ lo → lo + offs.length ≤ 2147483648 → xsw x d K (xtab pc lo offs) = some y →
    (∃ (j : Nat) (o : Int), offs[j]? = some o ∧ x.toInt = lo + j ∧ K (xjmp pc o) = some y) ∨ ((x.toInt < lo ∨ lo + offs.length ≤ x.toInt) ∧ K d = some y) := by
  intro offs
  induction offs with
  | nil => intro lo h1 h2 h; exact Or.inr ⟨by simp; omega, h⟩
  | cons o r ih =>
    intro lo h1 h2 h
    have hlen : ((o :: r).length : Int) = r.length + 1 := by simp
    rw [hlen] at h2 ⊢
    simp only [xtab, xsw] at h
    have hlo : (Int32.ofInt lo).toInt = lo := by
      rw [Int32.toInt_ofInt]
      exact fb_bmod0 h1 (by omega)
    split at h
    · rename_i hx
      exact Or.inl ⟨0, o, rfl, by rw [hx, hlo]; simp, h⟩
    · rename_i hx
      have hne : x.toInt ≠ lo := fun q => hx (Int32.toInt_inj.mp (by rw [hlo]; exact q))
      rcases ih (lo + 1) (by omega) (by omega) h with ⟨j, o', a, b, c⟩ | ⟨a, b⟩
      · exact Or.inl ⟨j + 1, o', by simpa using a, by rw [b]; simp; omega, c⟩
      · refine Or.inr ⟨?_, b⟩
        rcases a with a | a
        · exact Or.inl (by omega)
        · exact Or.inr (by omega)
theorem xsw_look {ρ : Type} {x : Int32} {d : Int} {K : Nat → Option ρ} {y : ρ} (pc : Nat) : ∀ (ps : List (Int × Int)), (∀ q ∈ ps, -2147483648 ≤ q.1 ∧ q.1 < 2147483648) → xsw x (xjmp pc d) K (ps.map fun q => (q.1, xjmp pc q.2)) = some y →
    K (xjmp pc (Op.lookupswitch.offset ps d x.toInt)) = some y := by
  intro ps
  induction ps with
  | nil => intro _ h; simpa [xsw, Op.lookupswitch.offset] using h
  | cons q r ih =>
    intro hr h
    obtain ⟨a, o⟩ := q
    simp only [List.map_cons, xsw] at h
    have h1 := hr (a, o) List.mem_cons_self
    have ha : (Int32.ofInt a).toInt = a := by
      rw [Int32.toInt_ofInt]
      exact fb_bmod0 h1.1 h1.2
    split at h
    · rename_i hx
      have : x.toInt = a := by rw [hx, ha]
      simpa [Op.lookupswitch.offset, this] using h
    · rename_i hx
      rw [lv_osw (k := Int32.ofInt a) hx ha]
      exact ih (fun q hq => hr q (List.mem_cons_of_mem _ hq)) h
