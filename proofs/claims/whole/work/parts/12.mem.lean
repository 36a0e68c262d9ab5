/-! THE MEMORY MACHINE: all cells are there, of fixed shapes; what changes is the ints in them. The script's length is said at 93, what was made and forgotten at 94. -/
abbrev yM : Type := Nat → Nat → Int32
/-- rows of ints; objects, their references; rows of references; rows of longs -/
abbrev yO : Type := Nat ⊕ (Nat × List (Option Nat)) ⊕ (Nat × Nat × (Nat → Option Nat)) ⊕ Nat
def yfv (f : Nat → Int32) (q : Option Nat × Nat) : Value := match q.1 with
  | some k => Value.ref k
  | none => Value.int (f q.2)
def yob (f : Nat → Int32) : yO → xO
  | .inl n => .inl (0, n, .inl f)
  | .inr (.inl (ci, sl)) => .inr (ci, sl.zipIdx.map (yfv f))
  | .inr (.inr (.inl (t, n, g))) => .inl (t, n, .inr (.inr g))
  | .inr (.inr (.inr n)) => .inl (3, n, .inr (.inl (fun i => (f i).toInt64)))
def ysl (N : Nat) : List yO := [.inl N, .inr (.inl (10, [some 2, some 21, some 40, none, some 59, some 76, some 77, some 78])), .inr (.inl (0, [some 3, none, some 12, some 13, none, none, some 14, some 15, some 16, some 17, some 18, none, none, some 19, some 20])), .inr (.inr (.inl (1, 8, fun i => if i < 8 then some (4 + i) else none))), .inr (.inl (8, [])), .inr (.inl (2, [])), .inr (.inl (4, [])), .inr (.inl (3, [])), .inr (.inl (9, [])), .inr (.inl (1, [])), .inr (.inl (5, [])), .inr (.inl (6, [])), .inl 6, .inl 6, .inl 12, .inl 12, .inl 12, .inl 12, .inl 12, .inl 6, .inl 6, .inr (.inl (0, [some 22, none, some 31, some 32, none, none, some 33, some 34, some 35, some 36, some 37, none, none, some 38, some 39])), .inr (.inr (.inl (1, 8, fun i => if i < 8 then some (23 + i) else none))), .inr (.inl (8, [])), .inr (.inl (2, [])), .inr (.inl (4, [])), .inr (.inl (3, [])), .inr (.inl (9, [])), .inr (.inl (1, [])), .inr (.inl (5, [])), .inr (.inl (6, [])), .inl 6, .inl 6, .inl 12, .inl 12, .inl 12, .inl 12, .inl 12, .inl 6, .inl 6, .inr (.inl (0, [some 41, none, some 50, some 51, none, none, some 52, some 53, some 54, some 55, some 56, none, none, some 57, some 58])), .inr (.inr (.inl (1, 8, fun i => if i < 8 then some (42 + i) else none))), .inr (.inl (8, [])), .inr (.inl (2, [])), .inr (.inl (4, [])), .inr (.inl (3, [])), .inr (.inl (9, [])), .inr (.inl (1, [])), .inr (.inl (5, [])), .inr (.inl (6, [])), .inl 6, .inl 6, .inl 12, .inl 12, .inl 12, .inl 12, .inl 12, .inl 6, .inl 6, .inr (.inr (.inl (2, 8, fun i => if i < 8 then some (60 + 2 * i) else none))), .inr (.inl (7, [none, none, none, none, none, some 61])), .inl 100, .inr (.inl (7, [none, none, none, none, none, some 63])), .inl 100, .inr (.inl (7, [none, none, none, none, none, some 65])), .inl 100, .inr (.inl (7, [none, none, none, none, none, some 67])), .inl 100, .inr (.inl (7, [none, none, none, none, none, some 69])), .inl 100, .inr (.inl (7, [none, none, none, none, none, some 71])), .inl 100, .inr (.inl (7, [none, none, none, none, none, some 73])), .inl 100, .inr (.inl (7, [none, none, none, none, none, some 75])), .inl 100, .inl 12, .inl 8, .inl 832, .inr (.inl (11, [some 80, some 81, some 82, some 83, none, none, none, none, some 84, some 85, none, some 86, some 87, some 88, some 89, some 90, some 91, none])), .inl 81, .inl 81, .inl 81, .inl 81, .inl 4, .inl 832, .inl 8, .inl 8, .inl 8, .inl 8, .inl 8, .inl 800, .inr (.inr (.inr 1))]
def ysh (A : yM) (a : Nat) : Option yO := (ysl (A 93 0).toNatClampNeg)[a]?
def yhp (A : yM) : List xO := (ysl (A 93 0).toNatClampNeg).zipIdx.map (fun q => yob (A q.2) q.1)
/-- slots that a forgotten cell may have -/
def yhs (c0 s0 : Nat) (A : yM) : xS := (yhp A, c0 + (A 94 0).toNatClampNeg, s0 + 8 * (A 94 0).toNatClampNeg)
def yup (A : yM) (a i : Nat) (v : Int32) : yM := fun p j => if p = a ∧ j = i then v else A p j
def ycy (A : yM) (a sp b dp n : Nat) : yM := fun p j => if p = b ∧ dp ≤ j ∧ j < dp + n then A a (sp + (j - dp)) else A p j
theorem yhp_at (A : yM) (a : Nat) : (yhp A)[a]? = (ysh A a).map (yob (A a)) := by
  unfold yhp ysh
  rw [List.getElem?_map, List.getElem?_zipIdx]
  cases (ysl (A 93 0).toNatClampNeg)[a]? <;> simp
theorem ysl_len (N : Nat) : (ysl N).length = 93 := rfl
theorem ysh_lt {A : yM} {a : Nat} {o : yO} (h : ysh A a = some o) : a < 93 := by
  have := (List.getElem?_eq_some_iff.mp h).1
  rw [ysl_len] at this
  exact this
theorem yup_far (A : yM) {a i : Nat} {v : Int32} (h : a < 93) (p j : Nat) (hp : 93 ≤ p) : yup A a i v p j = A p j := by
  unfold yup
  rw [if_neg (by omega)]
theorem yhp_set {A A' : yM} {a : Nat} {o : yO} (h : ysh A a = some o) (h1 : ∀ p, p ≠ a → A' p = A p) : (yhp A).set a (yob (A' a) o) = yhp A' := by
  have hlt := ysh_lt h
  have e93 : A' 93 0 = A 93 0 := by rw [h1 93 (by omega)]
  apply List.ext_getElem?
  intro j
  rw [List.getElem?_set, yhp_at, yhp_at]
  have hs : ∀ b, ysh A' b = ysh A b := fun b => by unfold ysh; rw [e93]
  have hl : (yhp A).length = 93 := by unfold yhp; rw [List.length_map, List.length_zipIdx, ysl_len]
  rw [hs, hl]
  by_cases hj : a = j
  · subst hj
    rw [if_pos rfl, if_pos hlt, h]
    rfl
  · rw [if_neg hj, h1 j (fun e => hj e.symm)]
theorem yhs_set {A A' : yM} {a : Nat} {o : yO} (c0 s0 : Nat) (h : ysh A a = some o) (h1 : ∀ p, p ≠ a → A' p = A p) : ((yhs c0 s0 A).1.set a (yob (A' a) o), (yhs c0 s0 A).2) = yhs c0 s0 A' := by
  have hlt := ysh_lt h
  unfold yhs
  rw [yhp_set h h1, h1 94 (by omega)]
def yln (A : yM) (a : Nat) : Option Nat := match ysh A a with
  | some (.inl n) => some n
  | _ => none
def yil (A : yM) (a k ci : Nat) : Bool := match ysh A a with
  | some (.inr (.inl (cj, sl))) => decide (cj = ci ∧ sl[k]? = some none)
  | _ => false
def yrf (A : yM) (a k ci : Nat) : Option Nat := match ysh A a with
  | some (.inr (.inl (cj, sl))) => if cj = ci then (match sl[k]? with | some (some b) => some b | _ => none) else none
  | _ => none
def yrw (A : yM) (a : Nat) : Option (Nat × (Nat → Option Nat)) := match ysh A a with
  | some (.inr (.inr (.inl (t, n, g)))) => if t = 1 ∨ t = 2 then some (n, g) else none
  | _ => none
def yll (A : yM) (a : Nat) : Option Nat := match ysh A a with
  | some (.inr (.inr (.inr n))) => some n
  | _ => none
def ycl (A : yM) (a : Nat) : Option Nat := match ysh A a with
  | some (.inr (.inl (ci, _))) => some ci
  | _ => none
/-! what reads and writes the memory, with what comes behind -/
def ygI {ρ : Type} (A : yM) (a ci k : Nat) (K : Int32 → Option ρ) : Option ρ := match yil A a k ci with | true => K (A a k) | false => none
def ygR {ρ : Type} (A : yM) (a ci k : Nat) (K : Nat → Option ρ) : Option ρ := match yrf A a k ci with | some b => K b | none => none
def ypI {ρ : Type} (A : yM) (a ci k : Nat) (v : Int32) (K : yM → Option ρ) : Option ρ := match yil A a k ci with | true => K (yup A a k v) | false => none
def yrd {ρ : Type} (A : yM) (a : Nat) (i : Int32) (K : Int32 → Option ρ) : Option ρ := match yln A a with | some n => (if i < 0 ∨ n ≤ i.toNatClampNeg then none else K (A a i.toNatClampNeg)) | none => none
def ywr {ρ : Type} (A : yM) (a : Nat) (i v : Int32) (K : yM → Option ρ) : Option ρ := match yln A a with | some n => (if i < 0 ∨ n ≤ i.toNatClampNeg then none else K (yup A a i.toNatClampNeg v)) | none => none
def yrR {ρ : Type} (A : yM) (a : Nat) (i : Int32) (K : Nat → Option ρ) : Option ρ := match yrw A a with | some (n, g) => (if i < 0 ∨ n ≤ i.toNatClampNeg then none else match g i.toNatClampNeg with | some b => K b | none => none) | none => none
def yrL {ρ : Type} (A : yM) (a : Nat) (i : Int32) (K : Int64 → Option ρ) : Option ρ := match yll A a with | some n => (if i < 0 ∨ n ≤ i.toNatClampNeg then none else K (A a i.toNatClampNeg).toInt64) | none => none
def yle {ρ : Type} (A : yM) (a : Nat) (K : Int32 → Option ρ) : Option ρ := match yln A a with | some n => K (Int32.ofNat n) | none => none
abbrev yF : Type := (List Value → yM → Option yM) ⊕ (List Value → yM → Option (Int32 × yM)) ⊕ (List Value → yM → Option (Int64 × yM))
abbrev ySt : Type := Nat × List (Option Value) × List Value × yM
/-- fields, constants, calls, what is given back -/
abbrev yEnv : Type := (Nat → Option (Nat × Nat × Nat × Bool)) × (Nat → Option (Int32 ⊕ Int64)) × (Nat → Option (Nat × yF)) × Option FieldType
def ycal {ρ : Type} (o : Option (Nat × yF)) (pc : Nat) (L : List (Option Value)) (st : List Value) (A : yM) (K : ySt → Option ρ) : Option ρ :=
  match o with
  | some (n, F) => (match Nat.ble n st.length && xcat (st.drop n) with
    | true => (match F with
      | .inl f => (f (st.take n).reverse A).bind (fun A => K (pc + 3, L, st.drop n, A))
      | .inr (.inl f) => (f (st.take n).reverse A).bind (fun z => K (pc + 3, L, .int z.1 :: st.drop n, z.2))
      | .inr (.inr f) => (f (st.take n).reverse A).bind (fun z => K (pc + 3, L, .long z.1 :: st.drop n, z.2)))
    | false => none)
  | none => none
def ystp {ρ : Type} (E : yEnv) (i : Instr) (pc : Nat) (L : List (Option Value)) (st : List Value) (A : yM) (K : ySt → Option ρ) (KR : Option Value → yM → Option ρ) : Option ρ :=
  match i with
  | .iconst n => K (pc + 1, L, .int (Int32.ofInt n) :: st, A)
  | .bipush n => K (pc + 2, L, .int (Int8.ofInt n).toInt32 :: st, A)
  | .sipush n => K (pc + 3, L, .int (Int16.ofInt n).toInt32 :: st, A)
  | .lconst n => K (pc + 1, L, .long (Int64.ofNat (n : Nat)) :: st, A)
  | .ldc n => match E.2.1 n with | some (.inl v) => K (pc + 2, L, .int v :: st, A) | _ => none
  | .ldc_w n => match E.2.1 n with | some (.inl v) => K (pc + 3, L, .int v :: st, A) | _ => none
  | .ldc2_w n => match E.2.1 n with | some (.inr v) => K (pc + 3, L, .long v :: st, A) | _ => none
  | .iload_n k => match L[(k : Nat)]? with | some (some (.int x)) => K (pc + 1, L, .int x :: st, A) | _ => none
  | .iload k => match L[k]? with | some (some (.int x)) => K (pc + 2, L, .int x :: st, A) | _ => none
  | .lload_n k => match L[(k : Nat)]? with | some (some (.long x)) => K (pc + 1, L, .long x :: st, A) | _ => none
  | .lload k => match L[k]? with | some (some (.long x)) => K (pc + 2, L, .long x :: st, A) | _ => none
  | .aload_n k => match L[(k : Nat)]? with | some (some (.ref x)) => K (pc + 1, L, .ref x :: st, A) | _ => none
  | .aload k => match L[k]? with | some (some (.ref x)) => K (pc + 2, L, .ref x :: st, A) | _ => none
  | .istore_n k => match st with | .int x :: st => (match xst1 L (k : Nat) (.int x) with | some L => K (pc + 1, L, st, A) | none => none) | _ => none
  | .istore k => match st with | .int x :: st => (match xst1 L k (.int x) with | some L => K (pc + 2, L, st, A) | none => none) | _ => none
  | .lstore_n k => match st with | .long x :: st => (match xst2 L (k : Nat) (.long x) with | some L => K (pc + 1, L, st, A) | none => none) | _ => none
  | .lstore k => match st with | .long x :: st => (match xst2 L k (.long x) with | some L => K (pc + 2, L, st, A) | none => none) | _ => none
  | .astore_n k => match st with | .ref x :: st => (match xst1 L (k : Nat) (.ref x) with | some L => K (pc + 1, L, st, A) | none => none) | _ => none
  | .astore k => match st with | .ref x :: st => (match xst1 L k (.ref x) with | some L => K (pc + 2, L, st, A) | none => none) | _ => none
  | .iinc k n => match L[k]? with | some (some (.int x)) => (match xst1 L k (.int (x + Int32.ofInt n)) with | some L => K (pc + 3, L, st, A) | none => none) | _ => none
  | .iadd => match st with | .int y :: .int x :: st => K (pc + 1, L, .int (x + y) :: st, A) | _ => none
  | .isub => match st with | .int y :: .int x :: st => K (pc + 1, L, .int (x - y) :: st, A) | _ => none
  | .imul => match st with | .int y :: .int x :: st => K (pc + 1, L, .int (x * y) :: st, A) | _ => none
  | .iand => match st with | .int y :: .int x :: st => K (pc + 1, L, .int (x &&& y) :: st, A) | _ => none
  | .ior => match st with | .int y :: .int x :: st => K (pc + 1, L, .int (x ||| y) :: st, A) | _ => none
  | .ixor => match st with | .int y :: .int x :: st => K (pc + 1, L, .int (x ^^^ y) :: st, A) | _ => none
  | .ishl => match st with | .int y :: .int x :: st => K (pc + 1, L, .int (x <<< (y &&& 31)) :: st, A) | _ => none
  | .ishr => match st with | .int y :: .int x :: st => K (pc + 1, L, .int (x >>> (y &&& 31)) :: st, A) | _ => none
  | .idiv => match st with | .int y :: .int x :: st => (if y = 0 then none else K (pc + 1, L, .int (x / y) :: st, A)) | _ => none
  | .irem => match st with | .int y :: .int x :: st => (if y = 0 then none else K (pc + 1, L, .int (x - x / y * y) :: st, A)) | _ => none
  | .ladd => match st with | .long y :: .long x :: st => K (pc + 1, L, .long (x + y) :: st, A) | _ => none
  | .lsub => match st with | .long y :: .long x :: st => K (pc + 1, L, .long (x - y) :: st, A) | _ => none
  | .lmul => match st with | .long y :: .long x :: st => K (pc + 1, L, .long (x * y) :: st, A) | _ => none
  | .ldiv => match st with | .long y :: .long x :: st => (if y = 0 then none else K (pc + 1, L, .long (x / y) :: st, A)) | _ => none
  | .lrem => match st with | .long y :: .long x :: st => (if y = 0 then none else K (pc + 1, L, .long (x - x / y * y) :: st, A)) | _ => none
  | .lcmp => match st with | .long y :: .long x :: st => K (pc + 1, L, .int (lg_cmp x y) :: st, A) | _ => none
  | .i2l => match st with | .int x :: st => K (pc + 1, L, .long x.toInt64 :: st, A) | _ => none
  | .i2b => match st with | .int x :: st => K (pc + 1, L, .int x.toInt8.toInt32 :: st, A) | _ => none
  | .i2s => match st with | .int x :: st => K (pc + 1, L, .int x.toInt16.toInt32 :: st, A) | _ => none
  | .dup => match st with | .ref x :: st => K (pc + 1, L, .ref x :: .ref x :: st, A) | _ => none
  | .dup2 => match st with | .int y :: .ref x :: st => K (pc + 1, L, .int y :: .ref x :: .int y :: .ref x :: st, A) | _ => none
  | .pop => match st with | .int _ :: st => K (pc + 1, L, st, A) | _ => none
  | .goto off => K (xjmp pc off, L, st, A)
  | .ifCond .eq off => match st with | .int x :: st => (if x = 0 then K (xjmp pc off, L, st, A) else K (pc + 3, L, st, A)) | _ => none
  | .ifCond .ne off => match st with | .int x :: st => (if x = 0 then K (pc + 3, L, st, A) else K (xjmp pc off, L, st, A)) | _ => none
  | .ifCond .lt off => match st with | .int x :: st => (if x < 0 then K (xjmp pc off, L, st, A) else K (pc + 3, L, st, A)) | _ => none
  | .ifCond .ge off => match st with | .int x :: st => (if 0 ≤ x then K (xjmp pc off, L, st, A) else K (pc + 3, L, st, A)) | _ => none
  | .ifCond .gt off => match st with | .int x :: st => (if 0 < x then K (xjmp pc off, L, st, A) else K (pc + 3, L, st, A)) | _ => none
  | .ifCond .le off => match st with | .int x :: st => (if x ≤ 0 then K (xjmp pc off, L, st, A) else K (pc + 3, L, st, A)) | _ => none
  | .if_icmp .eq off => match st with | .int y :: .int x :: st => (if x = y then K (xjmp pc off, L, st, A) else K (pc + 3, L, st, A)) | _ => none
  | .if_icmp .ne off => match st with | .int y :: .int x :: st => (if x = y then K (pc + 3, L, st, A) else K (xjmp pc off, L, st, A)) | _ => none
  | .if_icmp .lt off => match st with | .int y :: .int x :: st => (if x < y then K (xjmp pc off, L, st, A) else K (pc + 3, L, st, A)) | _ => none
  | .if_icmp .ge off => match st with | .int y :: .int x :: st => (if y ≤ x then K (xjmp pc off, L, st, A) else K (pc + 3, L, st, A)) | _ => none
  | .if_icmp .gt off => match st with | .int y :: .int x :: st => (if y < x then K (xjmp pc off, L, st, A) else K (pc + 3, L, st, A)) | _ => none
  | .if_icmp .le off => match st with | .int y :: .int x :: st => (if x ≤ y then K (xjmp pc off, L, st, A) else K (pc + 3, L, st, A)) | _ => none
  | .tableswitch d lo hi offs => match st with | .int x :: st => xsw x (xjmp pc d) (fun t => K (t, L, st, A)) (xtab pc lo offs.toList) | _ => none
  | .lookupswitch d ps => match st with | .int x :: st => xsw x (xjmp pc d) (fun t => K (t, L, st, A)) (ps.toList.map fun q => (q.1, xjmp pc q.2)) | _ => none
  | .iaload => match st with | .int i :: .ref a :: st => yrd A a i (fun x => K (pc + 1, L, .int x :: st, A)) | _ => none
  | .laload => match st with | .int i :: .ref a :: st => yrL A a i (fun x => K (pc + 1, L, .long x :: st, A)) | _ => none
  | .arraylength => match st with | .ref a :: st => yle A a (fun x => K (pc + 1, L, .int x :: st, A)) | _ => none
  | .iastore => match st with | .int x :: .int i :: .ref a :: st => ywr A a i x (fun A => K (pc + 1, L, st, A)) | _ => none
  | .aaload => match st with | .int i :: .ref a :: st => yrR A a i (fun x => K (pc + 1, L, .ref x :: st, A)) | _ => none
  | .getfield n => match E.1 n, st with
    | some (ci, k, 1, _), .ref a :: st => ygR A a ci k (fun x => K (pc + 3, L, .ref x :: st, A))
    | some (ci, k, 5, _), .ref a :: st => ygR A a ci k (fun x => K (pc + 3, L, .ref x :: st, A))
    | some (ci, k, _, _), .ref a :: st => ygI A a ci k (fun x => K (pc + 3, L, .int x :: st, A))
    | _, _ => none
  | .putfield n => match E.1 n, st with
    | some (ci, k, 0, false), .int x :: .ref a :: st => ypI A a ci k x (fun A => K (pc + 3, L, st, A))
    | some (ci, k, 2, false), .int x :: .ref a :: st => if x = 0 ∨ x = 1 then ypI A a ci k x (fun A => K (pc + 3, L, st, A)) else none
    | _, _ => none
  | .invokevirtual k => ycal (E.2.2.1 (3 * k)) pc L st A K
  | .invokestatic k => ycal (E.2.2.1 (3 * k + 1)) pc L st A K
  | .invokespecial k => ycal (E.2.2.1 (3 * k + 2)) pc L st A K
  | .return_ => match st, E.2.2.2 with | [], none => KR none A | _, _ => none
  | .ireturn => match st, E.2.2.2 with
    | [.int x], some .int => KR (some (.int x)) A
    | [.int x], some .boolean => if x = 0 ∨ x = 1 then KR (some (.int x)) A else none
    | _, _ => none
  | .lreturn => match st, E.2.2.2 with | [.long x], some .long => KR (some (.long x)) A | _, _ => none
  | _ => none
