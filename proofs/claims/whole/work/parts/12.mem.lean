/-! THE MEMORY MACHINE: all cells are there, of fixed shapes; what changes is the ints in them. The script's length is said at 93, what was made and forgotten at 94. -/
abbrev yM : Type := Nat → Nat → Int32
/-- rows of ints; objects, their references; rows of references; rows of longs; the script -/
abbrev yO : Type := Nat ⊕ (Nat × List (Option Nat)) ⊕ (Nat × Nat × (Nat → Option Nat)) ⊕ Nat ⊕ Nat
def yfv (f : Nat → Int32) (q : Option Nat × Nat) : Value := match q.1 with
  | some k => Value.ref k
  | none => Value.int (f q.2)
def yob (f : Nat → Int32) : yO → xO
  | .inl n => .inl (0, n, .inl f)
  | .inr (.inl (ci, sl)) => .inr (ci, sl.zipIdx.map (yfv f))
  | .inr (.inr (.inl (t, n, g))) => .inl (t, n, .inr (.inr g))
  | .inr (.inr (.inr (.inl n))) => .inl (3, n, .inr (.inl (fun i => (f i).toInt64)))
  | .inr (.inr (.inr (.inr n))) => .inl (4, n, .inl f)
def ysl (N : Nat) : List yO := [.inr (.inr (.inr (.inr N))), .inr (.inl (10, [some 2, some 21, some 40, none, some 59, some 76, some 77, some 78])), .inr (.inl (0, [some 3, none, some 12, some 13, none, none, some 14, some 15, some 16, some 17, some 18, none, none, some 19, some 20])), .inr (.inr (.inl (1, 8, fun i => if i < 8 then some (4 + i) else none))), .inr (.inl (8, [])), .inr (.inl (2, [])), .inr (.inl (4, [])), .inr (.inl (3, [])), .inr (.inl (9, [])), .inr (.inl (1, [])), .inr (.inl (5, [])), .inr (.inl (6, [])), .inl 6, .inl 6, .inl 12, .inl 12, .inl 12, .inl 12, .inl 12, .inl 6, .inl 6, .inr (.inl (0, [some 22, none, some 31, some 32, none, none, some 33, some 34, some 35, some 36, some 37, none, none, some 38, some 39])), .inr (.inr (.inl (1, 8, fun i => if i < 8 then some (23 + i) else none))), .inr (.inl (8, [])), .inr (.inl (2, [])), .inr (.inl (4, [])), .inr (.inl (3, [])), .inr (.inl (9, [])), .inr (.inl (1, [])), .inr (.inl (5, [])), .inr (.inl (6, [])), .inl 6, .inl 6, .inl 12, .inl 12, .inl 12, .inl 12, .inl 12, .inl 6, .inl 6, .inr (.inl (0, [some 41, none, some 50, some 51, none, none, some 52, some 53, some 54, some 55, some 56, none, none, some 57, some 58])), .inr (.inr (.inl (1, 8, fun i => if i < 8 then some (42 + i) else none))), .inr (.inl (8, [])), .inr (.inl (2, [])), .inr (.inl (4, [])), .inr (.inl (3, [])), .inr (.inl (9, [])), .inr (.inl (1, [])), .inr (.inl (5, [])), .inr (.inl (6, [])), .inl 6, .inl 6, .inl 12, .inl 12, .inl 12, .inl 12, .inl 12, .inl 6, .inl 6, .inr (.inr (.inl (2, 8, fun i => if i < 8 then some (60 + 2 * i) else none))), .inr (.inl (7, [none, none, none, none, none, some 61])), .inl 100, .inr (.inl (7, [none, none, none, none, none, some 63])), .inl 100, .inr (.inl (7, [none, none, none, none, none, some 65])), .inl 100, .inr (.inl (7, [none, none, none, none, none, some 67])), .inl 100, .inr (.inl (7, [none, none, none, none, none, some 69])), .inl 100, .inr (.inl (7, [none, none, none, none, none, some 71])), .inl 100, .inr (.inl (7, [none, none, none, none, none, some 73])), .inl 100, .inr (.inl (7, [none, none, none, none, none, some 75])), .inl 100, .inl 12, .inl 8, .inl 832, .inr (.inl (11, [some 80, some 81, some 82, some 83, none, none, none, none, some 84, some 85, none, some 86, some 87, some 88, some 89, some 90, some 91, none])), .inl 81, .inl 81, .inl 81, .inl 81, .inl 4, .inl 832, .inl 8, .inl 8, .inl 8, .inl 8, .inl 8, .inl 800, .inr (.inr (.inr (.inl 1)))]
def ysh (A : yM) (a : Nat) : Option yO := (ysl (A 93 0).toNatClampNeg)[a]?
def yhp (A : yM) : List xO := (ysl (A 93 0).toNatClampNeg).zipIdx.map (fun q => yob (A q.2) q.1)
/-- slots that a forgotten cell may have -/
def yhs (c0 s0 : Nat) (A : yM) : xS := (yhp A, c0 + (A 94 0).toNatClampNeg, s0 + 8 * (A 94 0).toNatClampNeg)
def yup (A : yM) (a i : Nat) (v : Int32) : yM := fun p j => if p = a ∧ j = i then v else A p j
def ycy (A : yM) (a sp b dp n : Nat) : yM := fun p j => if p = b ∧ dp ≤ j ∧ j < dp + n then A a (sp + (j - dp)) else A p j
theorem yhp_at (A : yM) (a : Nat) : (yhp A)[a]? = (ysh A a).map (yob (A a)) := by
  unfold yhp ysh
  rw [List.getElem?_map, List.getElem?_zipIdx]
  cases (ysl (A 93 0).toNatClampNeg)[a]? <;> simp
theorem ysl_len (N : Nat) : (ysl N).length = 93 := rfl
theorem ysh_lt {A : yM} {a : Nat} {o : yO} (h : ysh A a = some o) : a < 93 := by
  have := (List.getElem?_eq_some_iff.mp h).1
  rw [ysl_len] at this
  exact this
theorem yup_far (A : yM) {a i : Nat} {v : Int32} (h : a < 93) (p j : Nat) (hp : 93 ≤ p) : yup A a i v p j = A p j := by
  unfold yup
  rw [if_neg (by omega)]
theorem yhp_set {A A' : yM} {a : Nat} {o : yO} (h : ysh A a = some o) (h1 : ∀ p, p ≠ a → A' p = A p) : (yhp A).set a (yob (A' a) o) = yhp A' := by
  have hlt := ysh_lt h
  have e93 : A' 93 0 = A 93 0 := by rw [h1 93 (by omega)]
  apply List.ext_getElem?
  intro j
  rw [List.getElem?_set, yhp_at, yhp_at]
  have hs : ∀ b, ysh A' b = ysh A b := fun b => by unfold ysh; rw [e93]
  have hl : (yhp A).length = 93 := by unfold yhp; rw [List.length_map, List.length_zipIdx, ysl_len]
  rw [hs, hl]
  by_cases hj : a = j
  · subst hj
    rw [if_pos rfl, if_pos hlt, h]
    rfl
  · rw [if_neg hj, h1 j (fun e => hj e.symm)]
theorem yhs_set {A A' : yM} {a : Nat} {o : yO} (c0 s0 : Nat) (h : ysh A a = some o) (h1 : ∀ p, p ≠ a → A' p = A p) : ((yhs c0 s0 A).1.set a (yob (A' a) o), (yhs c0 s0 A).2) = yhs c0 s0 A' := by
  have hlt := ysh_lt h
  unfold yhs
  rw [yhp_set h h1, h1 94 (by omega)]
def yln (A : yM) (a : Nat) : Option Nat := match ysh A a with
  | some (.inl n) => some n
  | _ => none
/-- rows of ints that can be read -/
def yla (A : yM) (a : Nat) : Option Nat := match ysh A a with
  | some (.inl n) => some n
  | some (.inr (.inr (.inr (.inr n)))) => some n
  | _ => none
theorem yla_of {A : yM} {a n : Nat} (h : yln A a = some n) : yla A a = some n := by
  unfold yln at h
  unfold yla
  split at h
  · rename_i m hm
    rw [hm]
    exact h
  · cases h
def yil (A : yM) (a k ci : Nat) : Bool := match ysh A a with
  | some (.inr (.inl (cj, sl))) => decide (cj = ci ∧ sl[k]? = some none)
  | _ => false
def yrf (A : yM) (a k ci : Nat) : Option Nat := match ysh A a with
  | some (.inr (.inl (cj, sl))) => if cj = ci then (match sl[k]? with | some (some b) => some b | _ => none) else none
  | _ => none
def yrw (A : yM) (a : Nat) : Option (Nat × (Nat → Option Nat)) := match ysh A a with
  | some (.inr (.inr (.inl (t, n, g)))) => if t = 1 ∨ t = 2 then some (n, g) else none
  | _ => none
def yll (A : yM) (a : Nat) : Option Nat := match ysh A a with
  | some (.inr (.inr (.inr (.inl n)))) => some n
  | _ => none
def ycl (A : yM) (a : Nat) : Option Nat := match ysh A a with
  | some (.inr (.inl (ci, _))) => some ci
  | _ => none
/-! what reads and writes the memory, with what comes behind -/
def ygI {ρ : Type} (A : yM) (a ci k : Nat) (K : Int32 → Option ρ) : Option ρ := match yil A a k ci with | true => K (A a k) | false => none
def ygR {ρ : Type} (A : yM) (a ci k : Nat) (K : Nat → Option ρ) : Option ρ := match yrf A a k ci with | some b => K b | none => none
def ypI {ρ : Type} (A : yM) (a ci k : Nat) (v : Int32) (K : yM → Option ρ) : Option ρ := match yil A a k ci with | true => K (yup A a k v) | false => none
def yrd {ρ : Type} (A : yM) (a : Nat) (i : Int32) (K : Int32 → Option ρ) : Option ρ := match yla A a with | some n => (if i < 0 ∨ n ≤ i.toNatClampNeg then none else K (A a i.toNatClampNeg)) | none => none
def ywr {ρ : Type} (A : yM) (a : Nat) (i v : Int32) (K : yM → Option ρ) : Option ρ := match yln A a with | some n => (if i < 0 ∨ n ≤ i.toNatClampNeg then none else K (yup A a i.toNatClampNeg v)) | none => none
def yrR {ρ : Type} (A : yM) (a : Nat) (i : Int32) (K : Nat → Option ρ) : Option ρ := match yrw A a with | some (n, g) => (if i < 0 ∨ n ≤ i.toNatClampNeg then none else match g i.toNatClampNeg with | some b => K b | none => none) | none => none
def yrL {ρ : Type} (A : yM) (a : Nat) (i : Int32) (K : Int64 → Option ρ) : Option ρ := match yll A a with | some n => (if i < 0 ∨ n ≤ i.toNatClampNeg then none else K (A a i.toNatClampNeg).toInt64) | none => none
def yle {ρ : Type} (A : yM) (a : Nat) (K : Int32 → Option ρ) : Option ρ := match yla A a with | some n => K (Int32.ofNat n) | none => none
abbrev yF : Type := (List Value → yM → Option yM) ⊕ (List Value → yM → Option (Int32 × yM)) ⊕ (List Value → yM → Option (Int64 × yM))
abbrev ySt : Type := Nat × List (Option Value) × List Value × yM
/-- fields, constants, calls, what is given back -/
abbrev yEnv : Type := (Nat → Option (Nat × Nat × Nat × Bool)) × (Nat → Option (Int32 ⊕ Int64)) × (Nat → Option (Nat × yF)) × Option FieldType
def ycal {ρ : Type} (o : Option (Nat × yF)) (pc : Nat) (L : List (Option Value)) (st : List Value) (A : yM) (K : ySt → Option ρ) : Option ρ :=
  match o with
  | some (n, F) => (match Nat.ble n st.length && xcat (st.drop n) with
    | true => (match F with
      | .inl f => (f (st.take n).reverse A).bind (fun A => K (pc + 3, L, st.drop n, A))
      | .inr (.inl f) => (f (st.take n).reverse A).bind (fun z => K (pc + 3, L, .int z.1 :: st.drop n, z.2))
      | .inr (.inr f) => (f (st.take n).reverse A).bind (fun z => K (pc + 3, L, .long z.1 :: st.drop n, z.2)))
    | false => none)
  | none => none
def ys_iconst {ρ : Type} (E : yEnv) (pc : Nat) (L : List (Option Value)) (st : List Value) (A : yM) (K : ySt → Option ρ) (KR : Option Value → yM → Option ρ) (n : Int) : Option ρ :=
  K (pc + 1, L, .int (Int32.ofInt n) :: st, A)
def ys_bipush {ρ : Type} (E : yEnv) (pc : Nat) (L : List (Option Value)) (st : List Value) (A : yM) (K : ySt → Option ρ) (KR : Option Value → yM → Option ρ) (n : Int) : Option ρ :=
  K (pc + 2, L, .int (Int8.ofInt n).toInt32 :: st, A)
def ys_sipush {ρ : Type} (E : yEnv) (pc : Nat) (L : List (Option Value)) (st : List Value) (A : yM) (K : ySt → Option ρ) (KR : Option Value → yM → Option ρ) (n : Int) : Option ρ :=
  K (pc + 3, L, .int (Int16.ofInt n).toInt32 :: st, A)
def ys_lconst {ρ : Type} (E : yEnv) (pc : Nat) (L : List (Option Value)) (st : List Value) (A : yM) (K : ySt → Option ρ) (KR : Option Value → yM → Option ρ) (n : Fin 2) : Option ρ :=
  K (pc + 1, L, .long (Int64.ofNat (n : Nat)) :: st, A)
def ys_ldc {ρ : Type} (E : yEnv) (pc : Nat) (L : List (Option Value)) (st : List Value) (A : yM) (K : ySt → Option ρ) (KR : Option Value → yM → Option ρ) (n : Nat) : Option ρ :=
  match E.2.1 n with | some (.inl v) => K (pc + 2, L, .int v :: st, A) | _ => none
def ys_ldc_w {ρ : Type} (E : yEnv) (pc : Nat) (L : List (Option Value)) (st : List Value) (A : yM) (K : ySt → Option ρ) (KR : Option Value → yM → Option ρ) (n : Nat) : Option ρ :=
  match E.2.1 n with | some (.inl v) => K (pc + 3, L, .int v :: st, A) | _ => none
def ys_ldc2_w {ρ : Type} (E : yEnv) (pc : Nat) (L : List (Option Value)) (st : List Value) (A : yM) (K : ySt → Option ρ) (KR : Option Value → yM → Option ρ) (n : Nat) : Option ρ :=
  match E.2.1 n with | some (.inr v) => K (pc + 3, L, .long v :: st, A) | _ => none
def ys_iload_n {ρ : Type} (E : yEnv) (pc : Nat) (L : List (Option Value)) (st : List Value) (A : yM) (K : ySt → Option ρ) (KR : Option Value → yM → Option ρ) (k : Fin 4) : Option ρ :=
  match L[(k : Nat)]? with | some (some (.int x)) => K (pc + 1, L, .int x :: st, A) | _ => none
def ys_iload {ρ : Type} (E : yEnv) (pc : Nat) (L : List (Option Value)) (st : List Value) (A : yM) (K : ySt → Option ρ) (KR : Option Value → yM → Option ρ) (k : Nat) : Option ρ :=
  match L[k]? with | some (some (.int x)) => K (pc + 2, L, .int x :: st, A) | _ => none
def ys_lload_n {ρ : Type} (E : yEnv) (pc : Nat) (L : List (Option Value)) (st : List Value) (A : yM) (K : ySt → Option ρ) (KR : Option Value → yM → Option ρ) (k : Fin 4) : Option ρ :=
  match L[(k : Nat)]? with | some (some (.long x)) => K (pc + 1, L, .long x :: st, A) | _ => none
def ys_lload {ρ : Type} (E : yEnv) (pc : Nat) (L : List (Option Value)) (st : List Value) (A : yM) (K : ySt → Option ρ) (KR : Option Value → yM → Option ρ) (k : Nat) : Option ρ :=
  match L[k]? with | some (some (.long x)) => K (pc + 2, L, .long x :: st, A) | _ => none
def ys_aload_n {ρ : Type} (E : yEnv) (pc : Nat) (L : List (Option Value)) (st : List Value) (A : yM) (K : ySt → Option ρ) (KR : Option Value → yM → Option ρ) (k : Fin 4) : Option ρ :=
  match L[(k : Nat)]? with | some (some (.ref x)) => K (pc + 1, L, .ref x :: st, A) | _ => none
def ys_aload {ρ : Type} (E : yEnv) (pc : Nat) (L : List (Option Value)) (st : List Value) (A : yM) (K : ySt → Option ρ) (KR : Option Value → yM → Option ρ) (k : Nat) : Option ρ :=
  match L[k]? with | some (some (.ref x)) => K (pc + 2, L, .ref x :: st, A) | _ => none
def ys_istore_n {ρ : Type} (E : yEnv) (pc : Nat) (L : List (Option Value)) (st : List Value) (A : yM) (K : ySt → Option ρ) (KR : Option Value → yM → Option ρ) (k : Fin 4) : Option ρ :=
  match st with | .int x :: st => (match xst1 L (k : Nat) (.int x) with | some L => K (pc + 1, L, st, A) | none => none) | _ => none
def ys_istore {ρ : Type} (E : yEnv) (pc : Nat) (L : List (Option Value)) (st : List Value) (A : yM) (K : ySt → Option ρ) (KR : Option Value → yM → Option ρ) (k : Nat) : Option ρ :=
  match st with | .int x :: st => (match xst1 L k (.int x) with | some L => K (pc + 2, L, st, A) | none => none) | _ => none
def ys_lstore_n {ρ : Type} (E : yEnv) (pc : Nat) (L : List (Option Value)) (st : List Value) (A : yM) (K : ySt → Option ρ) (KR : Option Value → yM → Option ρ) (k : Fin 4) : Option ρ :=
  match st with | .long x :: st => (match xst2 L (k : Nat) (.long x) with | some L => K (pc + 1, L, st, A) | none => none) | _ => none
def ys_lstore {ρ : Type} (E : yEnv) (pc : Nat) (L : List (Option Value)) (st : List Value) (A : yM) (K : ySt → Option ρ) (KR : Option Value → yM → Option ρ) (k : Nat) : Option ρ :=
  match st with | .long x :: st => (match xst2 L k (.long x) with | some L => K (pc + 2, L, st, A) | none => none) | _ => none
def ys_astore_n {ρ : Type} (E : yEnv) (pc : Nat) (L : List (Option Value)) (st : List Value) (A : yM) (K : ySt → Option ρ) (KR : Option Value → yM → Option ρ) (k : Fin 4) : Option ρ :=
  match st with | .ref x :: st => (match xst1 L (k : Nat) (.ref x) with | some L => K (pc + 1, L, st, A) | none => none) | _ => none
def ys_astore {ρ : Type} (E : yEnv) (pc : Nat) (L : List (Option Value)) (st : List Value) (A : yM) (K : ySt → Option ρ) (KR : Option Value → yM → Option ρ) (k : Nat) : Option ρ :=
  match st with | .ref x :: st => (match xst1 L k (.ref x) with | some L => K (pc + 2, L, st, A) | none => none) | _ => none
def ys_iinc {ρ : Type} (E : yEnv) (pc : Nat) (L : List (Option Value)) (st : List Value) (A : yM) (K : ySt → Option ρ) (KR : Option Value → yM → Option ρ) (k : Nat) (n : Int) : Option ρ :=
  match L[k]? with | some (some (.int x)) => (match xst1 L k (.int (x + Int32.ofInt n)) with | some L => K (pc + 3, L, st, A) | none => none) | _ => none
def ys_iadd {ρ : Type} (E : yEnv) (pc : Nat) (L : List (Option Value)) (st : List Value) (A : yM) (K : ySt → Option ρ) (KR : Option Value → yM → Option ρ) : Option ρ :=
  match st with | .int y :: .int x :: st => K (pc + 1, L, .int (x + y) :: st, A) | _ => none
def ys_isub {ρ : Type} (E : yEnv) (pc : Nat) (L : List (Option Value)) (st : List Value) (A : yM) (K : ySt → Option ρ) (KR : Option Value → yM → Option ρ) : Option ρ :=
  match st with | .int y :: .int x :: st => K (pc + 1, L, .int (x - y) :: st, A) | _ => none
def ys_imul {ρ : Type} (E : yEnv) (pc : Nat) (L : List (Option Value)) (st : List Value) (A : yM) (K : ySt → Option ρ) (KR : Option Value → yM → Option ρ) : Option ρ :=
  match st with | .int y :: .int x :: st => K (pc + 1, L, .int (x * y) :: st, A) | _ => none
def ys_iand {ρ : Type} (E : yEnv) (pc : Nat) (L : List (Option Value)) (st : List Value) (A : yM) (K : ySt → Option ρ) (KR : Option Value → yM → Option ρ) : Option ρ :=
  match st with | .int y :: .int x :: st => K (pc + 1, L, .int (x &&& y) :: st, A) | _ => none
def ys_ior {ρ : Type} (E : yEnv) (pc : Nat) (L : List (Option Value)) (st : List Value) (A : yM) (K : ySt → Option ρ) (KR : Option Value → yM → Option ρ) : Option ρ :=
  match st with | .int y :: .int x :: st => K (pc + 1, L, .int (x ||| y) :: st, A) | _ => none
def ys_ixor {ρ : Type} (E : yEnv) (pc : Nat) (L : List (Option Value)) (st : List Value) (A : yM) (K : ySt → Option ρ) (KR : Option Value → yM → Option ρ) : Option ρ :=
  match st with | .int y :: .int x :: st => K (pc + 1, L, .int (x ^^^ y) :: st, A) | _ => none
def ys_ishl {ρ : Type} (E : yEnv) (pc : Nat) (L : List (Option Value)) (st : List Value) (A : yM) (K : ySt → Option ρ) (KR : Option Value → yM → Option ρ) : Option ρ :=
  match st with | .int y :: .int x :: st => K (pc + 1, L, .int (x <<< (y &&& 31)) :: st, A) | _ => none
def ys_ishr {ρ : Type} (E : yEnv) (pc : Nat) (L : List (Option Value)) (st : List Value) (A : yM) (K : ySt → Option ρ) (KR : Option Value → yM → Option ρ) : Option ρ :=
  match st with | .int y :: .int x :: st => K (pc + 1, L, .int (x >>> (y &&& 31)) :: st, A) | _ => none
def ys_idiv {ρ : Type} (E : yEnv) (pc : Nat) (L : List (Option Value)) (st : List Value) (A : yM) (K : ySt → Option ρ) (KR : Option Value → yM → Option ρ) : Option ρ :=
  match st with | .int y :: .int x :: st => (if y = 0 then none else K (pc + 1, L, .int (x / y) :: st, A)) | _ => none
def ys_irem {ρ : Type} (E : yEnv) (pc : Nat) (L : List (Option Value)) (st : List Value) (A : yM) (K : ySt → Option ρ) (KR : Option Value → yM → Option ρ) : Option ρ :=
  match st with | .int y :: .int x :: st => (if y = 0 then none else K (pc + 1, L, .int (x - x / y * y) :: st, A)) | _ => none
def ys_ladd {ρ : Type} (E : yEnv) (pc : Nat) (L : List (Option Value)) (st : List Value) (A : yM) (K : ySt → Option ρ) (KR : Option Value → yM → Option ρ) : Option ρ :=
  match st with | .long y :: .long x :: st => K (pc + 1, L, .long (x + y) :: st, A) | _ => none
def ys_lsub {ρ : Type} (E : yEnv) (pc : Nat) (L : List (Option Value)) (st : List Value) (A : yM) (K : ySt → Option ρ) (KR : Option Value → yM → Option ρ) : Option ρ :=
  match st with | .long y :: .long x :: st => K (pc + 1, L, .long (x - y) :: st, A) | _ => none
def ys_lmul {ρ : Type} (E : yEnv) (pc : Nat) (L : List (Option Value)) (st : List Value) (A : yM) (K : ySt → Option ρ) (KR : Option Value → yM → Option ρ) : Option ρ :=
  match st with | .long y :: .long x :: st => K (pc + 1, L, .long (x * y) :: st, A) | _ => none
def ys_ldiv {ρ : Type} (E : yEnv) (pc : Nat) (L : List (Option Value)) (st : List Value) (A : yM) (K : ySt → Option ρ) (KR : Option Value → yM → Option ρ) : Option ρ :=
  match st with | .long y :: .long x :: st => (if y = 0 then none else K (pc + 1, L, .long (x / y) :: st, A)) | _ => none
def ys_lrem {ρ : Type} (E : yEnv) (pc : Nat) (L : List (Option Value)) (st : List Value) (A : yM) (K : ySt → Option ρ) (KR : Option Value → yM → Option ρ) : Option ρ :=
  match st with | .long y :: .long x :: st => (if y = 0 then none else K (pc + 1, L, .long (x - x / y * y) :: st, A)) | _ => none
def ys_lcmp {ρ : Type} (E : yEnv) (pc : Nat) (L : List (Option Value)) (st : List Value) (A : yM) (K : ySt → Option ρ) (KR : Option Value → yM → Option ρ) : Option ρ :=
  match st with | .long y :: .long x :: st => K (pc + 1, L, .int (lg_cmp x y) :: st, A) | _ => none
def ys_i2l {ρ : Type} (E : yEnv) (pc : Nat) (L : List (Option Value)) (st : List Value) (A : yM) (K : ySt → Option ρ) (KR : Option Value → yM → Option ρ) : Option ρ :=
  match st with | .int x :: st => K (pc + 1, L, .long x.toInt64 :: st, A) | _ => none
def ys_i2b {ρ : Type} (E : yEnv) (pc : Nat) (L : List (Option Value)) (st : List Value) (A : yM) (K : ySt → Option ρ) (KR : Option Value → yM → Option ρ) : Option ρ :=
  match st with | .int x :: st => K (pc + 1, L, .int x.toInt8.toInt32 :: st, A) | _ => none
def ys_i2s {ρ : Type} (E : yEnv) (pc : Nat) (L : List (Option Value)) (st : List Value) (A : yM) (K : ySt → Option ρ) (KR : Option Value → yM → Option ρ) : Option ρ :=
  match st with | .int x :: st => K (pc + 1, L, .int x.toInt16.toInt32 :: st, A) | _ => none
def ys_dup {ρ : Type} (E : yEnv) (pc : Nat) (L : List (Option Value)) (st : List Value) (A : yM) (K : ySt → Option ρ) (KR : Option Value → yM → Option ρ) : Option ρ :=
  match st with | .ref x :: st => K (pc + 1, L, .ref x :: .ref x :: st, A) | _ => none
def ys_dup2 {ρ : Type} (E : yEnv) (pc : Nat) (L : List (Option Value)) (st : List Value) (A : yM) (K : ySt → Option ρ) (KR : Option Value → yM → Option ρ) : Option ρ :=
  match st with | .int y :: .ref x :: st => K (pc + 1, L, .int y :: .ref x :: .int y :: .ref x :: st, A) | _ => none
def ys_pop {ρ : Type} (E : yEnv) (pc : Nat) (L : List (Option Value)) (st : List Value) (A : yM) (K : ySt → Option ρ) (KR : Option Value → yM → Option ρ) : Option ρ :=
  match st with | .int _ :: st => K (pc + 1, L, st, A) | _ => none
def ys_goto {ρ : Type} (E : yEnv) (pc : Nat) (L : List (Option Value)) (st : List Value) (A : yM) (K : ySt → Option ρ) (KR : Option Value → yM → Option ρ) (off : Int) : Option ρ :=
  K (xjmp pc off, L, st, A)
def ys_ifCond_eq {ρ : Type} (E : yEnv) (pc : Nat) (L : List (Option Value)) (st : List Value) (A : yM) (K : ySt → Option ρ) (KR : Option Value → yM → Option ρ) (off : Int) : Option ρ :=
  match st with | .int x :: st => (if x = 0 then K (xjmp pc off, L, st, A) else K (pc + 3, L, st, A)) | _ => none
def ys_ifCond_ne {ρ : Type} (E : yEnv) (pc : Nat) (L : List (Option Value)) (st : List Value) (A : yM) (K : ySt → Option ρ) (KR : Option Value → yM → Option ρ) (off : Int) : Option ρ :=
  match st with | .int x :: st => (if x = 0 then K (pc + 3, L, st, A) else K (xjmp pc off, L, st, A)) | _ => none
def ys_ifCond_lt {ρ : Type} (E : yEnv) (pc : Nat) (L : List (Option Value)) (st : List Value) (A : yM) (K : ySt → Option ρ) (KR : Option Value → yM → Option ρ) (off : Int) : Option ρ :=
  match st with | .int x :: st => (if x < 0 then K (xjmp pc off, L, st, A) else K (pc + 3, L, st, A)) | _ => none
def ys_ifCond_ge {ρ : Type} (E : yEnv) (pc : Nat) (L : List (Option Value)) (st : List Value) (A : yM) (K : ySt → Option ρ) (KR : Option Value → yM → Option ρ) (off : Int) : Option ρ :=
  match st with | .int x :: st => (if 0 ≤ x then K (xjmp pc off, L, st, A) else K (pc + 3, L, st, A)) | _ => none
def ys_ifCond_gt {ρ : Type} (E : yEnv) (pc : Nat) (L : List (Option Value)) (st : List Value) (A : yM) (K : ySt → Option ρ) (KR : Option Value → yM → Option ρ) (off : Int) : Option ρ :=
  match st with | .int x :: st => (if 0 < x then K (xjmp pc off, L, st, A) else K (pc + 3, L, st, A)) | _ => none
def ys_ifCond_le {ρ : Type} (E : yEnv) (pc : Nat) (L : List (Option Value)) (st : List Value) (A : yM) (K : ySt → Option ρ) (KR : Option Value → yM → Option ρ) (off : Int) : Option ρ :=
  match st with | .int x :: st => (if x ≤ 0 then K (xjmp pc off, L, st, A) else K (pc + 3, L, st, A)) | _ => none
def ys_if_icmp_eq {ρ : Type} (E : yEnv) (pc : Nat) (L : List (Option Value)) (st : List Value) (A : yM) (K : ySt → Option ρ) (KR : Option Value → yM → Option ρ) (off : Int) : Option ρ :=
  match st with | .int y :: .int x :: st => (if x = y then K (xjmp pc off, L, st, A) else K (pc + 3, L, st, A)) | _ => none
def ys_if_icmp_ne {ρ : Type} (E : yEnv) (pc : Nat) (L : List (Option Value)) (st : List Value) (A : yM) (K : ySt → Option ρ) (KR : Option Value → yM → Option ρ) (off : Int) : Option ρ :=
  match st with | .int y :: .int x :: st => (if x = y then K (pc + 3, L, st, A) else K (xjmp pc off, L, st, A)) | _ => none
def ys_if_icmp_lt {ρ : Type} (E : yEnv) (pc : Nat) (L : List (Option Value)) (st : List Value) (A : yM) (K : ySt → Option ρ) (KR : Option Value → yM → Option ρ) (off : Int) : Option ρ :=
  match st with | .int y :: .int x :: st => (if x < y then K (xjmp pc off, L, st, A) else K (pc + 3, L, st, A)) | _ => none
def ys_if_icmp_ge {ρ : Type} (E : yEnv) (pc : Nat) (L : List (Option Value)) (st : List Value) (A : yM) (K : ySt → Option ρ) (KR : Option Value → yM → Option ρ) (off : Int) : Option ρ :=
  match st with | .int y :: .int x :: st => (if y ≤ x then K (xjmp pc off, L, st, A) else K (pc + 3, L, st, A)) | _ => none
def ys_if_icmp_gt {ρ : Type} (E : yEnv) (pc : Nat) (L : List (Option Value)) (st : List Value) (A : yM) (K : ySt → Option ρ) (KR : Option Value → yM → Option ρ) (off : Int) : Option ρ :=
  match st with | .int y :: .int x :: st => (if y < x then K (xjmp pc off, L, st, A) else K (pc + 3, L, st, A)) | _ => none
def ys_if_icmp_le {ρ : Type} (E : yEnv) (pc : Nat) (L : List (Option Value)) (st : List Value) (A : yM) (K : ySt → Option ρ) (KR : Option Value → yM → Option ρ) (off : Int) : Option ρ :=
  match st with | .int y :: .int x :: st => (if x ≤ y then K (xjmp pc off, L, st, A) else K (pc + 3, L, st, A)) | _ => none
def ys_tableswitch {ρ : Type} (E : yEnv) (pc : Nat) (L : List (Option Value)) (st : List Value) (A : yM) (K : ySt → Option ρ) (KR : Option Value → yM → Option ρ) (d : Int) (lo : Int) (hi : Int) (offs : Array Int) : Option ρ :=
  match st with | .int x :: st => xsw x (xjmp pc d) (fun t => K (t, L, st, A)) (xtab pc lo offs.toList) | _ => none
def ys_lookupswitch {ρ : Type} (E : yEnv) (pc : Nat) (L : List (Option Value)) (st : List Value) (A : yM) (K : ySt → Option ρ) (KR : Option Value → yM → Option ρ) (d : Int) (ps : Array (Int × Int)) : Option ρ :=
  match st with | .int x :: st => xsw x (xjmp pc d) (fun t => K (t, L, st, A)) (ps.toList.map fun q => (q.1, xjmp pc q.2)) | _ => none
def ys_iaload {ρ : Type} (E : yEnv) (pc : Nat) (L : List (Option Value)) (st : List Value) (A : yM) (K : ySt → Option ρ) (KR : Option Value → yM → Option ρ) : Option ρ :=
  match st with | .int i :: .ref a :: st => yrd A a i (fun x => K (pc + 1, L, .int x :: st, A)) | _ => none
def ys_laload {ρ : Type} (E : yEnv) (pc : Nat) (L : List (Option Value)) (st : List Value) (A : yM) (K : ySt → Option ρ) (KR : Option Value → yM → Option ρ) : Option ρ :=
  match st with | .int i :: .ref a :: st => yrL A a i (fun x => K (pc + 1, L, .long x :: st, A)) | _ => none
def ys_arraylength {ρ : Type} (E : yEnv) (pc : Nat) (L : List (Option Value)) (st : List Value) (A : yM) (K : ySt → Option ρ) (KR : Option Value → yM → Option ρ) : Option ρ :=
  match st with | .ref a :: st => yle A a (fun x => K (pc + 1, L, .int x :: st, A)) | _ => none
def ys_iastore {ρ : Type} (E : yEnv) (pc : Nat) (L : List (Option Value)) (st : List Value) (A : yM) (K : ySt → Option ρ) (KR : Option Value → yM → Option ρ) : Option ρ :=
  match st with | .int x :: .int i :: .ref a :: st => ywr A a i x (fun A => K (pc + 1, L, st, A)) | _ => none
def ys_aaload {ρ : Type} (E : yEnv) (pc : Nat) (L : List (Option Value)) (st : List Value) (A : yM) (K : ySt → Option ρ) (KR : Option Value → yM → Option ρ) : Option ρ :=
  match st with | .int i :: .ref a :: st => yrR A a i (fun x => K (pc + 1, L, .ref x :: st, A)) | _ => none
def ys_getfield {ρ : Type} (E : yEnv) (pc : Nat) (L : List (Option Value)) (st : List Value) (A : yM) (K : ySt → Option ρ) (KR : Option Value → yM → Option ρ) (n : Nat) : Option ρ :=
  match E.1 n, st with
    | some (ci, k, 1, _), .ref a :: st => ygR A a ci k (fun x => K (pc + 3, L, .ref x :: st, A))
    | some (ci, k, 5, _), .ref a :: st => ygR A a ci k (fun x => K (pc + 3, L, .ref x :: st, A))
    | some (ci, k, _, _), .ref a :: st => ygI A a ci k (fun x => K (pc + 3, L, .int x :: st, A))
    | _, _ => none
def ys_putfield {ρ : Type} (E : yEnv) (pc : Nat) (L : List (Option Value)) (st : List Value) (A : yM) (K : ySt → Option ρ) (KR : Option Value → yM → Option ρ) (n : Nat) : Option ρ :=
  match E.1 n, st with
    | some (ci, k, 0, false), .int x :: .ref a :: st => ypI A a ci k x (fun A => K (pc + 3, L, st, A))
    | some (ci, k, 2, false), .int x :: .ref a :: st => if x = 0 ∨ x = 1 then ypI A a ci k x (fun A => K (pc + 3, L, st, A)) else none
    | _, _ => none
def ys_invokevirtual {ρ : Type} (E : yEnv) (pc : Nat) (L : List (Option Value)) (st : List Value) (A : yM) (K : ySt → Option ρ) (KR : Option Value → yM → Option ρ) (k : Nat) : Option ρ :=
  ycal (E.2.2.1 (3 * k)) pc L st A K
def ys_invokestatic {ρ : Type} (E : yEnv) (pc : Nat) (L : List (Option Value)) (st : List Value) (A : yM) (K : ySt → Option ρ) (KR : Option Value → yM → Option ρ) (k : Nat) : Option ρ :=
  ycal (E.2.2.1 (3 * k + 1)) pc L st A K
def ys_invokespecial {ρ : Type} (E : yEnv) (pc : Nat) (L : List (Option Value)) (st : List Value) (A : yM) (K : ySt → Option ρ) (KR : Option Value → yM → Option ρ) (k : Nat) : Option ρ :=
  ycal (E.2.2.1 (3 * k + 2)) pc L st A K
def ys_return_ {ρ : Type} (E : yEnv) (pc : Nat) (L : List (Option Value)) (st : List Value) (A : yM) (K : ySt → Option ρ) (KR : Option Value → yM → Option ρ) : Option ρ :=
  match st, E.2.2.2 with | [], none => KR none A | _, _ => none
def ys_ireturn {ρ : Type} (E : yEnv) (pc : Nat) (L : List (Option Value)) (st : List Value) (A : yM) (K : ySt → Option ρ) (KR : Option Value → yM → Option ρ) : Option ρ :=
  match st, E.2.2.2 with
    | [.int x], some .int => KR (some (.int x)) A
    | [.int x], some .boolean => if x = 0 ∨ x = 1 then KR (some (.int x)) A else none
    | _, _ => none
def ys_lreturn {ρ : Type} (E : yEnv) (pc : Nat) (L : List (Option Value)) (st : List Value) (A : yM) (K : ySt → Option ρ) (KR : Option Value → yM → Option ρ) : Option ρ :=
  match st, E.2.2.2 with | [.long x], some .long => KR (some (.long x)) A | _, _ => none
def ystp {ρ : Type} (E : yEnv) (i : Instr) (pc : Nat) (L : List (Option Value)) (st : List Value) (A : yM) (K : ySt → Option ρ) (KR : Option Value → yM → Option ρ) : Option ρ :=
  match i with
  | .iconst n => ys_iconst E pc L st A K KR n
  | .bipush n => ys_bipush E pc L st A K KR n
  | .sipush n => ys_sipush E pc L st A K KR n
  | .lconst n => ys_lconst E pc L st A K KR n
  | .ldc n => ys_ldc E pc L st A K KR n
  | .ldc_w n => ys_ldc_w E pc L st A K KR n
  | .ldc2_w n => ys_ldc2_w E pc L st A K KR n
  | .iload_n k => ys_iload_n E pc L st A K KR k
  | .iload k => ys_iload E pc L st A K KR k
  | .lload_n k => ys_lload_n E pc L st A K KR k
  | .lload k => ys_lload E pc L st A K KR k
  | .aload_n k => ys_aload_n E pc L st A K KR k
  | .aload k => ys_aload E pc L st A K KR k
  | .istore_n k => ys_istore_n E pc L st A K KR k
  | .istore k => ys_istore E pc L st A K KR k
  | .lstore_n k => ys_lstore_n E pc L st A K KR k
  | .lstore k => ys_lstore E pc L st A K KR k
  | .astore_n k => ys_astore_n E pc L st A K KR k
  | .astore k => ys_astore E pc L st A K KR k
  | .iinc k n => ys_iinc E pc L st A K KR k n
  | .iadd => ys_iadd E pc L st A K KR
  | .isub => ys_isub E pc L st A K KR
  | .imul => ys_imul E pc L st A K KR
  | .iand => ys_iand E pc L st A K KR
  | .ior => ys_ior E pc L st A K KR
  | .ixor => ys_ixor E pc L st A K KR
  | .ishl => ys_ishl E pc L st A K KR
  | .ishr => ys_ishr E pc L st A K KR
  | .idiv => ys_idiv E pc L st A K KR
  | .irem => ys_irem E pc L st A K KR
  | .ladd => ys_ladd E pc L st A K KR
  | .lsub => ys_lsub E pc L st A K KR
  | .lmul => ys_lmul E pc L st A K KR
  | .ldiv => ys_ldiv E pc L st A K KR
  | .lrem => ys_lrem E pc L st A K KR
  | .lcmp => ys_lcmp E pc L st A K KR
  | .i2l => ys_i2l E pc L st A K KR
  | .i2b => ys_i2b E pc L st A K KR
  | .i2s => ys_i2s E pc L st A K KR
  | .dup => ys_dup E pc L st A K KR
  | .dup2 => ys_dup2 E pc L st A K KR
  | .pop => ys_pop E pc L st A K KR
  | .goto off => ys_goto E pc L st A K KR off
  | .ifCond .eq off => ys_ifCond_eq E pc L st A K KR off
  | .ifCond .ne off => ys_ifCond_ne E pc L st A K KR off
  | .ifCond .lt off => ys_ifCond_lt E pc L st A K KR off
  | .ifCond .ge off => ys_ifCond_ge E pc L st A K KR off
  | .ifCond .gt off => ys_ifCond_gt E pc L st A K KR off
  | .ifCond .le off => ys_ifCond_le E pc L st A K KR off
  | .if_icmp .eq off => ys_if_icmp_eq E pc L st A K KR off
  | .if_icmp .ne off => ys_if_icmp_ne E pc L st A K KR off
  | .if_icmp .lt off => ys_if_icmp_lt E pc L st A K KR off
  | .if_icmp .ge off => ys_if_icmp_ge E pc L st A K KR off
  | .if_icmp .gt off => ys_if_icmp_gt E pc L st A K KR off
  | .if_icmp .le off => ys_if_icmp_le E pc L st A K KR off
  | .tableswitch d lo hi offs => ys_tableswitch E pc L st A K KR d lo hi offs
  | .lookupswitch d ps => ys_lookupswitch E pc L st A K KR d ps
  | .iaload => ys_iaload E pc L st A K KR
  | .laload => ys_laload E pc L st A K KR
  | .arraylength => ys_arraylength E pc L st A K KR
  | .iastore => ys_iastore E pc L st A K KR
  | .aaload => ys_aaload E pc L st A K KR
  | .getfield n => ys_getfield E pc L st A K KR n
  | .putfield n => ys_putfield E pc L st A K KR n
  | .invokevirtual k => ys_invokevirtual E pc L st A K KR k
  | .invokestatic k => ys_invokestatic E pc L st A K KR k
  | .invokespecial k => ys_invokespecial E pc L st A K KR k
  | .return_ => ys_return_ E pc L st A K KR
  | .ireturn => ys_ireturn E pc L st A K KR
  | .lreturn => ys_lreturn E pc L st A K KR
  | _ => none
