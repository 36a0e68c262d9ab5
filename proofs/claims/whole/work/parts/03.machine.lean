/-! THE PURE MACHINE: its states name cells by their places in a list; the kit's worlds are made of it by an assignment of addresses -/
def xv (ad : Nat → Nat) : Value → Value
  | .ref k => .ref (ad k)
  | v => v
abbrev xA : Type := (Nat → Int32) ⊕ (Nat → Int64) ⊕ (Nat → Option Nat)
abbrev xO : Type := (Nat × Nat × xA) ⊕ (Nat × List Value)
/-- the cells; how many cells and slots were made so far -/
abbrev xS : Type := List xO × Nat × Nat
abbrev xSt : Type := Nat × List (Option Value) × List Value × xS
def xo (tc : Nat → ClassId) (ad : Nat → Nat) : xO → va_E
  | .inl (t, n, .inl f) => .inl (tc t, n, .inl f)
  | .inl (t, n, .inr (.inl f)) => .inl (tc t, n, .inr (.inl f))
  | .inl (t, n, .inr (.inr f)) => .inl (tc t, n, .inr (.inr (.inr (.inr (fun i => (f i).map ad)))))
  | .inr (ci, fs) => .inr (ci, fs.map (xv ad))
/-- the script's row: a row of ints whose class is known by its kind alone; it lies outside of the world -/
def xsc : xO → Bool
  | .inl (t, _, .inl _) => t == 4
  | _ => false
def xw (tc : Nat → ClassId) (ad : Nat → Nat) (os : List xO) : va_W := (os.zipIdx.filter (fun q => !xsc q.1)).map (fun q => (ad q.2, xo tc ad q.1))
/-- where in the world a place's row stands -/
def xk (os : List xO) (a : Nat) : Nat := ((os.take a).filter (fun o => !xsc o)).length
def xl (ad : Nat → Nat) (L : List (Option Value)) : List (Nat × Value) := L.zipIdx.filterMap (fun q => q.1.map (fun v => (q.2, xv ad v)))
theorem xk_z : ∀ (os : List xO) (n a : Nat) (o : xO), os[a]? = some o → xsc o = false → ((os.zipIdx n).filter (fun q => !xsc q.1))[xk os a]? = some (o, n + a) := by
  intro os
  induction os with
  | nil => intro n a o h; cases h
  | cons r os ih =>
    intro n a o h hs
    cases a with
    | zero =>
      have h : r = o := Option.some.inj h
      subst h
      simp [xk, List.zipIdx_cons, hs]
    | succ a =>
      have h : os[a]? = some o := by simpa using h
      have h1 := ih (n + 1) a o h hs
      cases hr : xsc r with
      | true =>
        have e : xk (r :: os) (a + 1) = xk os a := by simp [xk, hr]
        rw [e, List.zipIdx_cons, List.filter_cons_of_neg (by simp [hr]), h1, show n + 1 + a = n + (a + 1) by omega]
      | false =>
        have e : xk (r :: os) (a + 1) = xk os a + 1 := by simp [xk, hr]
        rw [e, List.zipIdx_cons, List.filter_cons_of_pos (by simp [hr]), List.getElem?_cons_succ, h1, show n + 1 + a = n + (a + 1) by omega]
theorem xk_i : ∀ (os : List xO) (n j : Nat) (q : xO × Nat), ((os.zipIdx n).filter (fun q => !xsc q.1))[j]? = some q → ∃ a o, os[a]? = some o ∧ xsc o = false ∧ q = (o, n + a) ∧ j = xk os a := by
  intro os
  induction os with
  | nil => intro n j q h; simp at h
  | cons r os ih =>
    intro n j q h
    rw [List.zipIdx_cons] at h
    cases hr : xsc r with
    | true =>
      rw [List.filter_cons_of_neg (by simp [hr])] at h
      obtain ⟨a, o, h1, h2, h3, h4⟩ := ih (n + 1) j q h
      refine ⟨a + 1, o, by simpa using h1, h2, by rw [h3, show n + 1 + a = n + (a + 1) by omega], ?_⟩
      rw [h4]
      simp [xk, hr]
    | false =>
      rw [List.filter_cons_of_pos (by simp [hr])] at h
      cases j with
      | zero =>
        have h : (r, n) = q := Option.some.inj h
        exact ⟨0, r, rfl, hr, by rw [← h]; rfl, by simp [xk]⟩
      | succ j =>
        rw [List.getElem?_cons_succ] at h
        obtain ⟨a, o, h1, h2, h3, h4⟩ := ih (n + 1) j q h
        refine ⟨a + 1, o, by simpa using h1, h2, by rw [h3, show n + 1 + a = n + (a + 1) by omega], ?_⟩
        rw [h4]
        simp [xk, hr]
theorem xw_at {tc : Nat → ClassId} {ad : Nat → Nat} {os : List xO} {k : Nat} {o : xO} (h : os[k]? = some o) (hs : xsc o = false) : (xw tc ad os)[xk os k]? = some (ad k, xo tc ad o) := by
  unfold xw
  rw [List.getElem?_map, xk_z os 0 k o h hs, Nat.zero_add]
  rfl
theorem xw_inv {tc : Nat → ClassId} {ad : Nat → Nat} {os : List xO} {j : Nat} {q : Nat × va_E} (h : (xw tc ad os)[j]? = some q) : ∃ a o, os[a]? = some o ∧ xsc o = false ∧ q = (ad a, xo tc ad o) ∧ j = xk os a := by
  unfold xw at h
  rw [List.getElem?_map] at h
  obtain ⟨z, h1, h2⟩ := Option.map_eq_some_iff.mp h
  obtain ⟨a, o, g1, g2, g3, g4⟩ := xk_i os 0 j z h1
  refine ⟨a, o, g1, g2, ?_, g4⟩
  rw [← h2, g3, Nat.zero_add]
theorem xk_set : ∀ (os : List xO) (k a : Nat) (o o0 : xO), os[k]? = some o0 → xsc o0 = false → xsc o = false → xk (os.set k o) a = xk os a := by
  intro os
  induction os with
  | nil => intro k a o o0 h; cases h
  | cons r os ih =>
    intro k a o o0 h h0 hs
    cases a with
    | zero => simp [xk]
    | succ a =>
      cases k with
      | zero =>
        have h : r = o0 := Option.some.inj h
        subst h
        simp [xk, h0, hs]
      | succ k =>
        have h1 := ih k a o o0 (by simpa using h) h0 hs
        cases hr : xsc r with
        | true => simpa [xk, hr] using h1
        | false => simpa [xk, hr] using h1
theorem xk_inj : ∀ (os : List xO) (a b : Nat) (o o' : xO), os[a]? = some o → xsc o = false → os[b]? = some o' → xsc o' = false → xk os a = xk os b → a = b := by
  intro os a b o o' h1 h2 h3 h4 he
  have e1 := xk_z os 0 a o h1 h2
  have e2 := xk_z os 0 b o' h3 h4
  rw [he, e2] at e1
  have := (Prod.mk.inj (Option.some.inj e1)).2
  omega
/-- the world, place by place -/
theorem xw_P {D : va_G} {cl : List vw_C} {tc : Nat → ClassId} {ad : Nat → Nat} {os : List xO} {H : Heap} : va_P D cl (xw tc ad os) H ↔ ∀ a o, os[a]? = some o → xsc o = false → va_at D cl (ad a, xo tc ad o) H := by
  constructor
  · intro h a o h1 h2
    exact h _ _ (xw_at h1 h2)
  · intro h j q hq
    obtain ⟨a, o, h1, h2, rfl, -⟩ := xw_inv hq
    exact h a o h1 h2
theorem xw_D {A : Nat → Prop} {tc : Nat → ClassId} {ad : Nat → Nat} {os : List xO} : va_D A (xw tc ad os) ↔ (∀ a b o o', os[a]? = some o → xsc o = false → os[b]? = some o' → xsc o' = false → ad a = ad b → a = b) ∧ ∀ a o, os[a]? = some o → xsc o = false → A (ad a) := by
  constructor
  · intro h
    refine ⟨fun a b o o' h1 h2 h3 h4 he => ?_, fun a o h1 h2 => h.2 _ _ (xw_at (tc := tc) (ad := ad) h1 h2)⟩
    exact xk_inj os a b o o' h1 h2 h3 h4 (h.1 _ _ _ _ (xw_at (tc := tc) (ad := ad) h1 h2) (xw_at (tc := tc) (ad := ad) h3 h4) he)
  · intro h
    refine ⟨fun i j p q hi hj he => ?_, fun i q hi => ?_⟩
    · obtain ⟨a, o, h1, h2, rfl, rfl⟩ := xw_inv hi
      obtain ⟨b, o', h3, h4, rfl, rfl⟩ := xw_inv hj
      rw [h.1 a b o o' h1 h2 h3 h4 he]
    · obtain ⟨a, o, h1, h2, rfl, -⟩ := xw_inv hi
      exact h.2 a o h1 h2
theorem xw_set {tc : Nat → ClassId} {ad : Nat → Nat} {os : List xO} {k : Nat} {o o0 : xO} (h : os[k]? = some o0) (h0 : xsc o0 = false) (hs : xsc o = false) : (xw tc ad os).set (xk os k) (ad k, xo tc ad o) = xw tc ad (os.set k o) := by
  have hk : k < os.length := (List.getElem?_eq_some_iff.mp h).1
  apply List.ext_getElem?
  intro j
  cases hj : (xw tc ad (os.set k o))[j]? with
  | some q =>
    obtain ⟨a, o1, h1, h2, rfl, rfl⟩ := xw_inv hj
    rw [xk_set os k a o o0 h h0 hs, List.getElem?_set]
    rw [List.getElem?_set] at h1
    by_cases ha : k = a
    · subst ha
      rw [if_pos rfl, if_pos hk] at h1
      cases h1
      have hl := (List.getElem?_eq_some_iff.mp (xw_at (tc := tc) (ad := ad) h h0)).1
      rw [if_pos rfl, if_pos hl]
    · rw [if_neg ha] at h1
      rw [if_neg (fun e => ha (xk_inj os k a o0 o1 h h0 h1 h2 e))]
      exact xw_at h1 h2
  | none =>
    cases hi : ((xw tc ad os).set (xk os k) (ad k, xo tc ad o))[j]? with
    | none => rfl
    | some q =>
      exfalso
      rw [List.getElem?_set] at hi
      by_cases hkj : xk os k = j
      · have h1 : (os.set k o)[k]? = some o := by rw [List.getElem?_set, if_pos rfl, if_pos hk]
        have h2 := xw_at (tc := tc) (ad := ad) h1 hs
        rw [xk_set os k k o o0 h h0 hs, hkj, hj] at h2
        cases h2
      · rw [if_neg hkj] at hi
        obtain ⟨a, o1, h1, h2, rfl, rfl⟩ := xw_inv hi
        have hka : k ≠ a := fun e => hkj (by rw [e])
        have h3 : (os.set k o)[a]? = some o1 := by rw [List.getElem?_set, if_neg hka]; exact h1
        have h4 := xw_at (tc := tc) (ad := ad) h3 h2
        rw [xk_set os k a o o0 h h0 hs, hj] at h4
        cases h4
theorem xl_mem {ad : Nat → Nat} {L : List (Option Value)} {q : Nat × Value} (h : q ∈ xl ad L) : ∃ v, L[q.1]? = some (some v) ∧ q.2 = xv ad v := by
  unfold xl at h
  obtain ⟨⟨o, i⟩, h1, h2⟩ := List.mem_filterMap.mp h
  cases o with
  | none => cases h2
  | some v =>
    have h3 := List.mem_zipIdx_iff_getElem?.mp h1
    simp at h2
    subst h2
    exact ⟨v, by simpa using h3, rfl⟩
theorem xl_in {ad : Nat → Nat} {L : List (Option Value)} {i : Nat} {v : Value} (h : L[i]? = some (some v)) : (i, xv ad v) ∈ xl ad L := by
  unfold xl
  refine List.mem_filterMap.mpr ⟨(some v, i), List.mem_zipIdx_iff_getElem?.mpr (by simpa using h), rfl⟩
theorem xl_get {ad : Nat → Nat} {L : List (Option Value)} {ls : Array Slot} {nL i : Nat} {v : Value} (h : lv_has ls nL (xl ad L)) (hi : L[i]? = some (some v)) : ls[i]? = some (.val (xv ad v)) := h.2.2 (i, xv ad v) (xl_in hi)
theorem xv_cat (ad : Nat → Nat) (v : Value) : (xv ad v).category = v.category := by cases v <;> rfl
/-- a long that a store cuts in two is gone -/
def xkl (L : List (Option Value)) (i : Nat) : List (Option Value) := match L[i]? with
  | some (some (.long _)) => L.set i none
  | some (some (.double _)) => L.set i none
  | _ => L
theorem xkl_len (L : List (Option Value)) (i : Nat) : (xkl L i).length = L.length := by
  unfold xkl
  split <;> simp
theorem xkl_get {L : List (Option Value)} {i k : Nat} {w : Value} (h : (xkl L i)[k]? = some (some w)) : L[k]? = some (some w) ∧ (k = i → w.category = 1) := by
  unfold xkl at h
  split at h
  · rename_i z hz
    rw [List.getElem?_set] at h
    split at h
    · split at h <;> cases h
    · rename_i hne
      exact ⟨h, fun e => absurd e.symm hne⟩
  · rename_i z hz
    rw [List.getElem?_set] at h
    split at h
    · split at h <;> cases h
    · rename_i hne
      exact ⟨h, fun e => absurd e.symm hne⟩
  · rename_i h1 h2
    refine ⟨h, fun e => ?_⟩
    subst e
    cases w with
    | long z => exact absurd h (h1 z)
    | double z => exact absurd h (h2 z)
    | _ => rfl
def xst1 (L : List (Option Value)) (i : Nat) (v : Value) : Option (List (Option Value)) :=
  match L[i]? with
  | none => none
  | some _ => some ((xkl L (i - 1)).set i (some v))
def xst2 (L : List (Option Value)) (i : Nat) (v : Value) : Option (List (Option Value)) :=
  match L[i + 1]? with
  | none => none
  | some _ => some (((xkl L (i - 1)).set i (some v)).set (i + 1) none)
theorem xst1_ok {ad : Nat → Nat} {L L' : List (Option Value)} {ls : Array Slot} {nL i : Nat} {v : Value} (h : lv_has ls nL (xl ad L)) (hL : L.length = nL) (hc : v.category = 1) (e : xst1 L i v = some L') :
    i < nL ∧ L'.length = nL ∧ ∀ ls', lv_has ls' nL ((i, xv ad v) :: (xl ad L).filter (fun q => !(q.1 == i) && !(q.1 + 1 == i && q.2.category == 2))) → lv_has ls' nL (xl ad L') := by
  unfold xst1 at e
  split at e
  · cases e
  · rename_i o hi
    cases e
    have hlt : i < L.length := (List.getElem?_eq_some_iff.mp hi).1
    refine ⟨by omega, by simp [hL, xkl_len], fun ls' h' => ⟨h'.1, h'.2.1, fun q hq => ?_⟩⟩
    obtain ⟨w, hw, hq2⟩ := xl_mem hq
    rw [List.getElem?_set, xkl_len] at hw
    by_cases hqi : i = q.1
    · rw [if_pos hqi, if_pos hlt] at hw
      cases hw
      have : q = (i, xv ad v) := by rw [hqi, ← hq2]
      rw [this]
      exact h'.2.2 _ List.mem_cons_self
    · rw [if_neg hqi] at hw
      obtain ⟨hw, hcat⟩ := xkl_get hw
      refine h'.2.2 q (List.mem_cons_of_mem _ (List.mem_filter.mpr ⟨?_, ?_⟩))
      · have : q = (q.1, xv ad w) := by rw [← hq2]
        rw [this]
        exact xl_in hw
      · have h1 : (q.1 == i) = false := by simp; omega
        rw [h1]
        by_cases h2 : q.1 + 1 = i
        · have h4 : q.2.category = 1 := by
            rw [hq2, xv_cat]
            exact hcat (by omega)
          simp [h4]
        · have h3 : (q.1 + 1 == i) = false := by simp; omega
          simp [h3]
theorem xst2_ok {ad : Nat → Nat} {L L' : List (Option Value)} {ls : Array Slot} {nL i : Nat} {v : Value} (h : lv_has ls nL (xl ad L)) (hL : L.length = nL) (e : xst2 L i v = some L') :
    i + 1 < nL ∧ L'.length = nL ∧ ∀ ls', lv_has ls' nL ((i, xv ad v) :: (xl ad L).filter (fun q => !(q.1 == i) && (!(q.1 == i + 1) && !(q.1 + 1 == i && q.2.category == 2)))) → lv_has ls' nL (xl ad L') := by
  unfold xst2 at e
  split at e
  · cases e
  · rename_i o hi
    cases e
    have hlt : i + 1 < L.length := (List.getElem?_eq_some_iff.mp hi).1
    refine ⟨by omega, by simp [hL, xkl_len], fun ls' h' => ⟨h'.1, h'.2.1, fun q hq => ?_⟩⟩
    obtain ⟨w, hw, hq2⟩ := xl_mem hq
    rw [List.getElem?_set] at hw
    by_cases hqj : i + 1 = q.1
    · rw [if_pos hqj] at hw
      split at hw <;> cases hw
    rw [if_neg hqj, List.getElem?_set, xkl_len] at hw
    by_cases hqi : i = q.1
    · rw [if_pos hqi, if_pos (by omega)] at hw
      cases hw
      have : q = (i, xv ad v) := by rw [hqi, ← hq2]
      rw [this]
      exact h'.2.2 _ List.mem_cons_self
    · rw [if_neg hqi] at hw
      obtain ⟨hw, hcat⟩ := xkl_get hw
      refine h'.2.2 q (List.mem_cons_of_mem _ (List.mem_filter.mpr ⟨?_, ?_⟩))
      · have : q = (q.1, xv ad w) := by rw [← hq2]
        rw [this]
        exact xl_in hw
      · have h1 : (q.1 == i) = false := by simp; omega
        have h1' : (q.1 == i + 1) = false := by simp; omega
        rw [h1, h1']
        by_cases h2 : q.1 + 1 = i
        · have h4 : q.2.category = 1 := by
            rw [hq2, xv_cat]
            exact hcat (by omega)
          simp [h4]
        · have h3 : (q.1 + 1 == i) = false := by simp; omega
          simp [h3]
/-! reads and writes of the pure cells -/
def xrdI (h : xS) (a : Nat) (i : Int32) : Option Int32 :=
  match h.1[a]? with
  | some (.inl (0, n, .inl f)) => if i < 0 ∨ n ≤ i.toNatClampNeg then none else some (f i.toNatClampNeg)
  | some (.inl (4, n, .inl f)) => if i < 0 ∨ n ≤ i.toNatClampNeg then none else some (f i.toNatClampNeg)
  | _ => none
def xrdL (h : xS) (a : Nat) (i : Int32) : Option Int64 :=
  match h.1[a]? with
  | some (.inl (3, n, .inr (.inl f))) => if i < 0 ∨ n ≤ i.toNatClampNeg then none else some (f i.toNatClampNeg)
  | _ => none
def xlnI (h : xS) (a : Nat) : Option Int32 :=
  match h.1[a]? with
  | some (.inl (0, n, .inl _)) => some (Int32.ofNat n)
  | some (.inl (4, n, .inl _)) => some (Int32.ofNat n)
  | _ => none
def xwrI (h : xS) (a : Nat) (i v : Int32) : Option xS :=
  match h.1[a]? with
  | some (.inl (0, n, .inl f)) => if i < 0 ∨ n ≤ i.toNatClampNeg then none else some (h.1.set a (.inl (0, n, .inl (upd f i.toNatClampNeg v))), h.2)
  | _ => none
def xrdR (h : xS) (a : Nat) (i : Int32) : Option Nat :=
  match h.1[a]? with
  | some (.inl (t, n, .inr (.inr f))) => if (t = 1 ∨ t = 2) ∧ ¬ (i < 0 ∨ n ≤ i.toNatClampNeg) then f i.toNatClampNeg else none
  | _ => none
/-- which kinds of cells a row of references takes: 1 the students' kinds, 2 shelves -/
def xmay (t ci : Nat) : Bool := (t == 1 && (ci == 1 || ci == 2 || ci == 3 || ci == 4 || ci == 5 || ci == 6 || ci == 8 || ci == 9)) || (t == 2 && ci == 7)
def xwrR (h : xS) (a : Nat) (i : Int32) (v : Nat) : Option xS :=
  match h.1[a]?, h.1[v]? with
  | some (.inl (t, n, .inr (.inr f))), some (.inr (ci, _)) => if xmay t ci = true ∧ ¬ (i < 0 ∨ n ≤ i.toNatClampNeg) then some (h.1.set a (.inl (t, n, .inr (.inr (va_up f i.toNatClampNeg (some v))))), h.2) else none
  | _, _ => none
def xgI (h : xS) (a ci k : Nat) : Option Int32 :=
  match h.1[a]? with
  | some (.inr (cj, fs)) => if cj = ci then (match fs[k]? with | some (.int v) => some v | _ => none) else none
  | _ => none
def xgR (h : xS) (a ci k : Nat) : Option Nat :=
  match h.1[a]? with
  | some (.inr (cj, fs)) => if cj = ci then (match fs[k]? with | some (.ref v) => some v | _ => none) else none
  | _ => none
def xpV (h : xS) (a ci k : Nat) (v : Value) : Option xS :=
  match h.1[a]? with
  | some (.inr (cj, fs)) => if cj = ci ∧ k < fs.length then some (h.1.set a (.inr (cj, fs.set k v)), h.2) else none
  | _ => none
/-- all places that are named are there -/
def xokV (n : Nat) : Value → Bool
  | .ref k => decide (k < n)
  | _ => true
def xokO (n : Nat) : xO → Bool
  | .inl (_, m, .inr (.inr f)) => (List.range m).all (fun i => match f i with | none => true | some k => decide (k < n))
  | .inl _ => true
  | .inr (_, fs) => fs.all (xokV n)
def xokL (n : Nat) (L : List (Option Value)) : Bool := L.all (fun o => match o with | none => true | some v => xokV n v)
def xok (h : xS) (L : List (Option Value)) (st : List Value) : Bool := h.1.all (xokO h.1.length) && xokL h.1.length L && st.all (xokV h.1.length)
/-- what a call does: nothing is given back, an int, a long -/
abbrev xF : Type := (List Value → xS → Option xS) ⊕ (List Value → xS → Option (Int32 × xS)) ⊕ (List Value → xS → Option (Int64 × xS))
/-- fields (which cells, place, kind, final), constants, calls, new cells, new rows of references, whether a constructor, what is given back -/
abbrev xEnv : Type := (Nat → Option (Nat × Nat × Nat × Bool)) × (Nat → Option (Int32 ⊕ Int64)) × (Nat → Option (Nat × Bool × xF)) × (Nat → Option (Nat × Nat × List Value)) × (Nat → Option Nat) × Bool × Option FieldType
def xjmp (pc : Nat) (off : Int) : Nat := ((pc : Int) + off).toNat
def xsw {ρ : Type} (x : Int32) (d : Nat) (K : Nat → Option ρ) : List (Int × Nat) → Option ρ
  | [] => K d
  | (a, t) :: r => if x = Int32.ofInt a then K t else xsw x d K r
def xtab (pc : Nat) : Int → List Int → List (Int × Nat)
  | _, [] => []
  | lo, o :: r => (lo, xjmp pc o) :: xtab pc (lo + 1) r
def xcat (st : List Value) : Bool := Nat.ble ((st.map fun v => v.category).sum) 8
/-- a call: its arguments from the stack, what is given back onto it; b: new cells may come of it (then all places named here must be there) -/
def xcal {ρ : Type} (init : Bool) (o : Option (Nat × Bool × xF)) (pc : Nat) (L : List (Option Value)) (st : List Value) (h : xS) (K : xSt → Option ρ) : Option ρ :=
  match o with
  | some (n, b, F) => if (Nat.ble n st.length && (xcat (st.drop n) && (!b || (init && xok h L (st.drop n))))) = true then
      (match F with
      | .inl f => (f (st.take n).reverse h).bind (fun h => K (pc + 3, L, st.drop n, h))
      | .inr (.inl f) => (f (st.take n).reverse h).bind (fun r => K (pc + 3, L, .int r.1 :: st.drop n, r.2))
      | .inr (.inr f) => (f (st.take n).reverse h).bind (fun r => K (pc + 3, L, .long r.1 :: st.drop n, r.2)))
    else none
  | none => none
def xstp {ρ : Type} (E : xEnv) (i : Instr) (pc : Nat) (L : List (Option Value)) (st : List Value) (h : xS) (K : xSt → Option ρ) (KR : Option Value → xS → Option ρ) : Option ρ :=
  match i with
  | .iconst n => K (pc + 1, L, .int (Int32.ofInt n) :: st, h)
  | .bipush n => K (pc + 2, L, .int (Int8.ofInt n).toInt32 :: st, h)
  | .sipush n => K (pc + 3, L, .int (Int16.ofInt n).toInt32 :: st, h)
  | .lconst n => K (pc + 1, L, .long (Int64.ofNat (n : Nat)) :: st, h)
  | .ldc n => match E.2.1 n with | some (.inl v) => K (pc + 2, L, .int v :: st, h) | _ => none
  | .ldc_w n => match E.2.1 n with | some (.inl v) => K (pc + 3, L, .int v :: st, h) | _ => none
  | .ldc2_w n => match E.2.1 n with | some (.inr v) => K (pc + 3, L, .long v :: st, h) | _ => none
  | .iload_n k => match L[(k : Nat)]? with | some (some (.int x)) => K (pc + 1, L, .int x :: st, h) | _ => none
  | .iload k => match L[k]? with | some (some (.int x)) => K (pc + 2, L, .int x :: st, h) | _ => none
  | .lload_n k => match L[(k : Nat)]? with | some (some (.long x)) => K (pc + 1, L, .long x :: st, h) | _ => none
  | .lload k => match L[k]? with | some (some (.long x)) => K (pc + 2, L, .long x :: st, h) | _ => none
  | .aload_n k => match L[(k : Nat)]? with | some (some (.ref x)) => K (pc + 1, L, .ref x :: st, h) | _ => none
  | .aload k => match L[k]? with | some (some (.ref x)) => K (pc + 2, L, .ref x :: st, h) | _ => none
  | .istore_n k => match st with | .int x :: st => (match xst1 L (k : Nat) (.int x) with | some L => K (pc + 1, L, st, h) | none => none) | _ => none
  | .istore k => match st with | .int x :: st => (match xst1 L k (.int x) with | some L => K (pc + 2, L, st, h) | none => none) | _ => none
  | .lstore_n k => match st with | .long x :: st => (match xst2 L (k : Nat) (.long x) with | some L => K (pc + 1, L, st, h) | none => none) | _ => none
  | .lstore k => match st with | .long x :: st => (match xst2 L k (.long x) with | some L => K (pc + 2, L, st, h) | none => none) | _ => none
  | .astore_n k => match st with | .ref x :: st => (match xst1 L (k : Nat) (.ref x) with | some L => K (pc + 1, L, st, h) | none => none) | _ => none
  | .astore k => match st with | .ref x :: st => (match xst1 L k (.ref x) with | some L => K (pc + 2, L, st, h) | none => none) | _ => none
  | .iinc k n => match L[k]? with | some (some (.int x)) => (match xst1 L k (.int (x + Int32.ofInt n)) with | some L => K (pc + 3, L, st, h) | none => none) | _ => none
  | .iadd => match st with | .int y :: .int x :: st => K (pc + 1, L, .int (x + y) :: st, h) | _ => none
  | .isub => match st with | .int y :: .int x :: st => K (pc + 1, L, .int (x - y) :: st, h) | _ => none
  | .imul => match st with | .int y :: .int x :: st => K (pc + 1, L, .int (x * y) :: st, h) | _ => none
  | .iand => match st with | .int y :: .int x :: st => K (pc + 1, L, .int (x &&& y) :: st, h) | _ => none
  | .ior => match st with | .int y :: .int x :: st => K (pc + 1, L, .int (x ||| y) :: st, h) | _ => none
  | .ixor => match st with | .int y :: .int x :: st => K (pc + 1, L, .int (x ^^^ y) :: st, h) | _ => none
  | .ishl => match st with | .int y :: .int x :: st => K (pc + 1, L, .int (x <<< (y &&& 31)) :: st, h) | _ => none
  | .ishr => match st with | .int y :: .int x :: st => K (pc + 1, L, .int (x >>> (y &&& 31)) :: st, h) | _ => none
  | .idiv => match st with | .int y :: .int x :: st => (if y = 0 then none else K (pc + 1, L, .int (x / y) :: st, h)) | _ => none
  | .irem => match st with | .int y :: .int x :: st => (if y = 0 then none else K (pc + 1, L, .int (x - x / y * y) :: st, h)) | _ => none
  | .ladd => match st with | .long y :: .long x :: st => K (pc + 1, L, .long (x + y) :: st, h) | _ => none
  | .lsub => match st with | .long y :: .long x :: st => K (pc + 1, L, .long (x - y) :: st, h) | _ => none
  | .lmul => match st with | .long y :: .long x :: st => K (pc + 1, L, .long (x * y) :: st, h) | _ => none
  | .ldiv => match st with | .long y :: .long x :: st => (if y = 0 then none else K (pc + 1, L, .long (x / y) :: st, h)) | _ => none
  | .lrem => match st with | .long y :: .long x :: st => (if y = 0 then none else K (pc + 1, L, .long (x - x / y * y) :: st, h)) | _ => none
  | .lcmp => match st with | .long y :: .long x :: st => K (pc + 1, L, .int (lg_cmp x y) :: st, h) | _ => none
  | .i2l => match st with | .int x :: st => K (pc + 1, L, .long x.toInt64 :: st, h) | _ => none
  | .i2b => match st with | .int x :: st => K (pc + 1, L, .int x.toInt8.toInt32 :: st, h) | _ => none
  | .i2s => match st with | .int x :: st => K (pc + 1, L, .int x.toInt16.toInt32 :: st, h) | _ => none
  | .dup => match st with | .ref x :: st => K (pc + 1, L, .ref x :: .ref x :: st, h) | _ => none
  | .dup2 => match st with | .int y :: .ref x :: st => K (pc + 1, L, .int y :: .ref x :: .int y :: .ref x :: st, h) | _ => none
  | .pop => match st with | .int _ :: st => K (pc + 1, L, st, h) | _ => none
  | .goto off => K (xjmp pc off, L, st, h)
  | .ifCond .eq off => match st with | .int x :: st => (if x = 0 then K (xjmp pc off, L, st, h) else K (pc + 3, L, st, h)) | _ => none
  | .ifCond .ne off => match st with | .int x :: st => (if x = 0 then K (pc + 3, L, st, h) else K (xjmp pc off, L, st, h)) | _ => none
  | .ifCond .lt off => match st with | .int x :: st => (if x < 0 then K (xjmp pc off, L, st, h) else K (pc + 3, L, st, h)) | _ => none
  | .ifCond .ge off => match st with | .int x :: st => (if 0 ≤ x then K (xjmp pc off, L, st, h) else K (pc + 3, L, st, h)) | _ => none
  | .ifCond .gt off => match st with | .int x :: st => (if 0 < x then K (xjmp pc off, L, st, h) else K (pc + 3, L, st, h)) | _ => none
  | .ifCond .le off => match st with | .int x :: st => (if x ≤ 0 then K (xjmp pc off, L, st, h) else K (pc + 3, L, st, h)) | _ => none
  | .if_icmp .eq off => match st with | .int y :: .int x :: st => (if x = y then K (xjmp pc off, L, st, h) else K (pc + 3, L, st, h)) | _ => none
  | .if_icmp .ne off => match st with | .int y :: .int x :: st => (if x = y then K (pc + 3, L, st, h) else K (xjmp pc off, L, st, h)) | _ => none
  | .if_icmp .lt off => match st with | .int y :: .int x :: st => (if x < y then K (xjmp pc off, L, st, h) else K (pc + 3, L, st, h)) | _ => none
  | .if_icmp .ge off => match st with | .int y :: .int x :: st => (if y ≤ x then K (xjmp pc off, L, st, h) else K (pc + 3, L, st, h)) | _ => none
  | .if_icmp .gt off => match st with | .int y :: .int x :: st => (if y < x then K (xjmp pc off, L, st, h) else K (pc + 3, L, st, h)) | _ => none
  | .if_icmp .le off => match st with | .int y :: .int x :: st => (if x ≤ y then K (xjmp pc off, L, st, h) else K (pc + 3, L, st, h)) | _ => none
  | .tableswitch d lo hi offs => match st with | .int x :: st => xsw x (xjmp pc d) (fun t => K (t, L, st, h)) (xtab pc lo offs.toList) | _ => none
  | .lookupswitch d ps => match st with | .int x :: st => xsw x (xjmp pc d) (fun t => K (t, L, st, h)) (ps.toList.map fun q => (q.1, xjmp pc q.2)) | _ => none
  | .iaload => match st with | .int i :: .ref a :: st => (xrdI h a i).bind (fun x => K (pc + 1, L, .int x :: st, h)) | _ => none
  | .iastore => match st with | .int x :: .int i :: .ref a :: st => (xwrI h a i x).bind (fun h => K (pc + 1, L, st, h)) | _ => none
  | .laload => match st with | .int i :: .ref a :: st => (xrdL h a i).bind (fun x => K (pc + 1, L, .long x :: st, h)) | _ => none
  | .arraylength => match st with | .ref a :: st => (xlnI h a).bind (fun x => K (pc + 1, L, .int x :: st, h)) | _ => none
  | .aaload => match st with | .int i :: .ref a :: st => (xrdR h a i).bind (fun x => K (pc + 1, L, .ref x :: st, h)) | _ => none
  | .aastore => match st with | .ref v :: .int i :: .ref a :: st => (xwrR h a i v).bind (fun h => K (pc + 1, L, st, h)) | _ => none
  | .getfield n => match E.1 n, st with
    | some (ci, k, 1, _), .ref a :: st => (xgR h a ci k).bind (fun x => K (pc + 3, L, .ref x :: st, h))
    | some (ci, k, 5, _), .ref a :: st => (xgR h a ci k).bind (fun x => K (pc + 3, L, .ref x :: st, h))
    | some (ci, k, _, _), .ref a :: st => (xgI h a ci k).bind (fun x => K (pc + 3, L, .int x :: st, h))
    | _, _ => none
  | .putfield n => match E.1 n, st with
    | some (ci, k, 0, fin), .int x :: .ref a :: st => if fin = true ∧ E.2.2.2.2.2.1 = false then none else (xpV h a ci k (.int x)).bind (fun h => K (pc + 3, L, st, h))
    | some (ci, k, 1, fin), .ref x :: .ref a :: st => if fin = true ∧ E.2.2.2.2.2.1 = false then none else (xpV h a ci k (.ref x)).bind (fun h => K (pc + 3, L, st, h))
    | some (ci, k, 2, fin), .int x :: .ref a :: st => if (fin = true ∧ E.2.2.2.2.2.1 = false) ∨ ¬ (x = 0 ∨ x = 1) then none else (xpV h a ci k (.int x)).bind (fun h => K (pc + 3, L, st, h))
    | _, _ => none
  | .newarray .int => match st with
    | .int n :: st => if E.2.2.2.2.2.1 = false ∨ n < 0 ∨ 100000 < n.toNatClampNeg ∨ xok h L st = false then none else K (pc + 2, L, .ref h.1.length :: st, (h.1 ++ [.inl (0, n.toNatClampNeg, .inl (fun _ => 0))], h.2.1 + 1, h.2.2 + n.toNatClampNeg))
    | _ => none
  | .anewarray k => match E.2.2.2.2.1 k, st with
    | some t, .int n :: st => if E.2.2.2.2.2.1 = false ∨ n < 0 ∨ 100000 < n.toNatClampNeg ∨ xok h L st = false then none else K (pc + 3, L, .ref h.1.length :: st, (h.1 ++ [.inl (t, n.toNatClampNeg, .inr (.inr (fun _ => none)))], h.2.1 + 1, h.2.2 + n.toNatClampNeg))
    | _, _ => none
  | .new k => match E.2.2.2.1 k with
    | some (ci, N, fs) => if E.2.2.2.2.2.1 = false ∨ xok h L st = false then none else K (pc + 3, L, .ref h.1.length :: st, (h.1 ++ [.inr (ci, fs)], h.2.1 + 1, h.2.2 + N))
    | _ => none
  | .invokevirtual k => xcal E.2.2.2.2.2.1 (E.2.2.1 (3 * k)) pc L st h K
  | .invokestatic k => xcal E.2.2.2.2.2.1 (E.2.2.1 (3 * k + 1)) pc L st h K
  | .invokespecial k => xcal E.2.2.2.2.2.1 (E.2.2.1 (3 * k + 2)) pc L st h K
  | .return_ => match st, E.2.2.2.2.2.2 with | [], none => KR none h | _, _ => none
  | .ireturn => match st, E.2.2.2.2.2.2 with
    | [.int x], some .int => KR (some (.int x)) h
    | [.int x], some .boolean => if x = 0 ∨ x = 1 then KR (some (.int x)) h else none
    | _, _ => none
  | .lreturn => match st, E.2.2.2.2.2.2 with | [.long x], some .long => KR (some (.long x)) h | _, _ => none
  | _ => none
