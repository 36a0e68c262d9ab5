/-! THE PURE MACHINE: its states name cells by their places in a list; the kit's worlds are made of it by an assignment of addresses -/
def xv (ad : Nat → Nat) : Value → Value
  | .ref k => .ref (ad k)
  | v => v
abbrev xA : Type := (Nat → Int32) ⊕ (Nat → Int64) ⊕ (Nat → Option Nat)
abbrev xO : Type := (Nat × Nat × xA) ⊕ (Nat × List Value)
/-- the cells; how many cells and slots were made so far -/
abbrev xS : Type := List xO × Nat × Nat
abbrev xSt : Type := Nat × List (Option Value) × List Value × xS
def xo (tc : Nat → ClassId) (ad : Nat → Nat) : xO → va_E
  | .inl (t, n, .inl f) => .inl (tc t, n, .inl f)
  | .inl (t, n, .inr (.inl f)) => .inl (tc t, n, .inr (.inl f))
  | .inl (t, n, .inr (.inr f)) => .inl (tc t, n, .inr (.inr (.inr (.inr (fun i => (f i).map ad)))))
  | .inr (ci, fs) => .inr (ci, fs.map (xv ad))
def xw (tc : Nat → ClassId) (ad : Nat → Nat) (os : List xO) : va_W := os.zipIdx.map (fun q => (ad q.2, xo tc ad q.1))
def xl (ad : Nat → Nat) (L : List (Option Value)) : List (Nat × Value) := L.zipIdx.filterMap (fun q => q.1.map (fun v => (q.2, xv ad v)))
theorem xw_at (tc : Nat → ClassId) (ad : Nat → Nat) (os : List xO) (k : Nat) : (xw tc ad os)[k]? = (os[k]?).map (fun o => (ad k, xo tc ad o)) := by
  unfold xw
  rw [List.getElem?_map, List.getElem?_zipIdx]
  cases os[k]? <;> simp
theorem xw_len (tc : Nat → ClassId) (ad : Nat → Nat) (os : List xO) : (xw tc ad os).length = os.length := by simp [xw]
theorem xw_set (tc : Nat → ClassId) (ad : Nat → Nat) (os : List xO) (k : Nat) (o : xO) : (xw tc ad os).set k (ad k, xo tc ad o) = xw tc ad (os.set k o) := by
  apply List.ext_getElem?
  intro j
  rw [List.getElem?_set, xw_at, xw_at, List.getElem?_set, xw_len]
  by_cases h : k = j
  · subst h
    by_cases h2 : k < os.length <;> simp [h2]
  · simp [h]
theorem xl_mem {ad : Nat → Nat} {L : List (Option Value)} {q : Nat × Value} (h : q ∈ xl ad L) : ∃ v, L[q.1]? = some (some v) ∧ q.2 = xv ad v := by
  unfold xl at h
  obtain ⟨⟨o, i⟩, h1, h2⟩ := List.mem_filterMap.mp h
  cases o with
  | none => cases h2
  | some v =>
    have h3 := List.mem_zipIdx_iff_getElem?.mp h1
    simp at h2
    subst h2
    exact ⟨v, by simpa using h3, rfl⟩
theorem xl_in {ad : Nat → Nat} {L : List (Option Value)} {i : Nat} {v : Value} (h : L[i]? = some (some v)) : (i, xv ad v) ∈ xl ad L := by
  unfold xl
  refine List.mem_filterMap.mpr ⟨(some v, i), List.mem_zipIdx_iff_getElem?.mpr (by simpa using h), rfl⟩
theorem xl_get {ad : Nat → Nat} {L : List (Option Value)} {ls : Array Slot} {nL i : Nat} {v : Value} (h : lv_has ls nL (xl ad L)) (hi : L[i]? = some (some v)) : ls[i]? = some (.val (xv ad v)) := h.2.2 (i, xv ad v) (xl_in hi)
theorem xv_cat (ad : Nat → Nat) (v : Value) : (xv ad v).category = v.category := by cases v <;> rfl
/-- a store of one word: no long may begin one place ahead -/
def xst1 (L : List (Option Value)) (i : Nat) (v : Value) : Option (List (Option Value)) :=
  match L[i]?, L[i - 1]? with
  | none, _ => none
  | some _, some (some (.long _)) => none
  | some _, some (some (.double _)) => none
  | some _, _ => some (L.set i (some v))
def xst2 (L : List (Option Value)) (i : Nat) (v : Value) : Option (List (Option Value)) :=
  match L[i + 1]?, (if i = 0 then some none else L[i - 1]?) with
  | none, _ => none
  | some _, some (some (.long _)) => none
  | some _, some (some (.double _)) => none
  | some _, _ => some ((L.set i (some v)).set (i + 1) none)
