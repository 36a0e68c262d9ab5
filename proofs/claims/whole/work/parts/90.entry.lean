/-! THE LAW'S ENTRY -/
/-- what is known of the classes -/
theorem i_kn {s : State} {args : Array Value} (hts : ∀ w ∈ xT, w.before args s = true) : ∃ D : va_G, ∀ (k : Nat) (q : vw_C), vwCl[k]? = some q → u_Kn s q.1 q.2.1 q.2.2 (D.1 k) (D.2 k) := by
  have one : ∀ (k : Nat), ∃ (cC : ClassId) (iS : Nat → Nat), ∀ q : vw_C, vwCl[k]? = some q → u_Kn s q.1 q.2.1 q.2.2 cC iS := by
    intro k
    cases hk : vwCl[k]? with
    | none => exact ⟨default, fun _ => 0, fun q h => by cases h⟩
    | some q =>
      have hin : Cond.instantiable q.1 q.2.2 ∈ xT := by
        match k, hk with
        | 0, h => cases h; exact xTm (by decide +kernel)
        | 1, h => cases h; exact xTm (by decide +kernel)
        | 2, h => cases h; exact xTm (by decide +kernel)
        | 3, h => cases h; exact xTm (by decide +kernel)
        | 4, h => cases h; exact xTm (by decide +kernel)
        | 5, h => cases h; exact xTm (by decide +kernel)
        | 6, h => cases h; exact xTm (by decide +kernel)
        | 7, h => cases h; exact xTm (by decide +kernel)
        | 8, h => cases h; exact xTm (by decide +kernel)
        | 9, h => cases h; exact xTm (by decide +kernel)
        | 10, h => cases h; exact xTm (by decide +kernel)
        | 11, h => cases h; exact xTm (by decide +kernel)
        | k + 12, h => cases h
      obtain ⟨cC, iS, h⟩ := u_known (ws := xT) (args := args) hts (xcl_ok k q hk).1 (hts _ hin)
      exact ⟨cC, iS, fun q' hq' => by cases hq'; exact h⟩
  exact ⟨(fun k => (one k).choose, fun k => (one k).choose_spec.choose), fun k q hq => (one k).choose_spec.choose_spec q hq⟩
