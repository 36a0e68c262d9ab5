/-! THE LAW'S ENTRY -/
theorem i_zup {s : State} {b : Nat} {C n d : String} (h : vx_Zq C n d (fun q => s.heap.size ≤ q) s s.heap) (hb : ∀ cell : Cell, s.heap[b]? = some cell → cell.vm.isStatics = false) : vx_Zq C n d (lr_A b s) s s.heap := by
  have key : ∀ (a : Nat) (cell : Cell), s.heap[a]? = some cell → cell.vm.isStatics = true → ¬ s.heap.size ≤ a → ¬ lr_A b s a := fun a cell h1 h2 h3 h4 => by
    rcases h4 with h4 | h4
    · rw [h4] at h1
      rw [hb cell h1] at h2
      cases h2
    · exact h3 h4
  have zk : ∀ v, va_Z C n d v (fun q => s.heap.size ≤ q) s s.heap → va_Z C n d v (lr_A b s) s s.heap := fun v hz => by
    obtain ⟨cf, kf, fi, f, a, cell, h1, h2, h3, h4, h5, h6, h7, h8⟩ := hz
    exact ⟨cf, kf, fi, f, a, cell, h1, h2, h3, h4, h5, h6, h7, key a cell h5 h6 h8⟩
  obtain ⟨z, c, k, i, f, a, cell, h1, h2, h3, h4, h5, h6, h7, h8, h9, h10⟩ := h
  refine ⟨?_, c, k, i, f, a, cell, h1, h2, h3, h4, h5, h6, h7, h8, h9, key a cell h5 h6 h10⟩
  rcases z with z | ⟨t, z⟩
  · exact Or.inl (zk _ z)
  · exact Or.inr ⟨t, zk _ z⟩
theorem i_static {s : State} {b L : Nat} {xs : Nat → Int32} (h : va_X b L xs s s.heap) : ∀ cell : Cell, s.heap[b]? = some cell → cell.vm.isStatics = false := by
  obtain ⟨scr, h1, h2, -⟩ := h
  intro cell hc
  cases h1.symm.trans hc
  cases hv : scr.vm with
  | statics k => exact absurd hv (h2.1 k)
  | _ => rfl
/-- what is known of the classes -/
theorem i_kn {s : State} {args : Array Value} (hts : ∀ w ∈ xT, w.before args s = true) : ∃ D : va_G, ∀ (k : Nat) (q : vw_C), vwCl[k]? = some q → u_Kn s q.1 q.2.1 q.2.2 (D.1 k) (D.2 k) := by
  have one : ∀ (k : Nat), ∃ (cC : ClassId) (iS : Nat → Nat), ∀ q : vw_C, vwCl[k]? = some q → u_Kn s q.1 q.2.1 q.2.2 cC iS := by
    intro k
    cases hk : vwCl[k]? with
    | none => exact ⟨default, fun _ => 0, fun q h => by cases h⟩
    | some q =>
      have hin : Cond.instantiable q.1 q.2.2 ∈ xT := by
        match k, hk with
        | 0, h => cases h; exact xTm (by decide +kernel)
        | 1, h => cases h; exact xTm (by decide +kernel)
        | 2, h => cases h; exact xTm (by decide +kernel)
        | 3, h => cases h; exact xTm (by decide +kernel)
        | 4, h => cases h; exact xTm (by decide +kernel)
        | 5, h => cases h; exact xTm (by decide +kernel)
        | 6, h => cases h; exact xTm (by decide +kernel)
        | 7, h => cases h; exact xTm (by decide +kernel)
        | 8, h => cases h; exact xTm (by decide +kernel)
        | 9, h => cases h; exact xTm (by decide +kernel)
        | 10, h => cases h; exact xTm (by decide +kernel)
        | 11, h => cases h; exact xTm (by decide +kernel)
        | k + 12, h => cases h
      obtain ⟨cC, iS, h⟩ := u_known (ws := xT) (args := args) hts (xcl_ok k q hk).1 (hts _ hin)
      exact ⟨cC, iS, fun q' hq' => by cases hq'; exact h⟩
  exact ⟨(fun k => (one k).choose, fun k => (one k).choose_spec.choose), fun k q hq => (one k).choose_spec.choose_spec q hq⟩
