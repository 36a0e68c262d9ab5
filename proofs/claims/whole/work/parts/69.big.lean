/-! a run without a bound on its steps, and its equations -/
/-- one use of what comes behind a step -/
def xone {ρ : Type} (X : (xSt → Option ρ) → Option ρ) : Prop := (∃ q', ∀ K, X K = K q') ∨ (∃ o, ∀ K, X K = o)
theorem xone_bind {ρ α : Type} (o : Option α) (f : α → (xSt → Option ρ) → Option ρ) (h : ∀ a, xone (f a)) : xone (fun K => o.bind (fun a => f a K)) := by
  cases o with
  | none => exact Or.inr ⟨none, fun _ => rfl⟩
  | some a => exact h a
theorem xone_K {ρ : Type} (q : xSt) : xone (fun K : xSt → Option ρ => K q) := Or.inl ⟨q, fun _ => rfl⟩
theorem xone_c {ρ : Type} (o : Option ρ) : xone (fun _ : xSt → Option ρ => o) := Or.inr ⟨o, fun _ => rfl⟩
theorem xone_sw {ρ : Type} (x : Int32) (d : Nat) (f : Nat → xSt) : ∀ (ps : List (Int × Nat)), xone (fun K : xSt → Option ρ => xsw x d (fun t => K (f t)) ps) := by
  intro ps
  induction ps with
  | nil => exact xone_K _
  | cons q r ih =>
    obtain ⟨a, t⟩ := q
    simp only [xsw]
    split
    · exact xone_K _
    · exact ih
theorem xone_cal {ρ : Type} (init : Bool) (o : Option (Nat × Bool × xF)) (pc : Nat) (L : List (Option Value)) (st : List Value) (h : xS) : xone (fun K : xSt → Option ρ => xcal init o pc L st h K) := by
  unfold xcal
  split
  · split
    · split
      · exact xone_bind _ (fun (h : xS) K => K _) (fun _ => xone_K _)
      · exact xone_bind _ (fun (r : Int32 × xS) K => K _) (fun _ => xone_K _)
      · exact xone_bind _ (fun (r : Int64 × xS) K => K _) (fun _ => xone_K _)
    · exact xone_c _
  · exact xone_c _
set_option maxHeartbeats 4000000 in
theorem xone_stp {ρ : Type} (E : xEnv) (i : Instr) (pc : Nat) (L : List (Option Value)) (st : List Value) (h : xS) (KR : Option Value → xS → Option ρ) : xone (fun K : xSt → Option ρ => xstp E i pc L st h K KR) := by
  cases i with
  | invokevirtual n => exact xone_cal _ _ _ _ _ _
  | invokestatic n => exact xone_cal _ _ _ _ _ _
  | invokespecial n => exact xone_cal _ _ _ _ _ _
  | ifCond o off => cases o <;> dsimp only [xstp] <;> split <;> first | exact xone_c _ | (split <;> exact xone_K _)
  | if_icmp o off => cases o <;> dsimp only [xstp] <;> split <;> first | exact xone_c _ | (split <;> exact xone_K _)
  | tableswitch d lo hi offs => dsimp only [xstp]; split <;> first | exact xone_c _ | exact xone_sw _ _ _ _
  | lookupswitch d ps => dsimp only [xstp]; split <;> first | exact xone_c _ | exact xone_sw _ _ _ _
  | iaload => dsimp only [xstp]; split <;> first | exact xone_c _ | exact xone_bind _ (fun (x : Int32) K => K _) (fun _ => xone_K _)
  | arraylength => dsimp only [xstp]; split <;> first | exact xone_c _ | exact xone_bind _ (fun (x : Int32) K => K _) (fun _ => xone_K _)
  | laload => dsimp only [xstp]; split <;> first | exact xone_c _ | exact xone_bind _ (fun (x : Int64) K => K _) (fun _ => xone_K _)
  | aaload => dsimp only [xstp]; split <;> first | exact xone_c _ | exact xone_bind _ (fun (x : Nat) K => K _) (fun _ => xone_K _)
  | iastore => dsimp only [xstp]; split <;> first | exact xone_c _ | exact xone_bind _ (fun (x : xS) K => K _) (fun _ => xone_K _)
  | aastore => dsimp only [xstp]; split <;> first | exact xone_c _ | exact xone_bind _ (fun (x : xS) K => K _) (fun _ => xone_K _)
  | getfield n =>
    dsimp only [xstp]
    split
    · exact xone_bind _ (fun (x : Nat) K => K _) (fun _ => xone_K _)
    · exact xone_bind _ (fun (x : Nat) K => K _) (fun _ => xone_K _)
    · exact xone_bind _ (fun (x : Int32) K => K _) (fun _ => xone_K _)
    · exact xone_c _
  | putfield n =>
    dsimp only [xstp]
    split
    · split
      · exact xone_c _
      · exact xone_bind _ (fun (x : xS) K => K _) (fun _ => xone_K _)
    · split
      · exact xone_c _
      · exact xone_bind _ (fun (x : xS) K => K _) (fun _ => xone_K _)
    · split
      · exact xone_c _
      · exact xone_bind _ (fun (x : xS) K => K _) (fun _ => xone_K _)
    · exact xone_c _
  | newarray n => cases n <;> first | exact xone_c _ | (dsimp only [xstp]; split <;> first | exact xone_c _ | (split <;> first | exact xone_c _ | exact xone_K _))
  | anewarray n => dsimp only [xstp]; split <;> first | exact xone_c _ | (split <;> first | exact xone_c _ | exact xone_K _)
  | new n => dsimp only [xstp]; split <;> first | exact xone_c _ | (split <;> first | exact xone_c _ | exact xone_K _)
  | return_ => dsimp only [xstp]; split <;> exact xone_c _
  | ireturn => dsimp only [xstp]; split <;> first | exact xone_c _ | (split <;> exact xone_c _)
  | lreturn => dsimp only [xstp]; split <;> exact xone_c _
  | _ =>
    first
    | exact xone_c _
    | exact xone_K _
    | (dsimp only [xstp]; split <;> first | exact xone_c _ | exact xone_K _ | (split <;> first | exact xone_c _ | exact xone_K _))
theorem xrun_more {E : xEnv} {cd : Nat → Option Instr} {ρ : Option Value × xS} : ∀ (n : Nat) (q : xSt), xrun E cd n q = some ρ → xrun E cd (n + 1) q = some ρ := by
  intro n
  induction n with
  | zero => intro q h; cases h
  | succ n ih =>
    intro q h
    obtain ⟨pc, L, st, hh⟩ := q
    cases hi : cd pc with
    | none => simp only [xrun, hi] at h; cases h
    | some i =>
      have hrun : ∀ n, xrun E cd (n + 1) (pc, L, st, hh) = xstp E i pc L st hh (xrun E cd n) (fun r h => some (r, h)) := fun n => by simp only [xrun, hi]
      rw [hrun] at h ⊢
      rcases xone_stp E i pc L st hh (fun r h => some (r, h)) with ⟨q', hq⟩ | ⟨o, ho⟩
      · have h2 := (hq (xrun E cd n)).symm.trans h
        exact (hq (xrun E cd (n + 1))).trans (ih q' h2)
      · have h2 := (ho (xrun E cd n)).symm.trans h
        exact (ho (xrun E cd (n + 1))).trans h2
theorem xrun_le2 {E : xEnv} {cd : Nat → Option Instr} {ρ : Option Value × xS} {n : Nat} {q : xSt} (h : xrun E cd n q = some ρ) : ∀ k, xrun E cd (n + k) q = some ρ := by
  intro k
  induction k with
  | zero => exact h
  | succ k ih => exact xrun_more _ _ ih
theorem xrun_one {E : xEnv} {cd : Nat → Option Instr} {ρ ρ' : Option Value × xS} {n n' : Nat} {q : xSt} (h : xrun E cd n q = some ρ) (h' : xrun E cd n' q = some ρ') : ρ = ρ' := by
  have h1 := xrun_le2 h n'
  have h2 := xrun_le2 h' n
  rw [Nat.add_comm] at h2
  exact Option.some.inj (h1.symm.trans h2)
noncomputable def xbig (E : xEnv) (cd : Nat → Option Instr) (q : xSt) : Option (Option Value × xS) :=
  @dite _ (∃ ρ n, xrun E cd n q = some ρ) (Classical.propDecidable _) (fun hq => some (Classical.choose hq)) (fun _ => none)
theorem xbig_of {E : xEnv} {cd : Nat → Option Instr} {ρ : Option Value × xS} {n : Nat} {q : xSt} (h : xrun E cd n q = some ρ) : xbig E cd q = some ρ := by
  have hq : ∃ ρ n, xrun E cd n q = some ρ := ⟨ρ, n, h⟩
  unfold xbig
  rw [dif_pos hq]
  obtain ⟨n', h'⟩ := Classical.choose_spec hq
  rw [xrun_one h' h]
theorem xbig_ex {E : xEnv} {cd : Nat → Option Instr} {ρ : Option Value × xS} {q : xSt} (h : xbig E cd q = some ρ) : ∃ n, xrun E cd n q = some ρ := by
  unfold xbig at h
  split at h
  · rename_i hq
    cases h
    exact Classical.choose_spec hq
  · cases h
theorem xbig_step {E : xEnv} {cd : Nat → Option Instr} {pc : Nat} {L : List (Option Value)} {st : List Value} {h : xS} {i : Instr} (hi : cd pc = some i) : xbig E cd (pc, L, st, h) = xstp E i pc L st h (xbig E cd) (fun r h => some (r, h)) := by
  have hrun : ∀ n, xrun E cd (n + 1) (pc, L, st, h) = xstp E i pc L st h (xrun E cd n) (fun r h => some (r, h)) := fun n => by simp only [xrun, hi]
  rcases xone_stp E i pc L st h (fun r h => some (r, h)) with ⟨q', hq⟩ | ⟨o, ho⟩
  · have e1 : ∀ n, xrun E cd (n + 1) (pc, L, st, h) = xrun E cd n q' := fun n => (hrun n).trans (hq _)
    refine Eq.trans ?_ (hq _).symm
    cases hb : xbig E cd q' with
    | some ρ =>
      obtain ⟨n, hn⟩ := xbig_ex hb
      exact xbig_of ((e1 n).trans hn)
    | none =>
      cases hc : xbig E cd (pc, L, st, h) with
      | none => rfl
      | some ρ =>
        obtain ⟨n, hn⟩ := xbig_ex hc
        have hn := xrun_more _ _ hn
        rw [e1] at hn
        rw [xbig_of hn] at hb
        cases hb
  · have e1 : ∀ n, xrun E cd (n + 1) (pc, L, st, h) = o := fun n => (hrun n).trans (ho _)
    refine Eq.trans ?_ (ho _).symm
    cases hc : xbig E cd (pc, L, st, h) with
    | some ρ =>
      obtain ⟨n, hn⟩ := xbig_ex hc
      have hn := xrun_more _ _ hn
      rw [e1] at hn
      exact hn.symm
    | none =>
      cases o with
      | none => rfl
      | some ρ => rw [xbig_of (e1 0)] at hc; cases hc
/-- a stretch of steps, up to n of them, with any end -/
def xblk {ρ : Type} (E : xEnv) (cd : Nat → Option Instr) (KR : Option Value → xS → Option ρ) (cut : Nat → Bool) (K : xSt → Option ρ) : Nat → xSt → Option ρ
  | 0, q => K q
  | n + 1, q => match cd q.1 with
    | none => none
    | some i => xstp E i q.1 q.2.1 q.2.2.1 q.2.2.2 (fun q' => match cut q'.1 with | true => K q' | false => xblk E cd KR cut K n q') KR
theorem xone_ext {ρ : Type} {X : (xSt → Option ρ) → Option ρ} (h : xone X) {K K' : xSt → Option ρ} (e : ∀ q, K q = K' q) : X K = X K' := by
  rcases h with ⟨q', hq⟩ | ⟨o, ho⟩
  · rw [hq, hq, e]
  · rw [ho, ho]
theorem xbig_none {E : xEnv} {cd : Nat → Option Instr} {pc : Nat} {L : List (Option Value)} {st : List Value} {h : xS} (hi : cd pc = none) : xbig E cd (pc, L, st, h) = none := by
  cases hc : xbig E cd (pc, L, st, h) with
  | none => rfl
  | some ρ =>
    obtain ⟨n, hn⟩ := xbig_ex hc
    cases n with
    | zero => cases hn
    | succ n => simp only [xrun, hi] at hn; cases hn
theorem xbig_blk {E : xEnv} {cd : Nat → Option Instr} (cut : Nat → Bool) : ∀ (n : Nat) (q : xSt), xbig E cd q = xblk E cd (fun r h => some (r, h)) cut (xbig E cd) n q := by
  intro n
  induction n with
  | zero => intro q; rfl
  | succ n ih =>
    intro q
    obtain ⟨pc, L, st, h⟩ := q
    simp only [xblk]
    cases hi : cd pc with
    | none => exact xbig_none hi
    | some i =>
      rw [xbig_step hi]
      exact xone_ext (xone_stp E i pc L st h _) (fun q => by split; rfl; exact ih q)
