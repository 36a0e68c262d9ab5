/-! what runs keep: the cells that were there, their number where nothing new may come -/
theorem xsw_some {ρ : Type} {x : Int32} {d : Nat} {K : Nat → Option ρ} {y : ρ} : ∀ (ps : List (Int × Nat)), xsw x d K ps = some y → ∃ t, K t = some y := by
  intro ps
  induction ps with
  | nil => intro h; exact ⟨_, h⟩
  | cons q r ih =>
    intro h
    obtain ⟨a, t⟩ := q
    simp only [xsw] at h
    split at h
    · exact ⟨_, h⟩
    · exact ih h
theorem xwrI_le {b : Bool} {h h' : xS} {a : Nat} {i v : Int32} (e : xwrI h a i v = some h') : xle h h' ∧ xna b h h' := by
  unfold xwrI at e
  split at e
  · split at e
    · cases e
    · cases e
      exact ⟨⟨by simp, Nat.le_refl _, Nat.le_refl _, xkp_set rfl⟩, fun _ => by simp⟩
  · cases e
theorem xwrR_le {b : Bool} {h h' : xS} {a : Nat} {i : Int32} {v : Nat} (e : xwrR h a i v = some h') : xle h h' ∧ xna b h h' := by
  unfold xwrR at e
  split at e
  · split at e
    · cases e
      exact ⟨⟨by simp, Nat.le_refl _, Nat.le_refl _, xkp_set rfl⟩, fun _ => by simp⟩
    · cases e
  · cases e
theorem xpV_le {b : Bool} {h h' : xS} {a ci k : Nat} {v : Value} (e : xpV h a ci k v = some h') : xle h h' ∧ xna b h h' := by
  unfold xpV at e
  split at e
  · split at e
    · cases e
      exact ⟨⟨by simp, Nat.le_refl _, Nat.le_refl _, xkp_set rfl⟩, fun _ => by simp⟩
    · cases e
  · cases e
section XL
variable {ρ : Type} {E : xEnv} {pc : Nat} {L : List (Option Value)} {st : List Value} {h : xS} {K : xSt → Option ρ} {KR : Option Value → xS → Option ρ} {x : ρ}
theorem xcal_le {init : Bool} {o : Option (Nat × Bool × xF)} (hs : ∀ n b F, o = some (n, b, F) → ∀ vs h pu h', xres F vs h pu h' → xle h h' ∧ xna b h h') (he : xcal init o pc L st h K = some x) : ∃ q', K q' = some x ∧ xle h q'.2.2.2 ∧ xna init h q'.2.2.2 := by
  unfold xcal at he
  split at he
  · rename_i n b F
    split at he
    · rename_i hn
      simp only [Bool.and_eq_true, Bool.or_eq_true, Bool.not_eq_true'] at hn
      obtain ⟨hn, hcat, hbb⟩ := hn
      have hbi : init = false → b = false := by
        intro hi
        rcases hbb with hbb | ⟨hbb, -⟩
        · exact hbb
        · rw [hi] at hbb; cases hbb
      have go : ∀ (pu : List Value) (h' : xS), xres F (st.take n).reverse h pu h' → K (pc + 3, L, pu ++ st.drop n, h') = some x → ∃ q', K q' = some x ∧ xle h q'.2.2.2 ∧ xna init h q'.2.2.2 := by
        intro pu h' hr hk
        have := hs n b F rfl _ _ _ _ hr
        exact ⟨_, hk, this.1, fun hi => this.2 (hbi hi)⟩
      split at he
      · obtain ⟨h', h1, h2⟩ := Option.bind_eq_some_iff.mp he
        exact go [] h' ⟨h1, rfl⟩ h2
      · obtain ⟨r, h1, h2⟩ := Option.bind_eq_some_iff.mp he
        exact go [.int r.1] r.2 ⟨r.1, h1, rfl⟩ h2
      · obtain ⟨r, h1, h2⟩ := Option.bind_eq_some_iff.mp he
        exact go [.long r.1] r.2 ⟨r.1, h1, rfl⟩ h2
    · cases he
  · cases he
set_option maxHeartbeats 4000000 in
theorem xstp_le {i : Instr} (hs : ∀ key n b F, E.2.2.1 key = some (n, b, F) → ∀ vs h pu h', xres F vs h pu h' → xle h h' ∧ xna b h h') (he : xstp E i pc L st h K KR = some x) : (∃ q', K q' = some x ∧ xle h q'.2.2.2 ∧ xna E.2.2.2.2.2.1 h q'.2.2.2) ∨ ∃ r, KR r h = some x := by
  cases i with
  | iastore =>
    dsimp only [xstp] at he
    split at he
    · obtain ⟨v, hv, he⟩ := Option.bind_eq_some_iff.mp he
      exact Or.inl ⟨_, he, xwrI_le hv⟩
    · cases he
  | aastore =>
    dsimp only [xstp] at he
    split at he
    · obtain ⟨v, hv, he⟩ := Option.bind_eq_some_iff.mp he
      exact Or.inl ⟨_, he, xwrR_le hv⟩
    · cases he
  | putfield n =>
    dsimp only [xstp] at he
    split at he
    · split at he
      · cases he
      · obtain ⟨v, hv, he⟩ := Option.bind_eq_some_iff.mp he
        exact Or.inl ⟨_, he, xpV_le hv⟩
    · split at he
      · cases he
      · obtain ⟨v, hv, he⟩ := Option.bind_eq_some_iff.mp he
        exact Or.inl ⟨_, he, xpV_le hv⟩
    · split at he
      · cases he
      · obtain ⟨v, hv, he⟩ := Option.bind_eq_some_iff.mp he
        exact Or.inl ⟨_, he, xpV_le hv⟩
    · cases he
  | newarray n =>
    cases n with
    | int =>
      dsimp only [xstp] at he
      split at he
      · split at he
        · cases he
        · rename_i hok
          exact Or.inl ⟨_, he, ⟨by simp, Nat.le_succ _, Nat.le_add_right _ _, xkp_app rfl⟩, fun hb => absurd hb (fun q => hok (Or.inl q))⟩
      · cases he
    | _ => cases he
  | anewarray n =>
    dsimp only [xstp] at he
    split at he
    · split at he
      · cases he
      · rename_i hok
        exact Or.inl ⟨_, he, ⟨by simp, Nat.le_succ _, Nat.le_add_right _ _, xkp_app rfl⟩, fun hb => absurd hb (fun q => hok (Or.inl q))⟩
    · cases he
  | new n =>
    dsimp only [xstp] at he
    split at he
    · split at he
      · cases he
      · rename_i hok
        exact Or.inl ⟨_, he, ⟨by simp, Nat.le_succ _, Nat.le_add_right _ _, xkp_app rfl⟩, fun hb => absurd hb (fun q => hok (Or.inl q))⟩
    · cases he
  | invokevirtual n => exact Or.inl (xcal_le (fun a b F => hs _ a b F) he)
  | invokestatic n => exact Or.inl (xcal_le (fun a b F => hs _ a b F) he)
  | invokespecial n => exact Or.inl (xcal_le (fun a b F => hs _ a b F) he)
  | tableswitch d lo hi offs =>
    dsimp only [xstp] at he
    split at he
    · obtain ⟨t, ht⟩ := xsw_some _ he
      exact Or.inl ⟨_, ht, xle_r _, xna_r _ _⟩
    · cases he
  | lookupswitch d ps =>
    dsimp only [xstp] at he
    split at he
    · obtain ⟨t, ht⟩ := xsw_some _ he
      exact Or.inl ⟨_, ht, xle_r _, xna_r _ _⟩
    · cases he
  | ifCond o off =>
    cases o <;> dsimp only [xstp] at he <;> split at he <;> first | (cases he; done) | (split at he <;> exact Or.inl ⟨_, he, xle_r _, xna_r _ _⟩)
  | if_icmp o off =>
    cases o <;> dsimp only [xstp] at he <;> split at he <;> first | (cases he; done) | (split at he <;> exact Or.inl ⟨_, he, xle_r _, xna_r _ _⟩)
  | iaload =>
    dsimp only [xstp] at he
    split at he
    · obtain ⟨v, hv, he⟩ := Option.bind_eq_some_iff.mp he
      exact Or.inl ⟨_, he, xle_r _, xna_r _ _⟩
    · cases he
  | laload =>
    dsimp only [xstp] at he
    split at he
    · obtain ⟨v, hv, he⟩ := Option.bind_eq_some_iff.mp he
      exact Or.inl ⟨_, he, xle_r _, xna_r _ _⟩
    · cases he
  | arraylength =>
    dsimp only [xstp] at he
    split at he
    · obtain ⟨v, hv, he⟩ := Option.bind_eq_some_iff.mp he
      exact Or.inl ⟨_, he, xle_r _, xna_r _ _⟩
    · cases he
  | aaload =>
    dsimp only [xstp] at he
    split at he
    · obtain ⟨v, hv, he⟩ := Option.bind_eq_some_iff.mp he
      exact Or.inl ⟨_, he, xle_r _, xna_r _ _⟩
    · cases he
  | getfield n =>
    dsimp only [xstp] at he
    split at he
    · obtain ⟨v, hv, he⟩ := Option.bind_eq_some_iff.mp he
      exact Or.inl ⟨_, he, xle_r _, xna_r _ _⟩
    · obtain ⟨v, hv, he⟩ := Option.bind_eq_some_iff.mp he
      exact Or.inl ⟨_, he, xle_r _, xna_r _ _⟩
    · obtain ⟨v, hv, he⟩ := Option.bind_eq_some_iff.mp he
      exact Or.inl ⟨_, he, xle_r _, xna_r _ _⟩
    · cases he
  | return_ =>
    dsimp only [xstp] at he
    split at he
    · exact Or.inr ⟨_, he⟩
    · cases he
  | ireturn =>
    dsimp only [xstp] at he
    split at he
    · exact Or.inr ⟨_, he⟩
    · split at he
      · exact Or.inr ⟨_, he⟩
      · cases he
    · cases he
  | lreturn =>
    dsimp only [xstp] at he
    split at he
    · exact Or.inr ⟨_, he⟩
    · cases he
  | _ =>
    first
    | (cases he; done)
    | exact Or.inl ⟨_, he, xle_r _, xna_r _ _⟩
    | (dsimp only [xstp] at he; split at he <;> first | (cases he; done) | exact Or.inl ⟨_, he, xle_r _, xna_r _ _⟩ | (split at he <;> first | (cases he; done) | exact Or.inl ⟨_, he, xle_r _, xna_r _ _⟩))
theorem xrun_le {cd : Nat → Option Instr} (hs : ∀ key n b F, E.2.2.1 key = some (n, b, F) → ∀ vs h pu h', xres F vs h pu h' → xle h h' ∧ xna b h h') {r : Option Value} {h1 : xS} : ∀ (n : Nat) (q : xSt), xrun E cd n q = some (r, h1) → xle q.2.2.2 h1 ∧ xna E.2.2.2.2.2.1 q.2.2.2 h1 := by
  intro n
  induction n with
  | zero => intro q hq; cases hq
  | succ n ih =>
    intro q hq
    obtain ⟨pc, L, st, h⟩ := q
    simp only [xrun] at hq
    split at hq
    · cases hq
    · rcases xstp_le hs hq with ⟨q', hk, hle, hna⟩ | ⟨r', hk⟩
      · obtain ⟨g1, g2⟩ := ih q' hk
        exact ⟨xle_t hle g1, xna_t hna g2⟩
      · cases hk
        exact ⟨xle_r _, xna_r _ _⟩
end XL
/-! a method's contract out of its run -/
theorem xfl_args (ad : Nat → Nat) : ∀ (vs : List Value) (k i : Nat) (v : Value), (xfl vs)[i]? = some (some v) → (k + i, xv ad v) ∈ lv_args k (vs.map (xv ad)) := by
  intro vs
  induction vs with
  | nil => intro k i v h; simp [xfl] at h
  | cons w ws ih =>
    intro k i v h
    have e : xfl (w :: ws) = (if w.category = 2 then [some w, none] else [some w]) ++ xfl ws := by simp [xfl]
    rw [e] at h
    simp only [List.map_cons, lv_args, xv_cat]
    by_cases hc : w.category = 2
    · rw [if_pos hc] at h ⊢
      match i, h with
      | 0, h => simp at h; subst h; exact List.mem_cons_self
      | 1, h => simp at h
      | i + 2, h =>
        have := ih (k + 2) i v (by simpa using h)
        rw [show k + 2 + i = k + (i + 2) by omega] at this
        exact List.mem_cons_of_mem _ this
    · rw [if_neg hc] at h ⊢
      match i, h with
      | 0, h => simp at h; subst h; exact List.mem_cons_self
      | i + 1, h =>
        have := ih (k + 1) i v (by simpa using h)
        rw [show k + 1 + i = k + (i + 1) by omega] at this
        exact List.mem_cons_of_mem _ this
theorem xent_len {vs : List Value} {n : Nat} (h : (xfl vs).length ≤ n) : (xent vs n).length = n := by simp [xent]; omega
theorem xent_has {ad : Nat → Nat} {vs : List Value} {n : Nat} {ls : Array Slot} (h : lv_has ls n (lv_args 0 (vs.map (xv ad)))) : lv_has ls n (xl ad (xent vs n)) := by
  refine ⟨h.1, h.2.1, fun q hq => ?_⟩
  obtain ⟨v, h1, h2⟩ := xl_mem hq
  unfold xent at h1
  rw [List.getElem?_append] at h1
  split at h1
  · have := xfl_args ad vs 0 q.1 v h1
    rw [Nat.zero_add] at this
    have h3 := h.2.2 _ this
    rw [h2]
    exact h3
  · rw [List.getElem?_replicate] at h1
    split at h1 <;> cases h1
theorem xfl_len (ad : Nat → Nat) (vs : List Value) : (lg_sl (vs.map (xv ad))).length = (xfl vs).length := by
  induction vs with
  | nil => rfl
  | cons w ws ih =>
    have e1 : lg_sl ((w :: ws).map (xv ad)) = (if (xv ad w).category = 2 then [Slot.val (xv ad w), .second] else [.val (xv ad w)]) ++ lg_sl (ws.map (xv ad)) := by simp [lg_sl]
    have e2 : xfl (w :: ws) = (if w.category = 2 then [some w, none] else [some w]) ++ xfl ws := by simp [xfl]
    rw [e1, e2, xv_cat, List.length_append, List.length_append, ih]
    split <;> rfl
