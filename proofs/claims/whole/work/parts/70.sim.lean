/-! THE MEMORY MACHINE'S STEPS ARE THE PURE MACHINE'S -/
def lle (L L' : List (Option Value)) : Prop := L.length = L'.length ∧ ∀ (i : Nat) (v : Value), L[i]? = some (some v) → L'[i]? = some (some v)
theorem lle_r (L : List (Option Value)) : lle L L := ⟨rfl, fun _ _ h => h⟩
theorem lle_st1 {L L' L1 : List (Option Value)} {i : Nat} {v : Value} (h : lle L L') (e : xst1 L i v = some L1) : ∃ L1', xst1 L' i v = some L1' ∧ lle L1 L1' := by
  unfold xst1 at e
  split at e
  · cases e
  · rename_i o ho
    cases e
    have hlt : i < L.length := (List.getElem?_eq_some_iff.mp ho).1
    have h2 : ∃ o', L'[i]? = some o' := ⟨L'[i]'(by rw [← h.1]; exact hlt), List.getElem?_eq_getElem _⟩
    obtain ⟨o', ho'⟩ := h2
    refine ⟨(xkl L' (i - 1)).set i (some v), by unfold xst1; rw [ho'], by simp [xkl_len, h.1], ?_⟩
    intro j w hw
    rw [List.getElem?_set, xkl_len] at hw ⊢
    rw [← h.1]
    by_cases hj : i = j
    · rw [if_pos hj] at hw ⊢
      exact hw
    · rw [if_neg hj] at hw ⊢
      obtain ⟨a1, a2⟩ := xkl_get hw
      have b1 := h.2 _ _ a1
      unfold xkl
      by_cases hj2 : j = i - 1
      · subst hj2
        rw [b1]
        have := a2 rfl
        cases w <;> first | exact b1 | cases this
      · split
        · rw [List.getElem?_set, if_neg (fun q => hj2 q.symm)]; exact b1
        · rw [List.getElem?_set, if_neg (fun q => hj2 q.symm)]; exact b1
        · exact b1
theorem lle_st2 {L L' L1 : List (Option Value)} {i : Nat} {v : Value} (h : lle L L') (e : xst2 L i v = some L1) : ∃ L1', xst2 L' i v = some L1' ∧ lle L1 L1' := by
  unfold xst2 at e
  split at e
  · cases e
  · rename_i o ho
    cases e
    have hlt : i + 1 < L.length := (List.getElem?_eq_some_iff.mp ho).1
    have h2 : ∃ o', L'[i + 1]? = some o' := ⟨L'[i + 1]'(by rw [← h.1]; exact hlt), List.getElem?_eq_getElem _⟩
    obtain ⟨o', ho'⟩ := h2
    refine ⟨((xkl L' (i - 1)).set i (some v)).set (i + 1) none, by unfold xst2; rw [ho'], by simp [xkl_len, h.1], ?_⟩
    intro j w hw
    rw [List.getElem?_set, List.length_set, xkl_len] at hw ⊢
    rw [← h.1]
    by_cases hj0 : i + 1 = j
    · rw [if_pos hj0] at hw
      split at hw <;> cases hw
    rw [if_neg hj0, List.getElem?_set, xkl_len] at hw ⊢
    rw [← h.1]
    by_cases hj : i = j
    · rw [if_pos hj] at hw ⊢
      exact hw
    · rw [if_neg hj] at hw ⊢
      obtain ⟨a1, a2⟩ := xkl_get hw
      have b1 := h.2 _ _ a1
      unfold xkl
      by_cases hj2 : j = i - 1
      · subst hj2
        rw [b1]
        have := a2 rfl
        cases w <;> first | exact b1 | cases this
      · split
        · rw [List.getElem?_set, if_neg (fun q => hj2 q.symm)]; exact b1
        · rw [List.getElem?_set, if_neg (fun q => hj2 q.symm)]; exact b1
        · exact b1
theorem lle_kl {L L' : List (Option Value)} (h : lle L L') : ∀ (ks : List Nat) (M : List (Option Value)), lle M L' → lle (ks.foldl (fun L k => L.set k none) M) L' := by
  intro ks
  induction ks with
  | nil => intro M hM; exact hM
  | cons k ks ih =>
    intro M hM
    refine ih _ ⟨by simp [hM.1], fun i v hi => ?_⟩
    rw [List.getElem?_set] at hi
    split at hi
    · split at hi <;> cases hi
    · exact hM.2 i v hi
section YR
variable {ρ : Type} {A : yM} {a : Nat} {i : Int32} {x : ρ} {c0 s0 ci k : Nat} {v : Int32}
theorem yrd_x {K : Int32 → Option ρ} (h : yrd A a i K = some x) : xrdI (yhs c0 s0 A) a i = some (A a i.toNatClampNeg) ∧ K (A a i.toNatClampNeg) = some x := by
  unfold yrd yla at h
  cases ho : ysh A a with
  | none => rw [ho] at h; cases h
  | some o =>
    rw [ho] at h
    obtain n | ⟨cj, sl⟩ | ⟨t, n, g⟩ | n | n := o
    · dsimp only at h
      split at h
      · cases h
      · rename_i hc
        refine ⟨?_, h⟩
        show xrdI (yhp A, _) a i = _
        unfold xrdI
        dsimp only
        rw [yhp_at, ho]
        show (if i < 0 ∨ n ≤ i.toNatClampNeg then none else some (A a i.toNatClampNeg)) = _
        rw [if_neg hc]
    · cases h
    · cases h
    · cases h
    · dsimp only at h
      split at h
      · cases h
      · rename_i hc
        refine ⟨?_, h⟩
        show xrdI (yhp A, _) a i = _
        unfold xrdI
        dsimp only
        rw [yhp_at, ho]
        show (if i < 0 ∨ n ≤ i.toNatClampNeg then none else some (A a i.toNatClampNeg)) = _
        rw [if_neg hc]
theorem yrL_x {K : Int64 → Option ρ} (h : yrL A a i K = some x) : xrdL (yhs c0 s0 A) a i = some ((A a i.toNatClampNeg).toInt64) ∧ K (A a i.toNatClampNeg).toInt64 = some x := by
  unfold yrL yll at h
  cases ho : ysh A a with
  | none => rw [ho] at h; cases h
  | some o =>
    rw [ho] at h
    obtain n | ⟨cj, sl⟩ | ⟨t, n, g⟩ | n | n := o
    · cases h
    · cases h
    · cases h
    · dsimp only at h
      split at h
      · cases h
      · rename_i hc
        refine ⟨?_, h⟩
        show xrdL (yhp A, _) a i = _
        unfold xrdL
        dsimp only
        rw [yhp_at, ho]
        show (if i < 0 ∨ n ≤ i.toNatClampNeg then none else some ((A a i.toNatClampNeg).toInt64)) = _
        rw [if_neg hc]
    · cases h
theorem yle_x {K : Int32 → Option ρ} (h : yle A a K = some x) : ∃ n : Nat, xlnI (yhs c0 s0 A) a = some (Int32.ofNat n) ∧ K (Int32.ofNat n) = some x := by
  unfold yle yla at h
  cases ho : ysh A a with
  | none => rw [ho] at h; cases h
  | some o =>
    rw [ho] at h
    obtain n | ⟨cj, sl⟩ | ⟨t, n, g⟩ | n | n := o
    · refine ⟨n, ?_, h⟩
      show xlnI (yhp A, _) a = _
      unfold xlnI
      dsimp only
      rw [yhp_at, ho]
      rfl
    · cases h
    · cases h
    · cases h
    · refine ⟨n, ?_, h⟩
      show xlnI (yhp A, _) a = _
      unfold xlnI
      dsimp only
      rw [yhp_at, ho]
      rfl
theorem ywr_x {K : yM → Option ρ} (h : ywr A a i v K = some x) : xwrI (yhs c0 s0 A) a i v = some (yhs c0 s0 (yup A a i.toNatClampNeg v)) ∧ K (yup A a i.toNatClampNeg v) = some x := by
  unfold ywr yln at h
  cases ho : ysh A a with
  | none => rw [ho] at h; cases h
  | some o =>
    rw [ho] at h
    obtain n | ⟨cj, sl⟩ | ⟨t, n, g⟩ | n | n := o
    · dsimp only at h
      split at h
      · cases h
      · rename_i hc
        refine ⟨?_, h⟩
        rw [← yhs_set c0 s0 (A := A) (A' := yup A a i.toNatClampNeg v) ho (fun p hp => by funext j; unfold yup; rw [if_neg (fun q => hp q.1)])]
        unfold xwrI
        have e : (yhs c0 s0 A).1[a]? = some (.inl (0, n, .inl (A a))) := by show (yhp A)[a]? = _; rw [yhp_at, ho]; rfl
        rw [e]
        show (if i < 0 ∨ n ≤ i.toNatClampNeg then none else some ((yhs c0 s0 A).1.set a (.inl (0, n, .inl (upd (A a) i.toNatClampNeg v))), (yhs c0 s0 A).2)) = _
        rw [if_neg hc]
        have e2 : upd (A a) i.toNatClampNeg v = yup A a i.toNatClampNeg v a := by
          funext j
          unfold upd yup
          simp
        rw [e2]
        rfl
    · cases h
    · cases h
    · cases h
    · cases h
theorem yob_fld {f : Nat → Int32} {sl : List (Option Nat)} : (sl.zipIdx.map (yfv f))[k]? = (sl[k]?).map (fun o => yfv f (o, k)) := by
  rw [List.getElem?_map, List.getElem?_zipIdx]
  cases sl[k]? <;> simp
theorem ygI_x {K : Int32 → Option ρ} (h : ygI A a ci k K = some x) : xgI (yhs c0 s0 A) a ci k = some (A a k) ∧ K (A a k) = some x := by
  unfold ygI yil at h
  cases ho : ysh A a with
  | none => rw [ho] at h; cases h
  | some o =>
    rw [ho] at h
    obtain n | ⟨cj, sl⟩ | ⟨t, n, g⟩ | n | n := o
    · cases h
    · dsimp only at h
      split at h
      · rename_i hc
        obtain ⟨rfl, h2⟩ := of_decide_eq_true hc
        refine ⟨?_, h⟩
        unfold xgI
        have e : (yhs c0 s0 A).1[a]? = some (yob (A a) (.inr (.inl (cj, sl)))) := by show (yhp A)[a]? = _; rw [yhp_at, ho]; rfl
        rw [e]
        show (if cj = cj then (match (sl.zipIdx.map (yfv (A a)))[k]? with | some (.int v) => some v | _ => none) else none) = _
        rw [if_pos rfl, yob_fld, h2]
        rfl
      · cases h
    · cases h
    · cases h
    · cases h
theorem ygR_x {K : Nat → Option ρ} (h : ygR A a ci k K = some x) : ∃ b, xgR (yhs c0 s0 A) a ci k = some b ∧ K b = some x := by
  unfold ygR yrf at h
  cases ho : ysh A a with
  | none => rw [ho] at h; cases h
  | some o =>
    rw [ho] at h
    obtain n | ⟨cj, sl⟩ | ⟨t, n, g⟩ | n | n := o
    · cases h
    · dsimp only at h
      split at h
      · rename_i b hb
        split at hb
        · rename_i hcj
          split at hb
          · rename_i b1 h2
            cases hb
            refine ⟨b, ?_, h⟩
            unfold xgR
            have e : (yhs c0 s0 A).1[a]? = some (yob (A a) (.inr (.inl (cj, sl)))) := by show (yhp A)[a]? = _; rw [yhp_at, ho]; rfl
            rw [e]
            show (if cj = ci then (match (sl.zipIdx.map (yfv (A a)))[k]? with | some (.ref v) => some v | _ => none) else none) = _
            rw [if_pos hcj, yob_fld, h2]
            rfl
          · cases hb
        · cases hb
      · cases h
    · cases h
    · cases h
    · cases h
theorem ypI_x {K : yM → Option ρ} (h : ypI A a ci k v K = some x) : xpV (yhs c0 s0 A) a ci k (.int v) = some (yhs c0 s0 (yup A a k v)) ∧ K (yup A a k v) = some x := by
  unfold ypI yil at h
  cases ho : ysh A a with
  | none => rw [ho] at h; cases h
  | some o =>
    rw [ho] at h
    obtain n | ⟨cj, sl⟩ | ⟨t, n, g⟩ | n | n := o
    · cases h
    · dsimp only at h
      split at h
      · rename_i hc
        obtain ⟨rfl, h2⟩ := of_decide_eq_true hc
        refine ⟨?_, h⟩
        rw [← yhs_set c0 s0 (A := A) (A' := yup A a k v) ho (fun p hp => by funext j; unfold yup; rw [if_neg (fun q => hp q.1)])]
        unfold xpV
        have e : (yhs c0 s0 A).1[a]? = some (yob (A a) (.inr (.inl (cj, sl)))) := by show (yhp A)[a]? = _; rw [yhp_at, ho]; rfl
        rw [e]
        unfold yob
        have hlt := (List.getElem?_eq_some_iff.mp h2).1
        show (if cj = cj ∧ k < (sl.zipIdx.map (yfv (A a))).length then some ((yhs c0 s0 A).1.set a (.inr (cj, (sl.zipIdx.map (yfv (A a))).set k (.int v))), (yhs c0 s0 A).2) else none) = some ((yhs c0 s0 A).1.set a (.inr (cj, sl.zipIdx.map (yfv (yup A a k v a)))), (yhs c0 s0 A).2)
        rw [if_pos ⟨rfl, by simpa using hlt⟩]
        have e3 : (sl.zipIdx.map (yfv (A a))).set k (.int v) = sl.zipIdx.map (yfv (yup A a k v a)) := by
          apply List.ext_getElem?
          intro j
          rw [List.getElem?_set, yob_fld, yob_fld]
          simp only [List.length_map, List.length_zipIdx]
          by_cases hj : k = j
          · subst hj
            rw [if_pos rfl, if_pos hlt, h2]
            simp [yup, yfv]
          · rw [if_neg hj]
            cases sl[j]? with
            | none => rfl
            | some o =>
              cases o with
              | some b => rfl
              | none =>
                have : yup A a k v a j = A a j := by unfold yup; rw [if_neg (fun q => hj q.2.symm)]
                simp [yfv, this]
        rw [e3]
      · cases h
    · cases h
    · cases h
    · cases h
theorem yrR_x {K : Nat → Option ρ} (h : yrR A a i K = some x) : ∃ b, xrdR (yhs c0 s0 A) a i = some b ∧ K b = some x := by
  unfold yrR yrw at h
  cases ho : ysh A a with
  | none => rw [ho] at h; cases h
  | some o =>
    rw [ho] at h
    obtain n | ⟨cj, sl⟩ | ⟨t, n, g⟩ | n | n := o
    · cases h
    · cases h
    · dsimp only at h
      split at h
      · rename_i n' g' hg
        split at hg
        · rename_i ht
          cases hg
          split at h
          · cases h
          · rename_i hc
            split at h
            · rename_i b hb
              refine ⟨b, ?_, h⟩
              unfold xrdR
              have e : (yhs c0 s0 A).1[a]? = some (yob (A a) (.inr (.inr (.inl (t, n, g))))) := by show (yhp A)[a]? = _; rw [yhp_at, ho]; rfl
              rw [e]
              unfold yob
              dsimp only
              rw [if_pos ⟨ht, hc⟩]
              exact hb
            · cases h
        · cases hg
      · cases h
    · cases h
    · cases h
end YR
theorem xsw_sim {ρ σ : Type} {x : Int32} {d : Nat} {K : Nat → Option ρ} {K' : Nat → Option σ} {y : ρ} {z : σ} (hk : ∀ t, K t = some y → K' t = some z) : ∀ (ps : List (Int × Nat)), xsw x d K ps = some y → xsw x d K' ps = some z := by
  intro ps
  induction ps with
  | nil => intro h; exact hk _ h
  | cons q r ih =>
    intro h
    obtain ⟨a, t⟩ := q
    simp only [xsw] at h ⊢
    by_cases hx : x = Int32.ofInt a
    · rw [if_pos hx] at h ⊢
      exact hk _ h
    · rw [if_neg hx] at h ⊢
      exact ih h
def ySimF (c0 s0 : Nat) : yF → xF → Prop
  | .inl f, .inl F => ∀ vs A A1, f vs A = some A1 → F vs (yhs c0 s0 A) = some (yhs c0 s0 A1)
  | .inr (.inl f), .inr (.inl F) => ∀ vs A z, f vs A = some z → F vs (yhs c0 s0 A) = some (z.1, yhs c0 s0 z.2)
  | .inr (.inr f), .inr (.inr F) => ∀ vs A z, f vs A = some z → F vs (yhs c0 s0 A) = some (z.1, yhs c0 s0 z.2)
  | _, _ => False
def ySimE (c0 s0 : Nat) (E : yEnv) (E' : xEnv) : Prop := E'.1 = E.1 ∧ E'.2.1 = E.2.1 ∧ E'.2.2.2.2.2.2 = E.2.2.2 ∧ ∀ key n f, E.2.2.1 key = some (n, f) → ∃ F, E'.2.2.1 key = some (n, false, F) ∧ ySimF c0 s0 f F
section YS
variable {c0 s0 : Nat} {E : yEnv} {E' : xEnv} {pc : Nat} {L L' : List (Option Value)} {st : List Value} {A : yM} {r : Option Value} {A1 : yM}
theorem ycal_sim {K : ySt → Option (Option Value × yM)} {K' : xSt → Option (Option Value × xS)} (hK : ∀ pc L L' st A, lle L L' → K (pc, L, st, A) = some (r, A1) → K' (pc, L', st, yhs c0 s0 A) = some (r, yhs c0 s0 A1)) (hE : ySimE c0 s0 E E') (hL : lle L L') {init : Bool} {key : Nat} (he : ycal (E.2.2.1 key) pc L st A K = some (r, A1)) : xcal init (E'.2.2.1 key) pc L' st (yhs c0 s0 A) K' = some (r, yhs c0 s0 A1) := by
  unfold ycal at he
  cases ho : E.2.2.1 key with
  | none => rw [ho] at he; cases he
  | some nf =>
    obtain ⟨n, f⟩ := nf
    obtain ⟨F, hF, hs⟩ := hE.2.2.2 _ _ _ ho
    rw [ho] at he
    dsimp only at he
    split at he
    · rename_i hn
      simp only [Bool.and_eq_true] at hn
      rw [hF]
      unfold xcal
      dsimp only
      rw [if_pos (by simp [hn.1, hn.2])]
      obtain f | f | f := f <;> obtain F | F | F := F <;> first | (cases hs; done) | skip
      · obtain ⟨A2, h1, h2⟩ := Option.bind_eq_some_iff.mp he
        dsimp only
        rw [hs _ _ _ h1]
        exact hK _ _ _ _ _ hL h2
      · obtain ⟨z, h1, h2⟩ := Option.bind_eq_some_iff.mp he
        dsimp only
        rw [hs _ _ _ h1]
        exact hK _ _ _ _ _ hL h2
      · obtain ⟨z, h1, h2⟩ := Option.bind_eq_some_iff.mp he
        dsimp only
        rw [hs _ _ _ h1]
        exact hK _ _ _ _ _ hL h2
    · cases he
set_option maxHeartbeats 4000000 in
theorem ystp_sim {K : ySt → Option (Option Value × yM)} {K' : xSt → Option (Option Value × xS)} (hK : ∀ pc L L' st A, lle L L' → K (pc, L, st, A) = some (r, A1) → K' (pc, L', st, yhs c0 s0 A) = some (r, yhs c0 s0 A1)) (hE : ySimE c0 s0 E E') (hL : lle L L') {i : Instr} (he : ystp E i pc L st A K (fun r A => some (r, A)) = some (r, A1)) : xstp E' i pc L' st (yhs c0 s0 A) K' (fun r h => some (r, h)) = some (r, yhs c0 s0 A1) := by
  have hE1 := hE.1
  have hE2 := hE.2.1
  have hE3 := hE.2.2.1
  cases i with
  | invokevirtual n => exact ycal_sim hK hE hL he
  | invokestatic n => exact ycal_sim hK hE hL he
  | invokespecial n => exact ycal_sim hK hE hL he
  | iaload =>
    dsimp only [ystp, ys_iconst, ys_bipush, ys_sipush, ys_lconst, ys_ldc, ys_ldc_w, ys_ldc2_w, ys_iload_n, ys_iload, ys_lload_n, ys_lload, ys_aload_n, ys_aload, ys_istore_n, ys_istore, ys_lstore_n, ys_lstore, ys_astore_n, ys_astore, ys_iinc, ys_iadd, ys_isub, ys_imul, ys_iand, ys_ior, ys_ixor, ys_ishl, ys_ishr, ys_idiv, ys_irem, ys_ladd, ys_lsub, ys_lmul, ys_ldiv, ys_lrem, ys_lcmp, ys_i2l, ys_i2b, ys_i2s, ys_dup, ys_dup2, ys_pop, ys_goto, ys_ifCond_eq, ys_ifCond_ne, ys_ifCond_lt, ys_ifCond_ge, ys_ifCond_gt, ys_ifCond_le, ys_if_icmp_eq, ys_if_icmp_ne, ys_if_icmp_lt, ys_if_icmp_ge, ys_if_icmp_gt, ys_if_icmp_le, ys_tableswitch, ys_lookupswitch, ys_iaload, ys_laload, ys_arraylength, ys_iastore, ys_aaload, ys_getfield, ys_putfield, ys_invokevirtual, ys_invokestatic, ys_invokespecial, ys_return_, ys_ireturn, ys_lreturn] at he
    split at he
    · obtain ⟨h1, h2⟩ := yrd_x (c0 := c0) (s0 := s0) he
      dsimp only [xstp]
      rw [h1]
      exact hK _ _ _ _ _ hL h2
    · cases he
  | laload =>
    dsimp only [ystp, ys_iconst, ys_bipush, ys_sipush, ys_lconst, ys_ldc, ys_ldc_w, ys_ldc2_w, ys_iload_n, ys_iload, ys_lload_n, ys_lload, ys_aload_n, ys_aload, ys_istore_n, ys_istore, ys_lstore_n, ys_lstore, ys_astore_n, ys_astore, ys_iinc, ys_iadd, ys_isub, ys_imul, ys_iand, ys_ior, ys_ixor, ys_ishl, ys_ishr, ys_idiv, ys_irem, ys_ladd, ys_lsub, ys_lmul, ys_ldiv, ys_lrem, ys_lcmp, ys_i2l, ys_i2b, ys_i2s, ys_dup, ys_dup2, ys_pop, ys_goto, ys_ifCond_eq, ys_ifCond_ne, ys_ifCond_lt, ys_ifCond_ge, ys_ifCond_gt, ys_ifCond_le, ys_if_icmp_eq, ys_if_icmp_ne, ys_if_icmp_lt, ys_if_icmp_ge, ys_if_icmp_gt, ys_if_icmp_le, ys_tableswitch, ys_lookupswitch, ys_iaload, ys_laload, ys_arraylength, ys_iastore, ys_aaload, ys_getfield, ys_putfield, ys_invokevirtual, ys_invokestatic, ys_invokespecial, ys_return_, ys_ireturn, ys_lreturn] at he
    split at he
    · obtain ⟨h1, h2⟩ := yrL_x (c0 := c0) (s0 := s0) he
      dsimp only [xstp]
      rw [h1]
      exact hK _ _ _ _ _ hL h2
    · cases he
  | arraylength =>
    dsimp only [ystp, ys_iconst, ys_bipush, ys_sipush, ys_lconst, ys_ldc, ys_ldc_w, ys_ldc2_w, ys_iload_n, ys_iload, ys_lload_n, ys_lload, ys_aload_n, ys_aload, ys_istore_n, ys_istore, ys_lstore_n, ys_lstore, ys_astore_n, ys_astore, ys_iinc, ys_iadd, ys_isub, ys_imul, ys_iand, ys_ior, ys_ixor, ys_ishl, ys_ishr, ys_idiv, ys_irem, ys_ladd, ys_lsub, ys_lmul, ys_ldiv, ys_lrem, ys_lcmp, ys_i2l, ys_i2b, ys_i2s, ys_dup, ys_dup2, ys_pop, ys_goto, ys_ifCond_eq, ys_ifCond_ne, ys_ifCond_lt, ys_ifCond_ge, ys_ifCond_gt, ys_ifCond_le, ys_if_icmp_eq, ys_if_icmp_ne, ys_if_icmp_lt, ys_if_icmp_ge, ys_if_icmp_gt, ys_if_icmp_le, ys_tableswitch, ys_lookupswitch, ys_iaload, ys_laload, ys_arraylength, ys_iastore, ys_aaload, ys_getfield, ys_putfield, ys_invokevirtual, ys_invokestatic, ys_invokespecial, ys_return_, ys_ireturn, ys_lreturn] at he
    split at he
    · obtain ⟨n, h1, h2⟩ := yle_x (c0 := c0) (s0 := s0) he
      dsimp only [xstp]
      rw [h1]
      exact hK _ _ _ _ _ hL h2
    · cases he
  | aaload =>
    dsimp only [ystp, ys_iconst, ys_bipush, ys_sipush, ys_lconst, ys_ldc, ys_ldc_w, ys_ldc2_w, ys_iload_n, ys_iload, ys_lload_n, ys_lload, ys_aload_n, ys_aload, ys_istore_n, ys_istore, ys_lstore_n, ys_lstore, ys_astore_n, ys_astore, ys_iinc, ys_iadd, ys_isub, ys_imul, ys_iand, ys_ior, ys_ixor, ys_ishl, ys_ishr, ys_idiv, ys_irem, ys_ladd, ys_lsub, ys_lmul, ys_ldiv, ys_lrem, ys_lcmp, ys_i2l, ys_i2b, ys_i2s, ys_dup, ys_dup2, ys_pop, ys_goto, ys_ifCond_eq, ys_ifCond_ne, ys_ifCond_lt, ys_ifCond_ge, ys_ifCond_gt, ys_ifCond_le, ys_if_icmp_eq, ys_if_icmp_ne, ys_if_icmp_lt, ys_if_icmp_ge, ys_if_icmp_gt, ys_if_icmp_le, ys_tableswitch, ys_lookupswitch, ys_iaload, ys_laload, ys_arraylength, ys_iastore, ys_aaload, ys_getfield, ys_putfield, ys_invokevirtual, ys_invokestatic, ys_invokespecial, ys_return_, ys_ireturn, ys_lreturn] at he
    split at he
    · obtain ⟨b, h1, h2⟩ := yrR_x (c0 := c0) (s0 := s0) he
      dsimp only [xstp]
      rw [h1]
      exact hK _ _ _ _ _ hL h2
    · cases he
  | iastore =>
    dsimp only [ystp, ys_iconst, ys_bipush, ys_sipush, ys_lconst, ys_ldc, ys_ldc_w, ys_ldc2_w, ys_iload_n, ys_iload, ys_lload_n, ys_lload, ys_aload_n, ys_aload, ys_istore_n, ys_istore, ys_lstore_n, ys_lstore, ys_astore_n, ys_astore, ys_iinc, ys_iadd, ys_isub, ys_imul, ys_iand, ys_ior, ys_ixor, ys_ishl, ys_ishr, ys_idiv, ys_irem, ys_ladd, ys_lsub, ys_lmul, ys_ldiv, ys_lrem, ys_lcmp, ys_i2l, ys_i2b, ys_i2s, ys_dup, ys_dup2, ys_pop, ys_goto, ys_ifCond_eq, ys_ifCond_ne, ys_ifCond_lt, ys_ifCond_ge, ys_ifCond_gt, ys_ifCond_le, ys_if_icmp_eq, ys_if_icmp_ne, ys_if_icmp_lt, ys_if_icmp_ge, ys_if_icmp_gt, ys_if_icmp_le, ys_tableswitch, ys_lookupswitch, ys_iaload, ys_laload, ys_arraylength, ys_iastore, ys_aaload, ys_getfield, ys_putfield, ys_invokevirtual, ys_invokestatic, ys_invokespecial, ys_return_, ys_ireturn, ys_lreturn] at he
    split at he
    · obtain ⟨h1, h2⟩ := ywr_x (c0 := c0) (s0 := s0) he
      dsimp only [xstp]
      rw [h1]
      exact hK _ _ _ _ _ hL h2
    · cases he
  | getfield n =>
    dsimp only [ystp, ys_iconst, ys_bipush, ys_sipush, ys_lconst, ys_ldc, ys_ldc_w, ys_ldc2_w, ys_iload_n, ys_iload, ys_lload_n, ys_lload, ys_aload_n, ys_aload, ys_istore_n, ys_istore, ys_lstore_n, ys_lstore, ys_astore_n, ys_astore, ys_iinc, ys_iadd, ys_isub, ys_imul, ys_iand, ys_ior, ys_ixor, ys_ishl, ys_ishr, ys_idiv, ys_irem, ys_ladd, ys_lsub, ys_lmul, ys_ldiv, ys_lrem, ys_lcmp, ys_i2l, ys_i2b, ys_i2s, ys_dup, ys_dup2, ys_pop, ys_goto, ys_ifCond_eq, ys_ifCond_ne, ys_ifCond_lt, ys_ifCond_ge, ys_ifCond_gt, ys_ifCond_le, ys_if_icmp_eq, ys_if_icmp_ne, ys_if_icmp_lt, ys_if_icmp_ge, ys_if_icmp_gt, ys_if_icmp_le, ys_tableswitch, ys_lookupswitch, ys_iaload, ys_laload, ys_arraylength, ys_iastore, ys_aaload, ys_getfield, ys_putfield, ys_invokevirtual, ys_invokestatic, ys_invokespecial, ys_return_, ys_ireturn, ys_lreturn] at he
    dsimp only [xstp]
    rw [hE1]
    split at he
    · rename_i heq
      obtain ⟨b, h1, h2⟩ := ygR_x (c0 := c0) (s0 := s0) he
      simp only [heq]
      rw [h1]
      exact hK _ _ _ _ _ hL h2
    · rename_i heq
      obtain ⟨b, h1, h2⟩ := ygR_x (c0 := c0) (s0 := s0) he
      simp only [heq]
      rw [h1]
      exact hK _ _ _ _ _ hL h2
    · rename_i hn1 hn2 heq
      obtain ⟨h1, h2⟩ := ygI_x (c0 := c0) (s0 := s0) he
      simp only [heq]
      rw [h1]
      exact hK _ _ _ _ _ hL h2
    · cases he
  | putfield n =>
    dsimp only [ystp, ys_iconst, ys_bipush, ys_sipush, ys_lconst, ys_ldc, ys_ldc_w, ys_ldc2_w, ys_iload_n, ys_iload, ys_lload_n, ys_lload, ys_aload_n, ys_aload, ys_istore_n, ys_istore, ys_lstore_n, ys_lstore, ys_astore_n, ys_astore, ys_iinc, ys_iadd, ys_isub, ys_imul, ys_iand, ys_ior, ys_ixor, ys_ishl, ys_ishr, ys_idiv, ys_irem, ys_ladd, ys_lsub, ys_lmul, ys_ldiv, ys_lrem, ys_lcmp, ys_i2l, ys_i2b, ys_i2s, ys_dup, ys_dup2, ys_pop, ys_goto, ys_ifCond_eq, ys_ifCond_ne, ys_ifCond_lt, ys_ifCond_ge, ys_ifCond_gt, ys_ifCond_le, ys_if_icmp_eq, ys_if_icmp_ne, ys_if_icmp_lt, ys_if_icmp_ge, ys_if_icmp_gt, ys_if_icmp_le, ys_tableswitch, ys_lookupswitch, ys_iaload, ys_laload, ys_arraylength, ys_iastore, ys_aaload, ys_getfield, ys_putfield, ys_invokevirtual, ys_invokestatic, ys_invokespecial, ys_return_, ys_ireturn, ys_lreturn] at he
    dsimp only [xstp]
    rw [hE1]
    split at he
    · rename_i heq
      obtain ⟨h1, h2⟩ := ypI_x (c0 := c0) (s0 := s0) he
      simp only [heq]
      rw [if_neg (by simp), h1]
      exact hK _ _ _ _ _ hL h2
    · rename_i heq
      split at he
      · rename_i hx
        obtain ⟨h1, h2⟩ := ypI_x (c0 := c0) (s0 := s0) he
        simp only [heq]
        rw [if_neg (by rintro (q | q); exact absurd q.1 (by simp); exact q hx), h1]
        exact hK _ _ _ _ _ hL h2
      · cases he
    · cases he
  | tableswitch d lo hi offs =>
    dsimp only [ystp, ys_iconst, ys_bipush, ys_sipush, ys_lconst, ys_ldc, ys_ldc_w, ys_ldc2_w, ys_iload_n, ys_iload, ys_lload_n, ys_lload, ys_aload_n, ys_aload, ys_istore_n, ys_istore, ys_lstore_n, ys_lstore, ys_astore_n, ys_astore, ys_iinc, ys_iadd, ys_isub, ys_imul, ys_iand, ys_ior, ys_ixor, ys_ishl, ys_ishr, ys_idiv, ys_irem, ys_ladd, ys_lsub, ys_lmul, ys_ldiv, ys_lrem, ys_lcmp, ys_i2l, ys_i2b, ys_i2s, ys_dup, ys_dup2, ys_pop, ys_goto, ys_ifCond_eq, ys_ifCond_ne, ys_ifCond_lt, ys_ifCond_ge, ys_ifCond_gt, ys_ifCond_le, ys_if_icmp_eq, ys_if_icmp_ne, ys_if_icmp_lt, ys_if_icmp_ge, ys_if_icmp_gt, ys_if_icmp_le, ys_tableswitch, ys_lookupswitch, ys_iaload, ys_laload, ys_arraylength, ys_iastore, ys_aaload, ys_getfield, ys_putfield, ys_invokevirtual, ys_invokestatic, ys_invokespecial, ys_return_, ys_ireturn, ys_lreturn] at he
    split at he
    · exact xsw_sim (fun t h => hK _ _ _ _ _ hL h) _ he
    · cases he
  | lookupswitch d ps =>
    dsimp only [ystp, ys_iconst, ys_bipush, ys_sipush, ys_lconst, ys_ldc, ys_ldc_w, ys_ldc2_w, ys_iload_n, ys_iload, ys_lload_n, ys_lload, ys_aload_n, ys_aload, ys_istore_n, ys_istore, ys_lstore_n, ys_lstore, ys_astore_n, ys_astore, ys_iinc, ys_iadd, ys_isub, ys_imul, ys_iand, ys_ior, ys_ixor, ys_ishl, ys_ishr, ys_idiv, ys_irem, ys_ladd, ys_lsub, ys_lmul, ys_ldiv, ys_lrem, ys_lcmp, ys_i2l, ys_i2b, ys_i2s, ys_dup, ys_dup2, ys_pop, ys_goto, ys_ifCond_eq, ys_ifCond_ne, ys_ifCond_lt, ys_ifCond_ge, ys_ifCond_gt, ys_ifCond_le, ys_if_icmp_eq, ys_if_icmp_ne, ys_if_icmp_lt, ys_if_icmp_ge, ys_if_icmp_gt, ys_if_icmp_le, ys_tableswitch, ys_lookupswitch, ys_iaload, ys_laload, ys_arraylength, ys_iastore, ys_aaload, ys_getfield, ys_putfield, ys_invokevirtual, ys_invokestatic, ys_invokespecial, ys_return_, ys_ireturn, ys_lreturn] at he
    split at he
    · exact xsw_sim (fun t h => hK _ _ _ _ _ hL h) _ he
    · cases he
  | return_ =>
    dsimp only [ystp, ys_iconst, ys_bipush, ys_sipush, ys_lconst, ys_ldc, ys_ldc_w, ys_ldc2_w, ys_iload_n, ys_iload, ys_lload_n, ys_lload, ys_aload_n, ys_aload, ys_istore_n, ys_istore, ys_lstore_n, ys_lstore, ys_astore_n, ys_astore, ys_iinc, ys_iadd, ys_isub, ys_imul, ys_iand, ys_ior, ys_ixor, ys_ishl, ys_ishr, ys_idiv, ys_irem, ys_ladd, ys_lsub, ys_lmul, ys_ldiv, ys_lrem, ys_lcmp, ys_i2l, ys_i2b, ys_i2s, ys_dup, ys_dup2, ys_pop, ys_goto, ys_ifCond_eq, ys_ifCond_ne, ys_ifCond_lt, ys_ifCond_ge, ys_ifCond_gt, ys_ifCond_le, ys_if_icmp_eq, ys_if_icmp_ne, ys_if_icmp_lt, ys_if_icmp_ge, ys_if_icmp_gt, ys_if_icmp_le, ys_tableswitch, ys_lookupswitch, ys_iaload, ys_laload, ys_arraylength, ys_iastore, ys_aaload, ys_getfield, ys_putfield, ys_invokevirtual, ys_invokestatic, ys_invokespecial, ys_return_, ys_ireturn, ys_lreturn] at he
    dsimp only [xstp]
    rw [hE3]
    split at he
    · rename_i heq
      cases he
      simp only [heq]
    · cases he
  | ireturn =>
    dsimp only [ystp, ys_iconst, ys_bipush, ys_sipush, ys_lconst, ys_ldc, ys_ldc_w, ys_ldc2_w, ys_iload_n, ys_iload, ys_lload_n, ys_lload, ys_aload_n, ys_aload, ys_istore_n, ys_istore, ys_lstore_n, ys_lstore, ys_astore_n, ys_astore, ys_iinc, ys_iadd, ys_isub, ys_imul, ys_iand, ys_ior, ys_ixor, ys_ishl, ys_ishr, ys_idiv, ys_irem, ys_ladd, ys_lsub, ys_lmul, ys_ldiv, ys_lrem, ys_lcmp, ys_i2l, ys_i2b, ys_i2s, ys_dup, ys_dup2, ys_pop, ys_goto, ys_ifCond_eq, ys_ifCond_ne, ys_ifCond_lt, ys_ifCond_ge, ys_ifCond_gt, ys_ifCond_le, ys_if_icmp_eq, ys_if_icmp_ne, ys_if_icmp_lt, ys_if_icmp_ge, ys_if_icmp_gt, ys_if_icmp_le, ys_tableswitch, ys_lookupswitch, ys_iaload, ys_laload, ys_arraylength, ys_iastore, ys_aaload, ys_getfield, ys_putfield, ys_invokevirtual, ys_invokestatic, ys_invokespecial, ys_return_, ys_ireturn, ys_lreturn] at he
    dsimp only [xstp]
    rw [hE3]
    split at he
    · rename_i heq
      cases he
      simp only [heq]
    · rename_i heq
      split at he
      · rename_i hx
        cases he
        simp only [heq]
        rw [if_pos hx]
      · cases he
    · cases he
  | lreturn =>
    dsimp only [ystp, ys_iconst, ys_bipush, ys_sipush, ys_lconst, ys_ldc, ys_ldc_w, ys_ldc2_w, ys_iload_n, ys_iload, ys_lload_n, ys_lload, ys_aload_n, ys_aload, ys_istore_n, ys_istore, ys_lstore_n, ys_lstore, ys_astore_n, ys_astore, ys_iinc, ys_iadd, ys_isub, ys_imul, ys_iand, ys_ior, ys_ixor, ys_ishl, ys_ishr, ys_idiv, ys_irem, ys_ladd, ys_lsub, ys_lmul, ys_ldiv, ys_lrem, ys_lcmp, ys_i2l, ys_i2b, ys_i2s, ys_dup, ys_dup2, ys_pop, ys_goto, ys_ifCond_eq, ys_ifCond_ne, ys_ifCond_lt, ys_ifCond_ge, ys_ifCond_gt, ys_ifCond_le, ys_if_icmp_eq, ys_if_icmp_ne, ys_if_icmp_lt, ys_if_icmp_ge, ys_if_icmp_gt, ys_if_icmp_le, ys_tableswitch, ys_lookupswitch, ys_iaload, ys_laload, ys_arraylength, ys_iastore, ys_aaload, ys_getfield, ys_putfield, ys_invokevirtual, ys_invokestatic, ys_invokespecial, ys_return_, ys_ireturn, ys_lreturn] at he
    dsimp only [xstp]
    rw [hE3]
    split at he
    · rename_i heq
      cases he
      simp only [heq]
    · cases he
  | ldc n =>
    dsimp only [ystp, ys_iconst, ys_bipush, ys_sipush, ys_lconst, ys_ldc, ys_ldc_w, ys_ldc2_w, ys_iload_n, ys_iload, ys_lload_n, ys_lload, ys_aload_n, ys_aload, ys_istore_n, ys_istore, ys_lstore_n, ys_lstore, ys_astore_n, ys_astore, ys_iinc, ys_iadd, ys_isub, ys_imul, ys_iand, ys_ior, ys_ixor, ys_ishl, ys_ishr, ys_idiv, ys_irem, ys_ladd, ys_lsub, ys_lmul, ys_ldiv, ys_lrem, ys_lcmp, ys_i2l, ys_i2b, ys_i2s, ys_dup, ys_dup2, ys_pop, ys_goto, ys_ifCond_eq, ys_ifCond_ne, ys_ifCond_lt, ys_ifCond_ge, ys_ifCond_gt, ys_ifCond_le, ys_if_icmp_eq, ys_if_icmp_ne, ys_if_icmp_lt, ys_if_icmp_ge, ys_if_icmp_gt, ys_if_icmp_le, ys_tableswitch, ys_lookupswitch, ys_iaload, ys_laload, ys_arraylength, ys_iastore, ys_aaload, ys_getfield, ys_putfield, ys_invokevirtual, ys_invokestatic, ys_invokespecial, ys_return_, ys_ireturn, ys_lreturn] at he
    dsimp only [xstp]
    rw [hE2]
    split at he
    · rename_i heq
      simp only [heq]
      exact hK _ _ _ _ _ hL he
    · cases he
  | ldc_w n =>
    dsimp only [ystp, ys_iconst, ys_bipush, ys_sipush, ys_lconst, ys_ldc, ys_ldc_w, ys_ldc2_w, ys_iload_n, ys_iload, ys_lload_n, ys_lload, ys_aload_n, ys_aload, ys_istore_n, ys_istore, ys_lstore_n, ys_lstore, ys_astore_n, ys_astore, ys_iinc, ys_iadd, ys_isub, ys_imul, ys_iand, ys_ior, ys_ixor, ys_ishl, ys_ishr, ys_idiv, ys_irem, ys_ladd, ys_lsub, ys_lmul, ys_ldiv, ys_lrem, ys_lcmp, ys_i2l, ys_i2b, ys_i2s, ys_dup, ys_dup2, ys_pop, ys_goto, ys_ifCond_eq, ys_ifCond_ne, ys_ifCond_lt, ys_ifCond_ge, ys_ifCond_gt, ys_ifCond_le, ys_if_icmp_eq, ys_if_icmp_ne, ys_if_icmp_lt, ys_if_icmp_ge, ys_if_icmp_gt, ys_if_icmp_le, ys_tableswitch, ys_lookupswitch, ys_iaload, ys_laload, ys_arraylength, ys_iastore, ys_aaload, ys_getfield, ys_putfield, ys_invokevirtual, ys_invokestatic, ys_invokespecial, ys_return_, ys_ireturn, ys_lreturn] at he
    dsimp only [xstp]
    rw [hE2]
    split at he
    · rename_i heq
      simp only [heq]
      exact hK _ _ _ _ _ hL he
    · cases he
  | ldc2_w n =>
    dsimp only [ystp, ys_iconst, ys_bipush, ys_sipush, ys_lconst, ys_ldc, ys_ldc_w, ys_ldc2_w, ys_iload_n, ys_iload, ys_lload_n, ys_lload, ys_aload_n, ys_aload, ys_istore_n, ys_istore, ys_lstore_n, ys_lstore, ys_astore_n, ys_astore, ys_iinc, ys_iadd, ys_isub, ys_imul, ys_iand, ys_ior, ys_ixor, ys_ishl, ys_ishr, ys_idiv, ys_irem, ys_ladd, ys_lsub, ys_lmul, ys_ldiv, ys_lrem, ys_lcmp, ys_i2l, ys_i2b, ys_i2s, ys_dup, ys_dup2, ys_pop, ys_goto, ys_ifCond_eq, ys_ifCond_ne, ys_ifCond_lt, ys_ifCond_ge, ys_ifCond_gt, ys_ifCond_le, ys_if_icmp_eq, ys_if_icmp_ne, ys_if_icmp_lt, ys_if_icmp_ge, ys_if_icmp_gt, ys_if_icmp_le, ys_tableswitch, ys_lookupswitch, ys_iaload, ys_laload, ys_arraylength, ys_iastore, ys_aaload, ys_getfield, ys_putfield, ys_invokevirtual, ys_invokestatic, ys_invokespecial, ys_return_, ys_ireturn, ys_lreturn] at he
    dsimp only [xstp]
    rw [hE2]
    split at he
    · rename_i heq
      simp only [heq]
      exact hK _ _ _ _ _ hL he
    · cases he
  | iinc k n =>
    dsimp only [ystp, ys_iconst, ys_bipush, ys_sipush, ys_lconst, ys_ldc, ys_ldc_w, ys_ldc2_w, ys_iload_n, ys_iload, ys_lload_n, ys_lload, ys_aload_n, ys_aload, ys_istore_n, ys_istore, ys_lstore_n, ys_lstore, ys_astore_n, ys_astore, ys_iinc, ys_iadd, ys_isub, ys_imul, ys_iand, ys_ior, ys_ixor, ys_ishl, ys_ishr, ys_idiv, ys_irem, ys_ladd, ys_lsub, ys_lmul, ys_ldiv, ys_lrem, ys_lcmp, ys_i2l, ys_i2b, ys_i2s, ys_dup, ys_dup2, ys_pop, ys_goto, ys_ifCond_eq, ys_ifCond_ne, ys_ifCond_lt, ys_ifCond_ge, ys_ifCond_gt, ys_ifCond_le, ys_if_icmp_eq, ys_if_icmp_ne, ys_if_icmp_lt, ys_if_icmp_ge, ys_if_icmp_gt, ys_if_icmp_le, ys_tableswitch, ys_lookupswitch, ys_iaload, ys_laload, ys_arraylength, ys_iastore, ys_aaload, ys_getfield, ys_putfield, ys_invokevirtual, ys_invokestatic, ys_invokespecial, ys_return_, ys_ireturn, ys_lreturn] at he
    dsimp only [xstp]
    split at he
    · rename_i x heq
      rw [hL.2 _ _ heq]
      dsimp only
      split at he
      · rename_i L1 h1
        obtain ⟨L1', h2, h3⟩ := lle_st1 hL h1
        rw [h2]
        exact hK _ _ _ _ _ h3 he
      · cases he
    · cases he
  | ifCond o off =>
    cases o <;> dsimp only [ystp, ys_iconst, ys_bipush, ys_sipush, ys_lconst, ys_ldc, ys_ldc_w, ys_ldc2_w, ys_iload_n, ys_iload, ys_lload_n, ys_lload, ys_aload_n, ys_aload, ys_istore_n, ys_istore, ys_lstore_n, ys_lstore, ys_astore_n, ys_astore, ys_iinc, ys_iadd, ys_isub, ys_imul, ys_iand, ys_ior, ys_ixor, ys_ishl, ys_ishr, ys_idiv, ys_irem, ys_ladd, ys_lsub, ys_lmul, ys_ldiv, ys_lrem, ys_lcmp, ys_i2l, ys_i2b, ys_i2s, ys_dup, ys_dup2, ys_pop, ys_goto, ys_ifCond_eq, ys_ifCond_ne, ys_ifCond_lt, ys_ifCond_ge, ys_ifCond_gt, ys_ifCond_le, ys_if_icmp_eq, ys_if_icmp_ne, ys_if_icmp_lt, ys_if_icmp_ge, ys_if_icmp_gt, ys_if_icmp_le, ys_tableswitch, ys_lookupswitch, ys_iaload, ys_laload, ys_arraylength, ys_iastore, ys_aaload, ys_getfield, ys_putfield, ys_invokevirtual, ys_invokestatic, ys_invokespecial, ys_return_, ys_ireturn, ys_lreturn] at he <;> split at he <;> first | (cases he; done) | (dsimp only [xstp]; split at he <;> rename_i hc <;> first | (rw [if_pos hc]; exact hK _ _ _ _ _ hL he) | (rw [if_neg hc]; exact hK _ _ _ _ _ hL he))
  | if_icmp o off =>
    cases o <;> dsimp only [ystp, ys_iconst, ys_bipush, ys_sipush, ys_lconst, ys_ldc, ys_ldc_w, ys_ldc2_w, ys_iload_n, ys_iload, ys_lload_n, ys_lload, ys_aload_n, ys_aload, ys_istore_n, ys_istore, ys_lstore_n, ys_lstore, ys_astore_n, ys_astore, ys_iinc, ys_iadd, ys_isub, ys_imul, ys_iand, ys_ior, ys_ixor, ys_ishl, ys_ishr, ys_idiv, ys_irem, ys_ladd, ys_lsub, ys_lmul, ys_ldiv, ys_lrem, ys_lcmp, ys_i2l, ys_i2b, ys_i2s, ys_dup, ys_dup2, ys_pop, ys_goto, ys_ifCond_eq, ys_ifCond_ne, ys_ifCond_lt, ys_ifCond_ge, ys_ifCond_gt, ys_ifCond_le, ys_if_icmp_eq, ys_if_icmp_ne, ys_if_icmp_lt, ys_if_icmp_ge, ys_if_icmp_gt, ys_if_icmp_le, ys_tableswitch, ys_lookupswitch, ys_iaload, ys_laload, ys_arraylength, ys_iastore, ys_aaload, ys_getfield, ys_putfield, ys_invokevirtual, ys_invokestatic, ys_invokespecial, ys_return_, ys_ireturn, ys_lreturn] at he <;> split at he <;> first | (cases he; done) | (dsimp only [xstp]; split at he <;> rename_i hc <;> first | (rw [if_pos hc]; exact hK _ _ _ _ _ hL he) | (rw [if_neg hc]; exact hK _ _ _ _ _ hL he))
  | iload_n n => dsimp only [ystp, ys_iconst, ys_bipush, ys_sipush, ys_lconst, ys_ldc, ys_ldc_w, ys_ldc2_w, ys_iload_n, ys_iload, ys_lload_n, ys_lload, ys_aload_n, ys_aload, ys_istore_n, ys_istore, ys_lstore_n, ys_lstore, ys_astore_n, ys_astore, ys_iinc, ys_iadd, ys_isub, ys_imul, ys_iand, ys_ior, ys_ixor, ys_ishl, ys_ishr, ys_idiv, ys_irem, ys_ladd, ys_lsub, ys_lmul, ys_ldiv, ys_lrem, ys_lcmp, ys_i2l, ys_i2b, ys_i2s, ys_dup, ys_dup2, ys_pop, ys_goto, ys_ifCond_eq, ys_ifCond_ne, ys_ifCond_lt, ys_ifCond_ge, ys_ifCond_gt, ys_ifCond_le, ys_if_icmp_eq, ys_if_icmp_ne, ys_if_icmp_lt, ys_if_icmp_ge, ys_if_icmp_gt, ys_if_icmp_le, ys_tableswitch, ys_lookupswitch, ys_iaload, ys_laload, ys_arraylength, ys_iastore, ys_aaload, ys_getfield, ys_putfield, ys_invokevirtual, ys_invokestatic, ys_invokespecial, ys_return_, ys_ireturn, ys_lreturn] at he; split at he <;> first | (cases he; done) | (rename_i x heq; dsimp only [xstp]; rw [hL.2 _ _ heq]; exact hK _ _ _ _ _ hL he)
  | iload n => dsimp only [ystp, ys_iconst, ys_bipush, ys_sipush, ys_lconst, ys_ldc, ys_ldc_w, ys_ldc2_w, ys_iload_n, ys_iload, ys_lload_n, ys_lload, ys_aload_n, ys_aload, ys_istore_n, ys_istore, ys_lstore_n, ys_lstore, ys_astore_n, ys_astore, ys_iinc, ys_iadd, ys_isub, ys_imul, ys_iand, ys_ior, ys_ixor, ys_ishl, ys_ishr, ys_idiv, ys_irem, ys_ladd, ys_lsub, ys_lmul, ys_ldiv, ys_lrem, ys_lcmp, ys_i2l, ys_i2b, ys_i2s, ys_dup, ys_dup2, ys_pop, ys_goto, ys_ifCond_eq, ys_ifCond_ne, ys_ifCond_lt, ys_ifCond_ge, ys_ifCond_gt, ys_ifCond_le, ys_if_icmp_eq, ys_if_icmp_ne, ys_if_icmp_lt, ys_if_icmp_ge, ys_if_icmp_gt, ys_if_icmp_le, ys_tableswitch, ys_lookupswitch, ys_iaload, ys_laload, ys_arraylength, ys_iastore, ys_aaload, ys_getfield, ys_putfield, ys_invokevirtual, ys_invokestatic, ys_invokespecial, ys_return_, ys_ireturn, ys_lreturn] at he; split at he <;> first | (cases he; done) | (rename_i x heq; dsimp only [xstp]; rw [hL.2 _ _ heq]; exact hK _ _ _ _ _ hL he)
  | lload_n n => dsimp only [ystp, ys_iconst, ys_bipush, ys_sipush, ys_lconst, ys_ldc, ys_ldc_w, ys_ldc2_w, ys_iload_n, ys_iload, ys_lload_n, ys_lload, ys_aload_n, ys_aload, ys_istore_n, ys_istore, ys_lstore_n, ys_lstore, ys_astore_n, ys_astore, ys_iinc, ys_iadd, ys_isub, ys_imul, ys_iand, ys_ior, ys_ixor, ys_ishl, ys_ishr, ys_idiv, ys_irem, ys_ladd, ys_lsub, ys_lmul, ys_ldiv, ys_lrem, ys_lcmp, ys_i2l, ys_i2b, ys_i2s, ys_dup, ys_dup2, ys_pop, ys_goto, ys_ifCond_eq, ys_ifCond_ne, ys_ifCond_lt, ys_ifCond_ge, ys_ifCond_gt, ys_ifCond_le, ys_if_icmp_eq, ys_if_icmp_ne, ys_if_icmp_lt, ys_if_icmp_ge, ys_if_icmp_gt, ys_if_icmp_le, ys_tableswitch, ys_lookupswitch, ys_iaload, ys_laload, ys_arraylength, ys_iastore, ys_aaload, ys_getfield, ys_putfield, ys_invokevirtual, ys_invokestatic, ys_invokespecial, ys_return_, ys_ireturn, ys_lreturn] at he; split at he <;> first | (cases he; done) | (rename_i x heq; dsimp only [xstp]; rw [hL.2 _ _ heq]; exact hK _ _ _ _ _ hL he)
  | lload n => dsimp only [ystp, ys_iconst, ys_bipush, ys_sipush, ys_lconst, ys_ldc, ys_ldc_w, ys_ldc2_w, ys_iload_n, ys_iload, ys_lload_n, ys_lload, ys_aload_n, ys_aload, ys_istore_n, ys_istore, ys_lstore_n, ys_lstore, ys_astore_n, ys_astore, ys_iinc, ys_iadd, ys_isub, ys_imul, ys_iand, ys_ior, ys_ixor, ys_ishl, ys_ishr, ys_idiv, ys_irem, ys_ladd, ys_lsub, ys_lmul, ys_ldiv, ys_lrem, ys_lcmp, ys_i2l, ys_i2b, ys_i2s, ys_dup, ys_dup2, ys_pop, ys_goto, ys_ifCond_eq, ys_ifCond_ne, ys_ifCond_lt, ys_ifCond_ge, ys_ifCond_gt, ys_ifCond_le, ys_if_icmp_eq, ys_if_icmp_ne, ys_if_icmp_lt, ys_if_icmp_ge, ys_if_icmp_gt, ys_if_icmp_le, ys_tableswitch, ys_lookupswitch, ys_iaload, ys_laload, ys_arraylength, ys_iastore, ys_aaload, ys_getfield, ys_putfield, ys_invokevirtual, ys_invokestatic, ys_invokespecial, ys_return_, ys_ireturn, ys_lreturn] at he; split at he <;> first | (cases he; done) | (rename_i x heq; dsimp only [xstp]; rw [hL.2 _ _ heq]; exact hK _ _ _ _ _ hL he)
  | aload_n n => dsimp only [ystp, ys_iconst, ys_bipush, ys_sipush, ys_lconst, ys_ldc, ys_ldc_w, ys_ldc2_w, ys_iload_n, ys_iload, ys_lload_n, ys_lload, ys_aload_n, ys_aload, ys_istore_n, ys_istore, ys_lstore_n, ys_lstore, ys_astore_n, ys_astore, ys_iinc, ys_iadd, ys_isub, ys_imul, ys_iand, ys_ior, ys_ixor, ys_ishl, ys_ishr, ys_idiv, ys_irem, ys_ladd, ys_lsub, ys_lmul, ys_ldiv, ys_lrem, ys_lcmp, ys_i2l, ys_i2b, ys_i2s, ys_dup, ys_dup2, ys_pop, ys_goto, ys_ifCond_eq, ys_ifCond_ne, ys_ifCond_lt, ys_ifCond_ge, ys_ifCond_gt, ys_ifCond_le, ys_if_icmp_eq, ys_if_icmp_ne, ys_if_icmp_lt, ys_if_icmp_ge, ys_if_icmp_gt, ys_if_icmp_le, ys_tableswitch, ys_lookupswitch, ys_iaload, ys_laload, ys_arraylength, ys_iastore, ys_aaload, ys_getfield, ys_putfield, ys_invokevirtual, ys_invokestatic, ys_invokespecial, ys_return_, ys_ireturn, ys_lreturn] at he; split at he <;> first | (cases he; done) | (rename_i x heq; dsimp only [xstp]; rw [hL.2 _ _ heq]; exact hK _ _ _ _ _ hL he)
  | aload n => dsimp only [ystp, ys_iconst, ys_bipush, ys_sipush, ys_lconst, ys_ldc, ys_ldc_w, ys_ldc2_w, ys_iload_n, ys_iload, ys_lload_n, ys_lload, ys_aload_n, ys_aload, ys_istore_n, ys_istore, ys_lstore_n, ys_lstore, ys_astore_n, ys_astore, ys_iinc, ys_iadd, ys_isub, ys_imul, ys_iand, ys_ior, ys_ixor, ys_ishl, ys_ishr, ys_idiv, ys_irem, ys_ladd, ys_lsub, ys_lmul, ys_ldiv, ys_lrem, ys_lcmp, ys_i2l, ys_i2b, ys_i2s, ys_dup, ys_dup2, ys_pop, ys_goto, ys_ifCond_eq, ys_ifCond_ne, ys_ifCond_lt, ys_ifCond_ge, ys_ifCond_gt, ys_ifCond_le, ys_if_icmp_eq, ys_if_icmp_ne, ys_if_icmp_lt, ys_if_icmp_ge, ys_if_icmp_gt, ys_if_icmp_le, ys_tableswitch, ys_lookupswitch, ys_iaload, ys_laload, ys_arraylength, ys_iastore, ys_aaload, ys_getfield, ys_putfield, ys_invokevirtual, ys_invokestatic, ys_invokespecial, ys_return_, ys_ireturn, ys_lreturn] at he; split at he <;> first | (cases he; done) | (rename_i x heq; dsimp only [xstp]; rw [hL.2 _ _ heq]; exact hK _ _ _ _ _ hL he)
  | istore_n k => dsimp only [ystp, ys_iconst, ys_bipush, ys_sipush, ys_lconst, ys_ldc, ys_ldc_w, ys_ldc2_w, ys_iload_n, ys_iload, ys_lload_n, ys_lload, ys_aload_n, ys_aload, ys_istore_n, ys_istore, ys_lstore_n, ys_lstore, ys_astore_n, ys_astore, ys_iinc, ys_iadd, ys_isub, ys_imul, ys_iand, ys_ior, ys_ixor, ys_ishl, ys_ishr, ys_idiv, ys_irem, ys_ladd, ys_lsub, ys_lmul, ys_ldiv, ys_lrem, ys_lcmp, ys_i2l, ys_i2b, ys_i2s, ys_dup, ys_dup2, ys_pop, ys_goto, ys_ifCond_eq, ys_ifCond_ne, ys_ifCond_lt, ys_ifCond_ge, ys_ifCond_gt, ys_ifCond_le, ys_if_icmp_eq, ys_if_icmp_ne, ys_if_icmp_lt, ys_if_icmp_ge, ys_if_icmp_gt, ys_if_icmp_le, ys_tableswitch, ys_lookupswitch, ys_iaload, ys_laload, ys_arraylength, ys_iastore, ys_aaload, ys_getfield, ys_putfield, ys_invokevirtual, ys_invokestatic, ys_invokespecial, ys_return_, ys_ireturn, ys_lreturn] at he; split at he <;> first | (cases he; done) | (dsimp only [xstp]; split at he <;> first | (cases he; done) | (rename_i L1 h1; obtain ⟨L1', h2, h3⟩ := lle_st1 hL h1; rw [h2]; exact hK _ _ _ _ _ h3 he))
  | istore k => dsimp only [ystp, ys_iconst, ys_bipush, ys_sipush, ys_lconst, ys_ldc, ys_ldc_w, ys_ldc2_w, ys_iload_n, ys_iload, ys_lload_n, ys_lload, ys_aload_n, ys_aload, ys_istore_n, ys_istore, ys_lstore_n, ys_lstore, ys_astore_n, ys_astore, ys_iinc, ys_iadd, ys_isub, ys_imul, ys_iand, ys_ior, ys_ixor, ys_ishl, ys_ishr, ys_idiv, ys_irem, ys_ladd, ys_lsub, ys_lmul, ys_ldiv, ys_lrem, ys_lcmp, ys_i2l, ys_i2b, ys_i2s, ys_dup, ys_dup2, ys_pop, ys_goto, ys_ifCond_eq, ys_ifCond_ne, ys_ifCond_lt, ys_ifCond_ge, ys_ifCond_gt, ys_ifCond_le, ys_if_icmp_eq, ys_if_icmp_ne, ys_if_icmp_lt, ys_if_icmp_ge, ys_if_icmp_gt, ys_if_icmp_le, ys_tableswitch, ys_lookupswitch, ys_iaload, ys_laload, ys_arraylength, ys_iastore, ys_aaload, ys_getfield, ys_putfield, ys_invokevirtual, ys_invokestatic, ys_invokespecial, ys_return_, ys_ireturn, ys_lreturn] at he; split at he <;> first | (cases he; done) | (dsimp only [xstp]; split at he <;> first | (cases he; done) | (rename_i L1 h1; obtain ⟨L1', h2, h3⟩ := lle_st1 hL h1; rw [h2]; exact hK _ _ _ _ _ h3 he))
  | astore_n k => dsimp only [ystp, ys_iconst, ys_bipush, ys_sipush, ys_lconst, ys_ldc, ys_ldc_w, ys_ldc2_w, ys_iload_n, ys_iload, ys_lload_n, ys_lload, ys_aload_n, ys_aload, ys_istore_n, ys_istore, ys_lstore_n, ys_lstore, ys_astore_n, ys_astore, ys_iinc, ys_iadd, ys_isub, ys_imul, ys_iand, ys_ior, ys_ixor, ys_ishl, ys_ishr, ys_idiv, ys_irem, ys_ladd, ys_lsub, ys_lmul, ys_ldiv, ys_lrem, ys_lcmp, ys_i2l, ys_i2b, ys_i2s, ys_dup, ys_dup2, ys_pop, ys_goto, ys_ifCond_eq, ys_ifCond_ne, ys_ifCond_lt, ys_ifCond_ge, ys_ifCond_gt, ys_ifCond_le, ys_if_icmp_eq, ys_if_icmp_ne, ys_if_icmp_lt, ys_if_icmp_ge, ys_if_icmp_gt, ys_if_icmp_le, ys_tableswitch, ys_lookupswitch, ys_iaload, ys_laload, ys_arraylength, ys_iastore, ys_aaload, ys_getfield, ys_putfield, ys_invokevirtual, ys_invokestatic, ys_invokespecial, ys_return_, ys_ireturn, ys_lreturn] at he; split at he <;> first | (cases he; done) | (dsimp only [xstp]; split at he <;> first | (cases he; done) | (rename_i L1 h1; obtain ⟨L1', h2, h3⟩ := lle_st1 hL h1; rw [h2]; exact hK _ _ _ _ _ h3 he))
  | astore k => dsimp only [ystp, ys_iconst, ys_bipush, ys_sipush, ys_lconst, ys_ldc, ys_ldc_w, ys_ldc2_w, ys_iload_n, ys_iload, ys_lload_n, ys_lload, ys_aload_n, ys_aload, ys_istore_n, ys_istore, ys_lstore_n, ys_lstore, ys_astore_n, ys_astore, ys_iinc, ys_iadd, ys_isub, ys_imul, ys_iand, ys_ior, ys_ixor, ys_ishl, ys_ishr, ys_idiv, ys_irem, ys_ladd, ys_lsub, ys_lmul, ys_ldiv, ys_lrem, ys_lcmp, ys_i2l, ys_i2b, ys_i2s, ys_dup, ys_dup2, ys_pop, ys_goto, ys_ifCond_eq, ys_ifCond_ne, ys_ifCond_lt, ys_ifCond_ge, ys_ifCond_gt, ys_ifCond_le, ys_if_icmp_eq, ys_if_icmp_ne, ys_if_icmp_lt, ys_if_icmp_ge, ys_if_icmp_gt, ys_if_icmp_le, ys_tableswitch, ys_lookupswitch, ys_iaload, ys_laload, ys_arraylength, ys_iastore, ys_aaload, ys_getfield, ys_putfield, ys_invokevirtual, ys_invokestatic, ys_invokespecial, ys_return_, ys_ireturn, ys_lreturn] at he; split at he <;> first | (cases he; done) | (dsimp only [xstp]; split at he <;> first | (cases he; done) | (rename_i L1 h1; obtain ⟨L1', h2, h3⟩ := lle_st1 hL h1; rw [h2]; exact hK _ _ _ _ _ h3 he))
  | lstore_n k => dsimp only [ystp, ys_iconst, ys_bipush, ys_sipush, ys_lconst, ys_ldc, ys_ldc_w, ys_ldc2_w, ys_iload_n, ys_iload, ys_lload_n, ys_lload, ys_aload_n, ys_aload, ys_istore_n, ys_istore, ys_lstore_n, ys_lstore, ys_astore_n, ys_astore, ys_iinc, ys_iadd, ys_isub, ys_imul, ys_iand, ys_ior, ys_ixor, ys_ishl, ys_ishr, ys_idiv, ys_irem, ys_ladd, ys_lsub, ys_lmul, ys_ldiv, ys_lrem, ys_lcmp, ys_i2l, ys_i2b, ys_i2s, ys_dup, ys_dup2, ys_pop, ys_goto, ys_ifCond_eq, ys_ifCond_ne, ys_ifCond_lt, ys_ifCond_ge, ys_ifCond_gt, ys_ifCond_le, ys_if_icmp_eq, ys_if_icmp_ne, ys_if_icmp_lt, ys_if_icmp_ge, ys_if_icmp_gt, ys_if_icmp_le, ys_tableswitch, ys_lookupswitch, ys_iaload, ys_laload, ys_arraylength, ys_iastore, ys_aaload, ys_getfield, ys_putfield, ys_invokevirtual, ys_invokestatic, ys_invokespecial, ys_return_, ys_ireturn, ys_lreturn] at he; split at he <;> first | (cases he; done) | (dsimp only [xstp]; split at he <;> first | (cases he; done) | (rename_i L1 h1; obtain ⟨L1', h2, h3⟩ := lle_st2 hL h1; rw [h2]; exact hK _ _ _ _ _ h3 he))
  | lstore k => dsimp only [ystp, ys_iconst, ys_bipush, ys_sipush, ys_lconst, ys_ldc, ys_ldc_w, ys_ldc2_w, ys_iload_n, ys_iload, ys_lload_n, ys_lload, ys_aload_n, ys_aload, ys_istore_n, ys_istore, ys_lstore_n, ys_lstore, ys_astore_n, ys_astore, ys_iinc, ys_iadd, ys_isub, ys_imul, ys_iand, ys_ior, ys_ixor, ys_ishl, ys_ishr, ys_idiv, ys_irem, ys_ladd, ys_lsub, ys_lmul, ys_ldiv, ys_lrem, ys_lcmp, ys_i2l, ys_i2b, ys_i2s, ys_dup, ys_dup2, ys_pop, ys_goto, ys_ifCond_eq, ys_ifCond_ne, ys_ifCond_lt, ys_ifCond_ge, ys_ifCond_gt, ys_ifCond_le, ys_if_icmp_eq, ys_if_icmp_ne, ys_if_icmp_lt, ys_if_icmp_ge, ys_if_icmp_gt, ys_if_icmp_le, ys_tableswitch, ys_lookupswitch, ys_iaload, ys_laload, ys_arraylength, ys_iastore, ys_aaload, ys_getfield, ys_putfield, ys_invokevirtual, ys_invokestatic, ys_invokespecial, ys_return_, ys_ireturn, ys_lreturn] at he; split at he <;> first | (cases he; done) | (dsimp only [xstp]; split at he <;> first | (cases he; done) | (rename_i L1 h1; obtain ⟨L1', h2, h3⟩ := lle_st2 hL h1; rw [h2]; exact hK _ _ _ _ _ h3 he))
  | idiv => dsimp only [ystp, ys_iconst, ys_bipush, ys_sipush, ys_lconst, ys_ldc, ys_ldc_w, ys_ldc2_w, ys_iload_n, ys_iload, ys_lload_n, ys_lload, ys_aload_n, ys_aload, ys_istore_n, ys_istore, ys_lstore_n, ys_lstore, ys_astore_n, ys_astore, ys_iinc, ys_iadd, ys_isub, ys_imul, ys_iand, ys_ior, ys_ixor, ys_ishl, ys_ishr, ys_idiv, ys_irem, ys_ladd, ys_lsub, ys_lmul, ys_ldiv, ys_lrem, ys_lcmp, ys_i2l, ys_i2b, ys_i2s, ys_dup, ys_dup2, ys_pop, ys_goto, ys_ifCond_eq, ys_ifCond_ne, ys_ifCond_lt, ys_ifCond_ge, ys_ifCond_gt, ys_ifCond_le, ys_if_icmp_eq, ys_if_icmp_ne, ys_if_icmp_lt, ys_if_icmp_ge, ys_if_icmp_gt, ys_if_icmp_le, ys_tableswitch, ys_lookupswitch, ys_iaload, ys_laload, ys_arraylength, ys_iastore, ys_aaload, ys_getfield, ys_putfield, ys_invokevirtual, ys_invokestatic, ys_invokespecial, ys_return_, ys_ireturn, ys_lreturn] at he; split at he <;> first | (cases he; done) | (split at he <;> first | (cases he; done) | (rename_i hy; dsimp only [xstp]; rw [if_neg hy]; exact hK _ _ _ _ _ hL he))
  | irem => dsimp only [ystp, ys_iconst, ys_bipush, ys_sipush, ys_lconst, ys_ldc, ys_ldc_w, ys_ldc2_w, ys_iload_n, ys_iload, ys_lload_n, ys_lload, ys_aload_n, ys_aload, ys_istore_n, ys_istore, ys_lstore_n, ys_lstore, ys_astore_n, ys_astore, ys_iinc, ys_iadd, ys_isub, ys_imul, ys_iand, ys_ior, ys_ixor, ys_ishl, ys_ishr, ys_idiv, ys_irem, ys_ladd, ys_lsub, ys_lmul, ys_ldiv, ys_lrem, ys_lcmp, ys_i2l, ys_i2b, ys_i2s, ys_dup, ys_dup2, ys_pop, ys_goto, ys_ifCond_eq, ys_ifCond_ne, ys_ifCond_lt, ys_ifCond_ge, ys_ifCond_gt, ys_ifCond_le, ys_if_icmp_eq, ys_if_icmp_ne, ys_if_icmp_lt, ys_if_icmp_ge, ys_if_icmp_gt, ys_if_icmp_le, ys_tableswitch, ys_lookupswitch, ys_iaload, ys_laload, ys_arraylength, ys_iastore, ys_aaload, ys_getfield, ys_putfield, ys_invokevirtual, ys_invokestatic, ys_invokespecial, ys_return_, ys_ireturn, ys_lreturn] at he; split at he <;> first | (cases he; done) | (split at he <;> first | (cases he; done) | (rename_i hy; dsimp only [xstp]; rw [if_neg hy]; exact hK _ _ _ _ _ hL he))
  | ldiv => dsimp only [ystp, ys_iconst, ys_bipush, ys_sipush, ys_lconst, ys_ldc, ys_ldc_w, ys_ldc2_w, ys_iload_n, ys_iload, ys_lload_n, ys_lload, ys_aload_n, ys_aload, ys_istore_n, ys_istore, ys_lstore_n, ys_lstore, ys_astore_n, ys_astore, ys_iinc, ys_iadd, ys_isub, ys_imul, ys_iand, ys_ior, ys_ixor, ys_ishl, ys_ishr, ys_idiv, ys_irem, ys_ladd, ys_lsub, ys_lmul, ys_ldiv, ys_lrem, ys_lcmp, ys_i2l, ys_i2b, ys_i2s, ys_dup, ys_dup2, ys_pop, ys_goto, ys_ifCond_eq, ys_ifCond_ne, ys_ifCond_lt, ys_ifCond_ge, ys_ifCond_gt, ys_ifCond_le, ys_if_icmp_eq, ys_if_icmp_ne, ys_if_icmp_lt, ys_if_icmp_ge, ys_if_icmp_gt, ys_if_icmp_le, ys_tableswitch, ys_lookupswitch, ys_iaload, ys_laload, ys_arraylength, ys_iastore, ys_aaload, ys_getfield, ys_putfield, ys_invokevirtual, ys_invokestatic, ys_invokespecial, ys_return_, ys_ireturn, ys_lreturn] at he; split at he <;> first | (cases he; done) | (split at he <;> first | (cases he; done) | (rename_i hy; dsimp only [xstp]; rw [if_neg hy]; exact hK _ _ _ _ _ hL he))
  | lrem => dsimp only [ystp, ys_iconst, ys_bipush, ys_sipush, ys_lconst, ys_ldc, ys_ldc_w, ys_ldc2_w, ys_iload_n, ys_iload, ys_lload_n, ys_lload, ys_aload_n, ys_aload, ys_istore_n, ys_istore, ys_lstore_n, ys_lstore, ys_astore_n, ys_astore, ys_iinc, ys_iadd, ys_isub, ys_imul, ys_iand, ys_ior, ys_ixor, ys_ishl, ys_ishr, ys_idiv, ys_irem, ys_ladd, ys_lsub, ys_lmul, ys_ldiv, ys_lrem, ys_lcmp, ys_i2l, ys_i2b, ys_i2s, ys_dup, ys_dup2, ys_pop, ys_goto, ys_ifCond_eq, ys_ifCond_ne, ys_ifCond_lt, ys_ifCond_ge, ys_ifCond_gt, ys_ifCond_le, ys_if_icmp_eq, ys_if_icmp_ne, ys_if_icmp_lt, ys_if_icmp_ge, ys_if_icmp_gt, ys_if_icmp_le, ys_tableswitch, ys_lookupswitch, ys_iaload, ys_laload, ys_arraylength, ys_iastore, ys_aaload, ys_getfield, ys_putfield, ys_invokevirtual, ys_invokestatic, ys_invokespecial, ys_return_, ys_ireturn, ys_lreturn] at he; split at he <;> first | (cases he; done) | (split at he <;> first | (cases he; done) | (rename_i hy; dsimp only [xstp]; rw [if_neg hy]; exact hK _ _ _ _ _ hL he))
  | _ =>
    first
    | (cases he; done)
    | exact hK _ _ _ _ _ hL he
    | (dsimp only [ystp, ys_iconst, ys_bipush, ys_sipush, ys_lconst, ys_ldc, ys_ldc_w, ys_ldc2_w, ys_iload_n, ys_iload, ys_lload_n, ys_lload, ys_aload_n, ys_aload, ys_istore_n, ys_istore, ys_lstore_n, ys_lstore, ys_astore_n, ys_astore, ys_iinc, ys_iadd, ys_isub, ys_imul, ys_iand, ys_ior, ys_ixor, ys_ishl, ys_ishr, ys_idiv, ys_irem, ys_ladd, ys_lsub, ys_lmul, ys_ldiv, ys_lrem, ys_lcmp, ys_i2l, ys_i2b, ys_i2s, ys_dup, ys_dup2, ys_pop, ys_goto, ys_ifCond_eq, ys_ifCond_ne, ys_ifCond_lt, ys_ifCond_ge, ys_ifCond_gt, ys_ifCond_le, ys_if_icmp_eq, ys_if_icmp_ne, ys_if_icmp_lt, ys_if_icmp_ge, ys_if_icmp_gt, ys_if_icmp_le, ys_tableswitch, ys_lookupswitch, ys_iaload, ys_laload, ys_arraylength, ys_iastore, ys_aaload, ys_getfield, ys_putfield, ys_invokevirtual, ys_invokestatic, ys_invokespecial, ys_return_, ys_ireturn, ys_lreturn] at he; split at he <;> first | (cases he; done) | exact hK _ _ _ _ _ hL he)
end YS
theorem yrun_sim {c0 s0 : Nat} {E : yEnv} {E' : xEnv} {cd : Nat → Option Instr} {kl : Nat → Option (List Nat)} {r : Option Value} {A1 : yM} (hE : ySimE c0 s0 E E') : ∀ (n : Nat) (pc : Nat) (L L' : List (Option Value)) (st : List Value) (A : yM), lle L L' → yrun E cd kl n (pc, L, st, A) = some (r, A1) → xrun E' cd n (pc, L', st, yhs c0 s0 A) = some (r, yhs c0 s0 A1) := by
  intro n
  induction n with
  | zero => intro _ _ _ _ _ _ h; cases h
  | succ n ih =>
    intro pc L L' st A hL h
    cases hi : cd pc with
    | none => simp only [yrun, hi] at h; cases h
    | some i =>
      simp only [yrun, hi] at h
      simp only [xrun, hi]
      refine ystp_sim (fun pc L L' st A hL h => ?_) hE hL h
      unfold yk at h
      dsimp only at h
      split at h
      · exact ih _ _ _ _ _ hL h
      · exact ih _ _ _ _ _ (lle_kl hL _ _ hL) h
