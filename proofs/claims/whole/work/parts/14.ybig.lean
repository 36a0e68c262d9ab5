/-! runs of the memory machine without a bound, and their equations -/
def yone {ρ : Type} (X : (ySt → Option ρ) → Option ρ) : Prop := (∃ q', ∀ K, X K = K q') ∨ (∃ o, ∀ K, X K = o)
theorem yone_bind {ρ α : Type} (o : Option α) (f : α → (ySt → Option ρ) → Option ρ) (h : ∀ a, yone (f a)) : yone (fun K => o.bind (fun a => f a K)) := by
  cases o with
  | none => exact Or.inr ⟨none, fun _ => rfl⟩
  | some a => exact h a
theorem yone_K {ρ : Type} (q : ySt) : yone (fun K : ySt → Option ρ => K q) := Or.inl ⟨q, fun _ => rfl⟩
theorem yone_c {ρ : Type} (o : Option ρ) : yone (fun _ : ySt → Option ρ => o) := Or.inr ⟨o, fun _ => rfl⟩
theorem yone_sw {ρ : Type} (x : Int32) (d : Nat) (f : Nat → ySt) : ∀ (ps : List (Int × Nat)), yone (fun K : ySt → Option ρ => xsw x d (fun t => K (f t)) ps) := by
  intro ps
  induction ps with
  | nil => exact yone_K _
  | cons q r ih =>
    obtain ⟨a, t⟩ := q
    simp only [xsw]
    split
    · exact yone_K _
    · exact ih
theorem yone_cal {ρ : Type} (o : Option (Nat × yF)) (pc : Nat) (L : List (Option Value)) (st : List Value) (A : yM) : yone (fun K : ySt → Option ρ => ycal o pc L st A K) := by
  unfold ycal
  split
  · split
    · split
      · exact yone_bind _ (fun (h : yM) K => K _) (fun _ => yone_K _)
      · exact yone_bind _ (fun (r : Int32 × yM) K => K _) (fun _ => yone_K _)
      · exact yone_bind _ (fun (r : Int64 × yM) K => K _) (fun _ => yone_K _)
    · exact yone_c _
  · exact yone_c _
section YO
variable {ρ : Type} {A : yM} {a ci k : Nat} {i v : Int32}
theorem yone_gI (f : Int32 → ySt) : yone (fun K : ySt → Option ρ => ygI A a ci k (fun x => K (f x))) := by
  unfold ygI
  split
  · exact yone_K _
  · exact yone_c _
theorem yone_gR (f : Nat → ySt) : yone (fun K : ySt → Option ρ => ygR A a ci k (fun x => K (f x))) := by
  unfold ygR
  split
  · exact yone_K _
  · exact yone_c _
theorem yone_pI (f : yM → ySt) : yone (fun K : ySt → Option ρ => ypI A a ci k v (fun x => K (f x))) := by
  unfold ypI
  split
  · exact yone_K _
  · exact yone_c _
theorem yone_rd (f : Int32 → ySt) : yone (fun K : ySt → Option ρ => yrd A a i (fun x => K (f x))) := by
  unfold yrd
  split
  · split
    · exact yone_c _
    · exact yone_K _
  · exact yone_c _
theorem yone_wr (f : yM → ySt) : yone (fun K : ySt → Option ρ => ywr A a i v (fun x => K (f x))) := by
  unfold ywr
  split
  · split
    · exact yone_c _
    · exact yone_K _
  · exact yone_c _
theorem yone_rR (f : Nat → ySt) : yone (fun K : ySt → Option ρ => yrR A a i (fun x => K (f x))) := by
  unfold yrR
  split
  · split
    · exact yone_c _
    · split
      · exact yone_K _
      · exact yone_c _
  · exact yone_c _
theorem yone_rL (f : Int64 → ySt) : yone (fun K : ySt → Option ρ => yrL A a i (fun x => K (f x))) := by
  unfold yrL
  split
  · split
    · exact yone_c _
    · exact yone_K _
  · exact yone_c _
theorem yone_le (f : Int32 → ySt) : yone (fun K : ySt → Option ρ => yle A a (fun x => K (f x))) := by
  unfold yle
  split
  · exact yone_K _
  · exact yone_c _
end YO
set_option maxHeartbeats 4000000 in
theorem yone_stp {ρ : Type} (E : yEnv) (i : Instr) (pc : Nat) (L : List (Option Value)) (st : List Value) (A : yM) (KR : Option Value → yM → Option ρ) : yone (fun K : ySt → Option ρ => ystp E i pc L st A K KR) := by
  cases i with
  | invokevirtual n => exact yone_cal _ _ _ _ _
  | invokestatic n => exact yone_cal _ _ _ _ _
  | invokespecial n => exact yone_cal _ _ _ _ _
  | ifCond o off => cases o <;> dsimp only [ystp, ys_iconst, ys_bipush, ys_sipush, ys_lconst, ys_ldc, ys_ldc_w, ys_ldc2_w, ys_iload_n, ys_iload, ys_lload_n, ys_lload, ys_aload_n, ys_aload, ys_istore_n, ys_istore, ys_lstore_n, ys_lstore, ys_astore_n, ys_astore, ys_iinc, ys_iadd, ys_isub, ys_imul, ys_iand, ys_ior, ys_ixor, ys_ishl, ys_ishr, ys_idiv, ys_irem, ys_ladd, ys_lsub, ys_lmul, ys_ldiv, ys_lrem, ys_lcmp, ys_i2l, ys_i2b, ys_i2s, ys_dup, ys_dup2, ys_pop, ys_goto, ys_ifCond_eq, ys_ifCond_ne, ys_ifCond_lt, ys_ifCond_ge, ys_ifCond_gt, ys_ifCond_le, ys_if_icmp_eq, ys_if_icmp_ne, ys_if_icmp_lt, ys_if_icmp_ge, ys_if_icmp_gt, ys_if_icmp_le, ys_tableswitch, ys_lookupswitch, ys_iaload, ys_laload, ys_arraylength, ys_iastore, ys_aaload, ys_getfield, ys_putfield, ys_invokevirtual, ys_invokestatic, ys_invokespecial, ys_return_, ys_ireturn, ys_lreturn] <;> split <;> first | exact yone_c _ | (split <;> exact yone_K _)
  | if_icmp o off => cases o <;> dsimp only [ystp, ys_iconst, ys_bipush, ys_sipush, ys_lconst, ys_ldc, ys_ldc_w, ys_ldc2_w, ys_iload_n, ys_iload, ys_lload_n, ys_lload, ys_aload_n, ys_aload, ys_istore_n, ys_istore, ys_lstore_n, ys_lstore, ys_astore_n, ys_astore, ys_iinc, ys_iadd, ys_isub, ys_imul, ys_iand, ys_ior, ys_ixor, ys_ishl, ys_ishr, ys_idiv, ys_irem, ys_ladd, ys_lsub, ys_lmul, ys_ldiv, ys_lrem, ys_lcmp, ys_i2l, ys_i2b, ys_i2s, ys_dup, ys_dup2, ys_pop, ys_goto, ys_ifCond_eq, ys_ifCond_ne, ys_ifCond_lt, ys_ifCond_ge, ys_ifCond_gt, ys_ifCond_le, ys_if_icmp_eq, ys_if_icmp_ne, ys_if_icmp_lt, ys_if_icmp_ge, ys_if_icmp_gt, ys_if_icmp_le, ys_tableswitch, ys_lookupswitch, ys_iaload, ys_laload, ys_arraylength, ys_iastore, ys_aaload, ys_getfield, ys_putfield, ys_invokevirtual, ys_invokestatic, ys_invokespecial, ys_return_, ys_ireturn, ys_lreturn] <;> split <;> first | exact yone_c _ | (split <;> exact yone_K _)
  | tableswitch d lo hi offs => dsimp only [ystp, ys_iconst, ys_bipush, ys_sipush, ys_lconst, ys_ldc, ys_ldc_w, ys_ldc2_w, ys_iload_n, ys_iload, ys_lload_n, ys_lload, ys_aload_n, ys_aload, ys_istore_n, ys_istore, ys_lstore_n, ys_lstore, ys_astore_n, ys_astore, ys_iinc, ys_iadd, ys_isub, ys_imul, ys_iand, ys_ior, ys_ixor, ys_ishl, ys_ishr, ys_idiv, ys_irem, ys_ladd, ys_lsub, ys_lmul, ys_ldiv, ys_lrem, ys_lcmp, ys_i2l, ys_i2b, ys_i2s, ys_dup, ys_dup2, ys_pop, ys_goto, ys_ifCond_eq, ys_ifCond_ne, ys_ifCond_lt, ys_ifCond_ge, ys_ifCond_gt, ys_ifCond_le, ys_if_icmp_eq, ys_if_icmp_ne, ys_if_icmp_lt, ys_if_icmp_ge, ys_if_icmp_gt, ys_if_icmp_le, ys_tableswitch, ys_lookupswitch, ys_iaload, ys_laload, ys_arraylength, ys_iastore, ys_aaload, ys_getfield, ys_putfield, ys_invokevirtual, ys_invokestatic, ys_invokespecial, ys_return_, ys_ireturn, ys_lreturn]; split <;> first | exact yone_c _ | exact yone_sw _ _ _ _
  | lookupswitch d ps => dsimp only [ystp, ys_iconst, ys_bipush, ys_sipush, ys_lconst, ys_ldc, ys_ldc_w, ys_ldc2_w, ys_iload_n, ys_iload, ys_lload_n, ys_lload, ys_aload_n, ys_aload, ys_istore_n, ys_istore, ys_lstore_n, ys_lstore, ys_astore_n, ys_astore, ys_iinc, ys_iadd, ys_isub, ys_imul, ys_iand, ys_ior, ys_ixor, ys_ishl, ys_ishr, ys_idiv, ys_irem, ys_ladd, ys_lsub, ys_lmul, ys_ldiv, ys_lrem, ys_lcmp, ys_i2l, ys_i2b, ys_i2s, ys_dup, ys_dup2, ys_pop, ys_goto, ys_ifCond_eq, ys_ifCond_ne, ys_ifCond_lt, ys_ifCond_ge, ys_ifCond_gt, ys_ifCond_le, ys_if_icmp_eq, ys_if_icmp_ne, ys_if_icmp_lt, ys_if_icmp_ge, ys_if_icmp_gt, ys_if_icmp_le, ys_tableswitch, ys_lookupswitch, ys_iaload, ys_laload, ys_arraylength, ys_iastore, ys_aaload, ys_getfield, ys_putfield, ys_invokevirtual, ys_invokestatic, ys_invokespecial, ys_return_, ys_ireturn, ys_lreturn]; split <;> first | exact yone_c _ | exact yone_sw _ _ _ _
  | iaload => dsimp only [ystp, ys_iconst, ys_bipush, ys_sipush, ys_lconst, ys_ldc, ys_ldc_w, ys_ldc2_w, ys_iload_n, ys_iload, ys_lload_n, ys_lload, ys_aload_n, ys_aload, ys_istore_n, ys_istore, ys_lstore_n, ys_lstore, ys_astore_n, ys_astore, ys_iinc, ys_iadd, ys_isub, ys_imul, ys_iand, ys_ior, ys_ixor, ys_ishl, ys_ishr, ys_idiv, ys_irem, ys_ladd, ys_lsub, ys_lmul, ys_ldiv, ys_lrem, ys_lcmp, ys_i2l, ys_i2b, ys_i2s, ys_dup, ys_dup2, ys_pop, ys_goto, ys_ifCond_eq, ys_ifCond_ne, ys_ifCond_lt, ys_ifCond_ge, ys_ifCond_gt, ys_ifCond_le, ys_if_icmp_eq, ys_if_icmp_ne, ys_if_icmp_lt, ys_if_icmp_ge, ys_if_icmp_gt, ys_if_icmp_le, ys_tableswitch, ys_lookupswitch, ys_iaload, ys_laload, ys_arraylength, ys_iastore, ys_aaload, ys_getfield, ys_putfield, ys_invokevirtual, ys_invokestatic, ys_invokespecial, ys_return_, ys_ireturn, ys_lreturn]; split <;> first | exact yone_c _ | exact yone_rd _
  | laload => dsimp only [ystp, ys_iconst, ys_bipush, ys_sipush, ys_lconst, ys_ldc, ys_ldc_w, ys_ldc2_w, ys_iload_n, ys_iload, ys_lload_n, ys_lload, ys_aload_n, ys_aload, ys_istore_n, ys_istore, ys_lstore_n, ys_lstore, ys_astore_n, ys_astore, ys_iinc, ys_iadd, ys_isub, ys_imul, ys_iand, ys_ior, ys_ixor, ys_ishl, ys_ishr, ys_idiv, ys_irem, ys_ladd, ys_lsub, ys_lmul, ys_ldiv, ys_lrem, ys_lcmp, ys_i2l, ys_i2b, ys_i2s, ys_dup, ys_dup2, ys_pop, ys_goto, ys_ifCond_eq, ys_ifCond_ne, ys_ifCond_lt, ys_ifCond_ge, ys_ifCond_gt, ys_ifCond_le, ys_if_icmp_eq, ys_if_icmp_ne, ys_if_icmp_lt, ys_if_icmp_ge, ys_if_icmp_gt, ys_if_icmp_le, ys_tableswitch, ys_lookupswitch, ys_iaload, ys_laload, ys_arraylength, ys_iastore, ys_aaload, ys_getfield, ys_putfield, ys_invokevirtual, ys_invokestatic, ys_invokespecial, ys_return_, ys_ireturn, ys_lreturn]; split <;> first | exact yone_c _ | exact yone_rL _
  | arraylength => dsimp only [ystp, ys_iconst, ys_bipush, ys_sipush, ys_lconst, ys_ldc, ys_ldc_w, ys_ldc2_w, ys_iload_n, ys_iload, ys_lload_n, ys_lload, ys_aload_n, ys_aload, ys_istore_n, ys_istore, ys_lstore_n, ys_lstore, ys_astore_n, ys_astore, ys_iinc, ys_iadd, ys_isub, ys_imul, ys_iand, ys_ior, ys_ixor, ys_ishl, ys_ishr, ys_idiv, ys_irem, ys_ladd, ys_lsub, ys_lmul, ys_ldiv, ys_lrem, ys_lcmp, ys_i2l, ys_i2b, ys_i2s, ys_dup, ys_dup2, ys_pop, ys_goto, ys_ifCond_eq, ys_ifCond_ne, ys_ifCond_lt, ys_ifCond_ge, ys_ifCond_gt, ys_ifCond_le, ys_if_icmp_eq, ys_if_icmp_ne, ys_if_icmp_lt, ys_if_icmp_ge, ys_if_icmp_gt, ys_if_icmp_le, ys_tableswitch, ys_lookupswitch, ys_iaload, ys_laload, ys_arraylength, ys_iastore, ys_aaload, ys_getfield, ys_putfield, ys_invokevirtual, ys_invokestatic, ys_invokespecial, ys_return_, ys_ireturn, ys_lreturn]; split <;> first | exact yone_c _ | exact yone_le _
  | aaload => dsimp only [ystp, ys_iconst, ys_bipush, ys_sipush, ys_lconst, ys_ldc, ys_ldc_w, ys_ldc2_w, ys_iload_n, ys_iload, ys_lload_n, ys_lload, ys_aload_n, ys_aload, ys_istore_n, ys_istore, ys_lstore_n, ys_lstore, ys_astore_n, ys_astore, ys_iinc, ys_iadd, ys_isub, ys_imul, ys_iand, ys_ior, ys_ixor, ys_ishl, ys_ishr, ys_idiv, ys_irem, ys_ladd, ys_lsub, ys_lmul, ys_ldiv, ys_lrem, ys_lcmp, ys_i2l, ys_i2b, ys_i2s, ys_dup, ys_dup2, ys_pop, ys_goto, ys_ifCond_eq, ys_ifCond_ne, ys_ifCond_lt, ys_ifCond_ge, ys_ifCond_gt, ys_ifCond_le, ys_if_icmp_eq, ys_if_icmp_ne, ys_if_icmp_lt, ys_if_icmp_ge, ys_if_icmp_gt, ys_if_icmp_le, ys_tableswitch, ys_lookupswitch, ys_iaload, ys_laload, ys_arraylength, ys_iastore, ys_aaload, ys_getfield, ys_putfield, ys_invokevirtual, ys_invokestatic, ys_invokespecial, ys_return_, ys_ireturn, ys_lreturn]; split <;> first | exact yone_c _ | exact yone_rR _
  | iastore => dsimp only [ystp, ys_iconst, ys_bipush, ys_sipush, ys_lconst, ys_ldc, ys_ldc_w, ys_ldc2_w, ys_iload_n, ys_iload, ys_lload_n, ys_lload, ys_aload_n, ys_aload, ys_istore_n, ys_istore, ys_lstore_n, ys_lstore, ys_astore_n, ys_astore, ys_iinc, ys_iadd, ys_isub, ys_imul, ys_iand, ys_ior, ys_ixor, ys_ishl, ys_ishr, ys_idiv, ys_irem, ys_ladd, ys_lsub, ys_lmul, ys_ldiv, ys_lrem, ys_lcmp, ys_i2l, ys_i2b, ys_i2s, ys_dup, ys_dup2, ys_pop, ys_goto, ys_ifCond_eq, ys_ifCond_ne, ys_ifCond_lt, ys_ifCond_ge, ys_ifCond_gt, ys_ifCond_le, ys_if_icmp_eq, ys_if_icmp_ne, ys_if_icmp_lt, ys_if_icmp_ge, ys_if_icmp_gt, ys_if_icmp_le, ys_tableswitch, ys_lookupswitch, ys_iaload, ys_laload, ys_arraylength, ys_iastore, ys_aaload, ys_getfield, ys_putfield, ys_invokevirtual, ys_invokestatic, ys_invokespecial, ys_return_, ys_ireturn, ys_lreturn]; split <;> first | exact yone_c _ | exact yone_wr _
  | getfield n =>
    dsimp only [ystp, ys_iconst, ys_bipush, ys_sipush, ys_lconst, ys_ldc, ys_ldc_w, ys_ldc2_w, ys_iload_n, ys_iload, ys_lload_n, ys_lload, ys_aload_n, ys_aload, ys_istore_n, ys_istore, ys_lstore_n, ys_lstore, ys_astore_n, ys_astore, ys_iinc, ys_iadd, ys_isub, ys_imul, ys_iand, ys_ior, ys_ixor, ys_ishl, ys_ishr, ys_idiv, ys_irem, ys_ladd, ys_lsub, ys_lmul, ys_ldiv, ys_lrem, ys_lcmp, ys_i2l, ys_i2b, ys_i2s, ys_dup, ys_dup2, ys_pop, ys_goto, ys_ifCond_eq, ys_ifCond_ne, ys_ifCond_lt, ys_ifCond_ge, ys_ifCond_gt, ys_ifCond_le, ys_if_icmp_eq, ys_if_icmp_ne, ys_if_icmp_lt, ys_if_icmp_ge, ys_if_icmp_gt, ys_if_icmp_le, ys_tableswitch, ys_lookupswitch, ys_iaload, ys_laload, ys_arraylength, ys_iastore, ys_aaload, ys_getfield, ys_putfield, ys_invokevirtual, ys_invokestatic, ys_invokespecial, ys_return_, ys_ireturn, ys_lreturn]
    split
    · exact yone_gR _
    · exact yone_gR _
    · exact yone_gI _
    · exact yone_c _
  | putfield n =>
    dsimp only [ystp, ys_iconst, ys_bipush, ys_sipush, ys_lconst, ys_ldc, ys_ldc_w, ys_ldc2_w, ys_iload_n, ys_iload, ys_lload_n, ys_lload, ys_aload_n, ys_aload, ys_istore_n, ys_istore, ys_lstore_n, ys_lstore, ys_astore_n, ys_astore, ys_iinc, ys_iadd, ys_isub, ys_imul, ys_iand, ys_ior, ys_ixor, ys_ishl, ys_ishr, ys_idiv, ys_irem, ys_ladd, ys_lsub, ys_lmul, ys_ldiv, ys_lrem, ys_lcmp, ys_i2l, ys_i2b, ys_i2s, ys_dup, ys_dup2, ys_pop, ys_goto, ys_ifCond_eq, ys_ifCond_ne, ys_ifCond_lt, ys_ifCond_ge, ys_ifCond_gt, ys_ifCond_le, ys_if_icmp_eq, ys_if_icmp_ne, ys_if_icmp_lt, ys_if_icmp_ge, ys_if_icmp_gt, ys_if_icmp_le, ys_tableswitch, ys_lookupswitch, ys_iaload, ys_laload, ys_arraylength, ys_iastore, ys_aaload, ys_getfield, ys_putfield, ys_invokevirtual, ys_invokestatic, ys_invokespecial, ys_return_, ys_ireturn, ys_lreturn]
    split
    · exact yone_pI _
    · split
      · exact yone_pI _
      · exact yone_c _
    · exact yone_c _
  | return_ => dsimp only [ystp, ys_iconst, ys_bipush, ys_sipush, ys_lconst, ys_ldc, ys_ldc_w, ys_ldc2_w, ys_iload_n, ys_iload, ys_lload_n, ys_lload, ys_aload_n, ys_aload, ys_istore_n, ys_istore, ys_lstore_n, ys_lstore, ys_astore_n, ys_astore, ys_iinc, ys_iadd, ys_isub, ys_imul, ys_iand, ys_ior, ys_ixor, ys_ishl, ys_ishr, ys_idiv, ys_irem, ys_ladd, ys_lsub, ys_lmul, ys_ldiv, ys_lrem, ys_lcmp, ys_i2l, ys_i2b, ys_i2s, ys_dup, ys_dup2, ys_pop, ys_goto, ys_ifCond_eq, ys_ifCond_ne, ys_ifCond_lt, ys_ifCond_ge, ys_ifCond_gt, ys_ifCond_le, ys_if_icmp_eq, ys_if_icmp_ne, ys_if_icmp_lt, ys_if_icmp_ge, ys_if_icmp_gt, ys_if_icmp_le, ys_tableswitch, ys_lookupswitch, ys_iaload, ys_laload, ys_arraylength, ys_iastore, ys_aaload, ys_getfield, ys_putfield, ys_invokevirtual, ys_invokestatic, ys_invokespecial, ys_return_, ys_ireturn, ys_lreturn]; split <;> exact yone_c _
  | ireturn => dsimp only [ystp, ys_iconst, ys_bipush, ys_sipush, ys_lconst, ys_ldc, ys_ldc_w, ys_ldc2_w, ys_iload_n, ys_iload, ys_lload_n, ys_lload, ys_aload_n, ys_aload, ys_istore_n, ys_istore, ys_lstore_n, ys_lstore, ys_astore_n, ys_astore, ys_iinc, ys_iadd, ys_isub, ys_imul, ys_iand, ys_ior, ys_ixor, ys_ishl, ys_ishr, ys_idiv, ys_irem, ys_ladd, ys_lsub, ys_lmul, ys_ldiv, ys_lrem, ys_lcmp, ys_i2l, ys_i2b, ys_i2s, ys_dup, ys_dup2, ys_pop, ys_goto, ys_ifCond_eq, ys_ifCond_ne, ys_ifCond_lt, ys_ifCond_ge, ys_ifCond_gt, ys_ifCond_le, ys_if_icmp_eq, ys_if_icmp_ne, ys_if_icmp_lt, ys_if_icmp_ge, ys_if_icmp_gt, ys_if_icmp_le, ys_tableswitch, ys_lookupswitch, ys_iaload, ys_laload, ys_arraylength, ys_iastore, ys_aaload, ys_getfield, ys_putfield, ys_invokevirtual, ys_invokestatic, ys_invokespecial, ys_return_, ys_ireturn, ys_lreturn]; split <;> first | exact yone_c _ | (split <;> exact yone_c _)
  | lreturn => dsimp only [ystp, ys_iconst, ys_bipush, ys_sipush, ys_lconst, ys_ldc, ys_ldc_w, ys_ldc2_w, ys_iload_n, ys_iload, ys_lload_n, ys_lload, ys_aload_n, ys_aload, ys_istore_n, ys_istore, ys_lstore_n, ys_lstore, ys_astore_n, ys_astore, ys_iinc, ys_iadd, ys_isub, ys_imul, ys_iand, ys_ior, ys_ixor, ys_ishl, ys_ishr, ys_idiv, ys_irem, ys_ladd, ys_lsub, ys_lmul, ys_ldiv, ys_lrem, ys_lcmp, ys_i2l, ys_i2b, ys_i2s, ys_dup, ys_dup2, ys_pop, ys_goto, ys_ifCond_eq, ys_ifCond_ne, ys_ifCond_lt, ys_ifCond_ge, ys_ifCond_gt, ys_ifCond_le, ys_if_icmp_eq, ys_if_icmp_ne, ys_if_icmp_lt, ys_if_icmp_ge, ys_if_icmp_gt, ys_if_icmp_le, ys_tableswitch, ys_lookupswitch, ys_iaload, ys_laload, ys_arraylength, ys_iastore, ys_aaload, ys_getfield, ys_putfield, ys_invokevirtual, ys_invokestatic, ys_invokespecial, ys_return_, ys_ireturn, ys_lreturn]; split <;> exact yone_c _
  | _ =>
    first
    | exact yone_c _
    | exact yone_K _
    | (dsimp only [ystp, ys_iconst, ys_bipush, ys_sipush, ys_lconst, ys_ldc, ys_ldc_w, ys_ldc2_w, ys_iload_n, ys_iload, ys_lload_n, ys_lload, ys_aload_n, ys_aload, ys_istore_n, ys_istore, ys_lstore_n, ys_lstore, ys_astore_n, ys_astore, ys_iinc, ys_iadd, ys_isub, ys_imul, ys_iand, ys_ior, ys_ixor, ys_ishl, ys_ishr, ys_idiv, ys_irem, ys_ladd, ys_lsub, ys_lmul, ys_ldiv, ys_lrem, ys_lcmp, ys_i2l, ys_i2b, ys_i2s, ys_dup, ys_dup2, ys_pop, ys_goto, ys_ifCond_eq, ys_ifCond_ne, ys_ifCond_lt, ys_ifCond_ge, ys_ifCond_gt, ys_ifCond_le, ys_if_icmp_eq, ys_if_icmp_ne, ys_if_icmp_lt, ys_if_icmp_ge, ys_if_icmp_gt, ys_if_icmp_le, ys_tableswitch, ys_lookupswitch, ys_iaload, ys_laload, ys_arraylength, ys_iastore, ys_aaload, ys_getfield, ys_putfield, ys_invokevirtual, ys_invokestatic, ys_invokespecial, ys_return_, ys_ireturn, ys_lreturn]; split <;> first | exact yone_c _ | exact yone_K _ | (split <;> first | exact yone_c _ | exact yone_K _))
theorem yone_k {ρ : Type} {X : (ySt → Option ρ) → Option ρ} (h : yone X) (g : ySt → ySt) : yone (fun K => X (fun q => K (g q))) := by
  rcases h with ⟨q', hq⟩ | ⟨o, ho⟩
  · exact Or.inl ⟨g q', fun K => hq _⟩
  · exact Or.inr ⟨o, fun K => ho _⟩
section YB
variable {E : yEnv} {cd : Nat → Option Instr} {kl : Nat → Option (List Nat)}
theorem yrun_eq {pc : Nat} {L : List (Option Value)} {st : List Value} {A : yM} {i : Instr} (hi : cd pc = some i) (n : Nat) : yrun E cd kl (n + 1) (pc, L, st, A) = ystp E i pc L st A (fun q' => yrun E cd kl n (yk kl q')) (fun r A => some (r, A)) := by simp only [yrun, hi]
theorem yrun_more {ρ : Option Value × yM} : ∀ (n : Nat) (q : ySt), yrun E cd kl n q = some ρ → yrun E cd kl (n + 1) q = some ρ := by
  intro n
  induction n with
  | zero => intro q h; cases h
  | succ n ih =>
    intro q h
    obtain ⟨pc, L, st, hh⟩ := q
    cases hi : cd pc with
    | none => simp only [yrun, hi] at h; cases h
    | some i =>
      rw [yrun_eq hi] at h ⊢
      rcases yone_stp E i pc L st hh (fun r A => some (r, A)) with ⟨q', hq⟩ | ⟨o, ho⟩
      · have h2 := (hq _).symm.trans h
        exact (hq _).trans (ih _ h2)
      · have h2 := (ho _).symm.trans h
        exact (ho _).trans h2
theorem yrun_le2 {ρ : Option Value × yM} {n : Nat} {q : ySt} (h : yrun E cd kl n q = some ρ) : ∀ k, yrun E cd kl (n + k) q = some ρ := by
  intro k
  induction k with
  | zero => exact h
  | succ k ih => exact yrun_more _ _ ih
theorem yrun_one {ρ ρ' : Option Value × yM} {n n' : Nat} {q : ySt} (h : yrun E cd kl n q = some ρ) (h' : yrun E cd kl n' q = some ρ') : ρ = ρ' := by
  have h1 := yrun_le2 h n'
  have h2 := yrun_le2 h' n
  rw [Nat.add_comm] at h2
  exact Option.some.inj (h1.symm.trans h2)
noncomputable def ybig (E : yEnv) (cd : Nat → Option Instr) (kl : Nat → Option (List Nat)) (q : ySt) : Option (Option Value × yM) :=
  @dite _ (∃ ρ n, yrun E cd kl n q = some ρ) (Classical.propDecidable _) (fun hq => some (Classical.choose hq)) (fun _ => none)
theorem ybig_of {ρ : Option Value × yM} {n : Nat} {q : ySt} (h : yrun E cd kl n q = some ρ) : ybig E cd kl q = some ρ := by
  have hq : ∃ ρ n, yrun E cd kl n q = some ρ := ⟨ρ, n, h⟩
  unfold ybig
  rw [dif_pos hq]
  obtain ⟨n', h'⟩ := Classical.choose_spec hq
  rw [yrun_one h' h]
theorem ybig_ex {ρ : Option Value × yM} {q : ySt} (h : ybig E cd kl q = some ρ) : ∃ n, yrun E cd kl n q = some ρ := by
  unfold ybig at h
  split at h
  · rename_i hq
    cases h
    exact Classical.choose_spec hq
  · cases h
theorem ybig_none {pc : Nat} {L : List (Option Value)} {st : List Value} {A : yM} (hi : cd pc = none) : ybig E cd kl (pc, L, st, A) = none := by
  cases hc : ybig E cd kl (pc, L, st, A) with
  | none => rfl
  | some ρ =>
    obtain ⟨n, hn⟩ := ybig_ex hc
    cases n with
    | zero => cases hn
    | succ n => simp only [yrun, hi] at hn; cases hn
theorem ybig_step {pc : Nat} {L : List (Option Value)} {st : List Value} {A : yM} {i : Instr} (hi : cd pc = some i) : ybig E cd kl (pc, L, st, A) = ystp E i pc L st A (fun q' => ybig E cd kl (yk kl q')) (fun r A => some (r, A)) := by
  rcases yone_k (yone_stp E i pc L st A (fun r A => some (r, A))) (yk kl) with ⟨q', hq⟩ | ⟨o, ho⟩
  · have e1 : ∀ n, yrun E cd kl (n + 1) (pc, L, st, A) = yrun E cd kl n q' := fun n => (yrun_eq hi n).trans (hq (yrun E cd kl n))
    refine Eq.trans ?_ (hq (ybig E cd kl)).symm
    cases hb : ybig E cd kl q' with
    | some ρ =>
      obtain ⟨n, hn⟩ := ybig_ex hb
      exact ybig_of ((e1 n).trans hn)
    | none =>
      cases hc : ybig E cd kl (pc, L, st, A) with
      | none => rfl
      | some ρ =>
        obtain ⟨n, hn⟩ := ybig_ex hc
        have hn := yrun_more _ _ hn
        rw [e1] at hn
        rw [ybig_of hn] at hb
        cases hb
  · have e1 : ∀ n, yrun E cd kl (n + 1) (pc, L, st, A) = o := fun n => (yrun_eq hi n).trans (ho (yrun E cd kl n))
    refine Eq.trans ?_ (ho (ybig E cd kl)).symm
    cases hc : ybig E cd kl (pc, L, st, A) with
    | some ρ =>
      obtain ⟨n, hn⟩ := ybig_ex hc
      have hn := yrun_more _ _ hn
      rw [e1] at hn
      exact hn.symm
    | none =>
      cases o with
      | none => rfl
      | some ρ => rw [ybig_of (e1 0)] at hc; cases hc
/-- a stretch of steps up to where ways meet -/
def yblk {ρ : Type} (E : yEnv) (cd : Nat → Option Instr) (kl : Nat → Option (List Nat)) (KR : Option Value → yM → Option ρ) (K : ySt → Option ρ) : Nat → ySt → Option ρ
  | 0, q => K q
  | n + 1, q => match cd q.1 with
    | none => none
    | some i => ystp E i q.1 q.2.1 q.2.2.1 q.2.2.2 (fun q' => match kl q'.1 with
      | some ks => K (q'.1, ks.foldl (fun L k => L.set k none) q'.2.1, q'.2.2)
      | none => yblk E cd kl KR K n q') KR
theorem yone_ext {ρ : Type} {X : (ySt → Option ρ) → Option ρ} (h : yone X) {K K' : ySt → Option ρ} (e : ∀ q, K q = K' q) : X K = X K' := by
  rcases h with ⟨q', hq⟩ | ⟨o, ho⟩
  · rw [hq, hq, e]
  · rw [ho, ho]
theorem ybig_blk : ∀ (n : Nat) (q : ySt), ybig E cd kl q = yblk E cd kl (fun r A => some (r, A)) (ybig E cd kl) n q := by
  intro n
  induction n with
  | zero => intro q; rfl
  | succ n ih =>
    intro q
    obtain ⟨pc, L, st, A⟩ := q
    simp only [yblk]
    cases hi : cd pc with
    | none => exact ybig_none hi
    | some i =>
      rw [ybig_step hi]
      refine yone_ext (yone_stp E i pc L st A _) (fun q => ?_)
      unfold yk
      cases kl q.1 with
      | some ks => rfl
      | none => exact ih q
end YB
