/-! stretches of steps, one by one: what a stretch comes to, put together from its end -/
section ZS
variable {ρ : Type} {E : yEnv} {cd : Nat → Option Instr} {kl : Nat → Option (List Nat)} {KR : Option Value → yM → Option ρ} {K : ySt → Option ρ} {n pc p p2 : Nat} {L L1 : List (Option Value)} {st : List Value} {A : yM} {T T2 : Option ρ}
def yw (E : yEnv) (cd : Nat → Option Instr) (kl : Nat → Option (List Nat)) (KR : Option Value → yM → Option ρ) (K : ySt → Option ρ) (n : Nat) (q' : ySt) : Option ρ := match kl q'.1 with
  | some ks => K (q'.1, ks.foldl (fun L k => L.set k none) q'.2.1, q'.2.2)
  | none => yblk E cd kl KR K n q'
theorem yblk_s {i : Instr} (h : cd pc = some i) : yblk E cd kl KR K (n + 1) (pc, L, st, A) = ystp E i pc L st A (yw E cd kl KR K n) KR := by
  simp only [yblk, h]
  rfl
theorem zgo (hk : kl p = none) (h : yblk E cd kl KR K n (p, L, st, A) = T) : yw E cd kl KR K n (p, L, st, A) = T := by
  unfold yw
  dsimp only
  rw [hk]
  exact h
theorem zcut {ks : List Nat} (hk : kl p = some ks) (hL : ks.foldl (fun L k => L.set k none) L = L1) : yw E cd kl KR K n (p, L, st, A) = K (p, L1, st, A) := by
  unfold yw
  dsimp only
  rw [hk]
  dsimp only
  rw [hL]
section ONE
variable {x y v : Int32} {w z u : Int64} {a b j ci k : Nat}
theorem z_iconst {i : Int} (hc : cd pc = some (.iconst i)) (hv : Int32.ofInt i = v) (hp : pc + 1 = p) (h : yw E cd kl KR K n (p, L, .int v :: st, A) = T) : yblk E cd kl KR K (n + 1) (pc, L, st, A) = T := by
  subst hv hp; rw [yblk_s hc]; exact h
theorem z_bipush {i : Int} (hc : cd pc = some (.bipush i)) (hv : (Int8.ofInt i).toInt32 = v) (hp : pc + 2 = p) (h : yw E cd kl KR K n (p, L, .int v :: st, A) = T) : yblk E cd kl KR K (n + 1) (pc, L, st, A) = T := by
  subst hv hp; rw [yblk_s hc]; exact h
theorem z_sipush {i : Int} (hc : cd pc = some (.sipush i)) (hv : (Int16.ofInt i).toInt32 = v) (hp : pc + 3 = p) (h : yw E cd kl KR K n (p, L, .int v :: st, A) = T) : yblk E cd kl KR K (n + 1) (pc, L, st, A) = T := by
  subst hv hp; rw [yblk_s hc]; exact h
theorem z_lconst {i : Fin 2} (hc : cd pc = some (.lconst i)) (hv : Int64.ofNat (i : Nat) = w) (hp : pc + 1 = p) (h : yw E cd kl KR K n (p, L, .long w :: st, A) = T) : yblk E cd kl KR K (n + 1) (pc, L, st, A) = T := by
  subst hv hp; rw [yblk_s hc]; exact h
theorem z_ldc (hc : cd pc = some (.ldc k)) (hv : E.2.1 k = some (.inl v)) (hp : pc + 2 = p) (h : yw E cd kl KR K n (p, L, .int v :: st, A) = T) : yblk E cd kl KR K (n + 1) (pc, L, st, A) = T := by
  subst hp; rw [yblk_s hc]; dsimp only [ystp, ys_ldc]; rw [hv]; exact h
theorem z_ldc_w (hc : cd pc = some (.ldc_w k)) (hv : E.2.1 k = some (.inl v)) (hp : pc + 3 = p) (h : yw E cd kl KR K n (p, L, .int v :: st, A) = T) : yblk E cd kl KR K (n + 1) (pc, L, st, A) = T := by
  subst hp; rw [yblk_s hc]; dsimp only [ystp, ys_ldc_w]; rw [hv]; exact h
theorem z_ldc2_w (hc : cd pc = some (.ldc2_w k)) (hv : E.2.1 k = some (.inr w)) (hp : pc + 3 = p) (h : yw E cd kl KR K n (p, L, .long w :: st, A) = T) : yblk E cd kl KR K (n + 1) (pc, L, st, A) = T := by
  subst hp; rw [yblk_s hc]; dsimp only [ystp, ys_ldc2_w]; rw [hv]; exact h
theorem z_iload_n {i : Fin 4} (hc : cd pc = some (.iload_n i)) (hi : (i : Nat) = j) (hL : L[j]? = some (some (.int x))) (hp : pc + 1 = p) (h : yw E cd kl KR K n (p, L, .int x :: st, A) = T) : yblk E cd kl KR K (n + 1) (pc, L, st, A) = T := by
  subst hi hp; rw [yblk_s hc]; dsimp only [ystp, ys_iload_n]; rw [hL]; exact h
theorem z_lload_n {i : Fin 4} (hc : cd pc = some (.lload_n i)) (hi : (i : Nat) = j) (hL : L[j]? = some (some (.long w))) (hp : pc + 1 = p) (h : yw E cd kl KR K n (p, L, .long w :: st, A) = T) : yblk E cd kl KR K (n + 1) (pc, L, st, A) = T := by
  subst hi hp; rw [yblk_s hc]; dsimp only [ystp, ys_lload_n]; rw [hL]; exact h
theorem z_aload_n {i : Fin 4} (hc : cd pc = some (.aload_n i)) (hi : (i : Nat) = j) (hL : L[j]? = some (some (.ref a))) (hp : pc + 1 = p) (h : yw E cd kl KR K n (p, L, .ref a :: st, A) = T) : yblk E cd kl KR K (n + 1) (pc, L, st, A) = T := by
  subst hi hp; rw [yblk_s hc]; dsimp only [ystp, ys_aload_n]; rw [hL]; exact h
theorem z_iload (hc : cd pc = some (.iload j)) (hL : L[j]? = some (some (.int x))) (hp : pc + 2 = p) (h : yw E cd kl KR K n (p, L, .int x :: st, A) = T) : yblk E cd kl KR K (n + 1) (pc, L, st, A) = T := by
  subst hp; rw [yblk_s hc]; dsimp only [ystp, ys_iload]; rw [hL]; exact h
theorem z_lload (hc : cd pc = some (.lload j)) (hL : L[j]? = some (some (.long w))) (hp : pc + 2 = p) (h : yw E cd kl KR K n (p, L, .long w :: st, A) = T) : yblk E cd kl KR K (n + 1) (pc, L, st, A) = T := by
  subst hp; rw [yblk_s hc]; dsimp only [ystp, ys_lload]; rw [hL]; exact h
theorem z_aload (hc : cd pc = some (.aload j)) (hL : L[j]? = some (some (.ref a))) (hp : pc + 2 = p) (h : yw E cd kl KR K n (p, L, .ref a :: st, A) = T) : yblk E cd kl KR K (n + 1) (pc, L, st, A) = T := by
  subst hp; rw [yblk_s hc]; dsimp only [ystp, ys_aload]; rw [hL]; exact h
theorem z_istore_n {i : Fin 4} (hc : cd pc = some (.istore_n i)) (hi : (i : Nat) = j) (hL : xst1 L j (.int x) = some L1) (hp : pc + 1 = p) (h : yw E cd kl KR K n (p, L1, st, A) = T) : yblk E cd kl KR K (n + 1) (pc, L, .int x :: st, A) = T := by
  subst hi hp; rw [yblk_s hc]; dsimp only [ystp, ys_istore_n]; rw [hL]; exact h
theorem z_lstore_n {i : Fin 4} (hc : cd pc = some (.lstore_n i)) (hi : (i : Nat) = j) (hL : xst2 L j (.long w) = some L1) (hp : pc + 1 = p) (h : yw E cd kl KR K n (p, L1, st, A) = T) : yblk E cd kl KR K (n + 1) (pc, L, .long w :: st, A) = T := by
  subst hi hp; rw [yblk_s hc]; dsimp only [ystp, ys_lstore_n]; rw [hL]; exact h
theorem z_astore_n {i : Fin 4} (hc : cd pc = some (.astore_n i)) (hi : (i : Nat) = j) (hL : xst1 L j (.ref a) = some L1) (hp : pc + 1 = p) (h : yw E cd kl KR K n (p, L1, st, A) = T) : yblk E cd kl KR K (n + 1) (pc, L, .ref a :: st, A) = T := by
  subst hi hp; rw [yblk_s hc]; dsimp only [ystp, ys_astore_n]; rw [hL]; exact h
theorem z_istore (hc : cd pc = some (.istore j)) (hL : xst1 L j (.int x) = some L1) (hp : pc + 2 = p) (h : yw E cd kl KR K n (p, L1, st, A) = T) : yblk E cd kl KR K (n + 1) (pc, L, .int x :: st, A) = T := by
  subst hp; rw [yblk_s hc]; dsimp only [ystp, ys_istore]; rw [hL]; exact h
theorem z_lstore (hc : cd pc = some (.lstore j)) (hL : xst2 L j (.long w) = some L1) (hp : pc + 2 = p) (h : yw E cd kl KR K n (p, L1, st, A) = T) : yblk E cd kl KR K (n + 1) (pc, L, .long w :: st, A) = T := by
  subst hp; rw [yblk_s hc]; dsimp only [ystp, ys_lstore]; rw [hL]; exact h
theorem z_astore (hc : cd pc = some (.astore j)) (hL : xst1 L j (.ref a) = some L1) (hp : pc + 2 = p) (h : yw E cd kl KR K n (p, L1, st, A) = T) : yblk E cd kl KR K (n + 1) (pc, L, .ref a :: st, A) = T := by
  subst hp; rw [yblk_s hc]; dsimp only [ystp, ys_astore]; rw [hL]; exact h
theorem z_iinc {i : Int} (hc : cd pc = some (.iinc j i)) (hv : Int32.ofInt i = v) (hL : L[j]? = some (some (.int x))) (hL1 : xst1 L j (.int (x + v)) = some L1) (hp : pc + 3 = p) (h : yw E cd kl KR K n (p, L1, st, A) = T) : yblk E cd kl KR K (n + 1) (pc, L, st, A) = T := by
  subst hv hp; rw [yblk_s hc]; show ys_iinc E pc L st A _ KR j i = T; unfold ys_iinc; rw [hL]; dsimp only; rw [hL1]; exact h
theorem z_iadd (hc : cd pc = some .iadd) (hp : pc + 1 = p) (h : yw E cd kl KR K n (p, L, .int (x + y) :: st, A) = T) : yblk E cd kl KR K (n + 1) (pc, L, .int y :: .int x :: st, A) = T := by
  subst hp; rw [yblk_s hc]; exact h
theorem z_isub (hc : cd pc = some .isub) (hp : pc + 1 = p) (h : yw E cd kl KR K n (p, L, .int (x - y) :: st, A) = T) : yblk E cd kl KR K (n + 1) (pc, L, .int y :: .int x :: st, A) = T := by
  subst hp; rw [yblk_s hc]; exact h
theorem z_imul (hc : cd pc = some .imul) (hp : pc + 1 = p) (h : yw E cd kl KR K n (p, L, .int (x * y) :: st, A) = T) : yblk E cd kl KR K (n + 1) (pc, L, .int y :: .int x :: st, A) = T := by
  subst hp; rw [yblk_s hc]; exact h
theorem z_iand (hc : cd pc = some .iand) (hp : pc + 1 = p) (h : yw E cd kl KR K n (p, L, .int (x &&& y) :: st, A) = T) : yblk E cd kl KR K (n + 1) (pc, L, .int y :: .int x :: st, A) = T := by
  subst hp; rw [yblk_s hc]; exact h
theorem z_ior (hc : cd pc = some .ior) (hp : pc + 1 = p) (h : yw E cd kl KR K n (p, L, .int (x ||| y) :: st, A) = T) : yblk E cd kl KR K (n + 1) (pc, L, .int y :: .int x :: st, A) = T := by
  subst hp; rw [yblk_s hc]; exact h
theorem z_ixor (hc : cd pc = some .ixor) (hp : pc + 1 = p) (h : yw E cd kl KR K n (p, L, .int (x ^^^ y) :: st, A) = T) : yblk E cd kl KR K (n + 1) (pc, L, .int y :: .int x :: st, A) = T := by
  subst hp; rw [yblk_s hc]; exact h
theorem z_ishl (hc : cd pc = some .ishl) (hp : pc + 1 = p) (h : yw E cd kl KR K n (p, L, .int (x <<< (y &&& 31)) :: st, A) = T) : yblk E cd kl KR K (n + 1) (pc, L, .int y :: .int x :: st, A) = T := by
  subst hp; rw [yblk_s hc]; exact h
theorem z_ishr (hc : cd pc = some .ishr) (hp : pc + 1 = p) (h : yw E cd kl KR K n (p, L, .int (x >>> (y &&& 31)) :: st, A) = T) : yblk E cd kl KR K (n + 1) (pc, L, .int y :: .int x :: st, A) = T := by
  subst hp; rw [yblk_s hc]; exact h
theorem z_ladd (hc : cd pc = some .ladd) (hp : pc + 1 = p) (h : yw E cd kl KR K n (p, L, .long (w + z) :: st, A) = T) : yblk E cd kl KR K (n + 1) (pc, L, .long z :: .long w :: st, A) = T := by
  subst hp; rw [yblk_s hc]; exact h
theorem z_lsub (hc : cd pc = some .lsub) (hp : pc + 1 = p) (h : yw E cd kl KR K n (p, L, .long (w - z) :: st, A) = T) : yblk E cd kl KR K (n + 1) (pc, L, .long z :: .long w :: st, A) = T := by
  subst hp; rw [yblk_s hc]; exact h
theorem z_lmul (hc : cd pc = some .lmul) (hp : pc + 1 = p) (h : yw E cd kl KR K n (p, L, .long (w * z) :: st, A) = T) : yblk E cd kl KR K (n + 1) (pc, L, .long z :: .long w :: st, A) = T := by
  subst hp; rw [yblk_s hc]; exact h
theorem z_idiv (hc : cd pc = some .idiv) (hp : pc + 1 = p) (h : yw E cd kl KR K n (p, L, .int (x / y) :: st, A) = T) : yblk E cd kl KR K (n + 1) (pc, L, .int y :: .int x :: st, A) = (if y = 0 then none else T) := by
  subst hp; rw [yblk_s hc, ← h]; rfl
theorem z_irem (hc : cd pc = some .irem) (hp : pc + 1 = p) (h : yw E cd kl KR K n (p, L, .int (x - x / y * y) :: st, A) = T) : yblk E cd kl KR K (n + 1) (pc, L, .int y :: .int x :: st, A) = (if y = 0 then none else T) := by
  subst hp; rw [yblk_s hc, ← h]; rfl
theorem z_ldiv (hc : cd pc = some .ldiv) (hp : pc + 1 = p) (h : yw E cd kl KR K n (p, L, .long (w / z) :: st, A) = T) : yblk E cd kl KR K (n + 1) (pc, L, .long z :: .long w :: st, A) = (if z = 0 then none else T) := by
  subst hp; rw [yblk_s hc, ← h]; rfl
theorem z_lrem (hc : cd pc = some .lrem) (hp : pc + 1 = p) (h : yw E cd kl KR K n (p, L, .long (w - w / z * z) :: st, A) = T) : yblk E cd kl KR K (n + 1) (pc, L, .long z :: .long w :: st, A) = (if z = 0 then none else T) := by
  subst hp; rw [yblk_s hc, ← h]; rfl
theorem z_lcmp (hc : cd pc = some .lcmp) (hp : pc + 1 = p) (h : yw E cd kl KR K n (p, L, .int (lg_cmp w z) :: st, A) = T) : yblk E cd kl KR K (n + 1) (pc, L, .long z :: .long w :: st, A) = T := by
  subst hp; rw [yblk_s hc]; exact h
theorem z_i2l (hc : cd pc = some .i2l) (hp : pc + 1 = p) (h : yw E cd kl KR K n (p, L, .long x.toInt64 :: st, A) = T) : yblk E cd kl KR K (n + 1) (pc, L, .int x :: st, A) = T := by
  subst hp; rw [yblk_s hc]; exact h
theorem z_i2b (hc : cd pc = some .i2b) (hp : pc + 1 = p) (h : yw E cd kl KR K n (p, L, .int x.toInt8.toInt32 :: st, A) = T) : yblk E cd kl KR K (n + 1) (pc, L, .int x :: st, A) = T := by
  subst hp; rw [yblk_s hc]; exact h
theorem z_i2s (hc : cd pc = some .i2s) (hp : pc + 1 = p) (h : yw E cd kl KR K n (p, L, .int x.toInt16.toInt32 :: st, A) = T) : yblk E cd kl KR K (n + 1) (pc, L, .int x :: st, A) = T := by
  subst hp; rw [yblk_s hc]; exact h
theorem z_dup (hc : cd pc = some .dup) (hp : pc + 1 = p) (h : yw E cd kl KR K n (p, L, .ref a :: .ref a :: st, A) = T) : yblk E cd kl KR K (n + 1) (pc, L, .ref a :: st, A) = T := by
  subst hp; rw [yblk_s hc]; exact h
theorem z_dup2 (hc : cd pc = some .dup2) (hp : pc + 1 = p) (h : yw E cd kl KR K n (p, L, .int y :: .ref a :: .int y :: .ref a :: st, A) = T) : yblk E cd kl KR K (n + 1) (pc, L, .int y :: .ref a :: st, A) = T := by
  subst hp; rw [yblk_s hc]; exact h
theorem z_pop (hc : cd pc = some .pop) (hp : pc + 1 = p) (h : yw E cd kl KR K n (p, L, st, A) = T) : yblk E cd kl KR K (n + 1) (pc, L, .int x :: st, A) = T := by
  subst hp; rw [yblk_s hc]; exact h
theorem z_goto {o : Int} (hc : cd pc = some (.goto o)) (hp : xjmp pc o = p) (h : yw E cd kl KR K n (p, L, st, A) = T) : yblk E cd kl KR K (n + 1) (pc, L, st, A) = T := by
  subst hp; rw [yblk_s hc]; exact h
theorem z_if_eq {o : Int} (hc : cd pc = some (.ifCond .eq o)) (hp : xjmp pc o = p) (hp2 : pc + 3 = p2) (h : yw E cd kl KR K n (p, L, st, A) = T) (h2 : yw E cd kl KR K n (p2, L, st, A) = T2) : yblk E cd kl KR K (n + 1) (pc, L, .int x :: st, A) = (if x = 0 then T else T2) := by
  subst hp hp2 h h2; rw [yblk_s hc]; rfl
theorem z_if_ne {o : Int} (hc : cd pc = some (.ifCond .ne o)) (hp : xjmp pc o = p) (hp2 : pc + 3 = p2) (h : yw E cd kl KR K n (p2, L, st, A) = T) (h2 : yw E cd kl KR K n (p, L, st, A) = T2) : yblk E cd kl KR K (n + 1) (pc, L, .int x :: st, A) = (if x = 0 then T else T2) := by
  subst hp hp2 h h2; rw [yblk_s hc]; rfl
theorem z_if_lt {o : Int} (hc : cd pc = some (.ifCond .lt o)) (hp : xjmp pc o = p) (hp2 : pc + 3 = p2) (h : yw E cd kl KR K n (p, L, st, A) = T) (h2 : yw E cd kl KR K n (p2, L, st, A) = T2) : yblk E cd kl KR K (n + 1) (pc, L, .int x :: st, A) = (if x < 0 then T else T2) := by
  subst hp hp2 h h2; rw [yblk_s hc]; rfl
theorem z_if_ge {o : Int} (hc : cd pc = some (.ifCond .ge o)) (hp : xjmp pc o = p) (hp2 : pc + 3 = p2) (h : yw E cd kl KR K n (p, L, st, A) = T) (h2 : yw E cd kl KR K n (p2, L, st, A) = T2) : yblk E cd kl KR K (n + 1) (pc, L, .int x :: st, A) = (if 0 ≤ x then T else T2) := by
  subst hp hp2 h h2; rw [yblk_s hc]; rfl
theorem z_if_gt {o : Int} (hc : cd pc = some (.ifCond .gt o)) (hp : xjmp pc o = p) (hp2 : pc + 3 = p2) (h : yw E cd kl KR K n (p, L, st, A) = T) (h2 : yw E cd kl KR K n (p2, L, st, A) = T2) : yblk E cd kl KR K (n + 1) (pc, L, .int x :: st, A) = (if 0 < x then T else T2) := by
  subst hp hp2 h h2; rw [yblk_s hc]; rfl
theorem z_if_le {o : Int} (hc : cd pc = some (.ifCond .le o)) (hp : xjmp pc o = p) (hp2 : pc + 3 = p2) (h : yw E cd kl KR K n (p, L, st, A) = T) (h2 : yw E cd kl KR K n (p2, L, st, A) = T2) : yblk E cd kl KR K (n + 1) (pc, L, .int x :: st, A) = (if x ≤ 0 then T else T2) := by
  subst hp hp2 h h2; rw [yblk_s hc]; rfl
theorem z_ic_eq {o : Int} (hc : cd pc = some (.if_icmp .eq o)) (hp : xjmp pc o = p) (hp2 : pc + 3 = p2) (h : yw E cd kl KR K n (p, L, st, A) = T) (h2 : yw E cd kl KR K n (p2, L, st, A) = T2) : yblk E cd kl KR K (n + 1) (pc, L, .int y :: .int x :: st, A) = (if x = y then T else T2) := by
  subst hp hp2 h h2; rw [yblk_s hc]; rfl
theorem z_ic_ne {o : Int} (hc : cd pc = some (.if_icmp .ne o)) (hp : xjmp pc o = p) (hp2 : pc + 3 = p2) (h : yw E cd kl KR K n (p2, L, st, A) = T) (h2 : yw E cd kl KR K n (p, L, st, A) = T2) : yblk E cd kl KR K (n + 1) (pc, L, .int y :: .int x :: st, A) = (if x = y then T else T2) := by
  subst hp hp2 h h2; rw [yblk_s hc]; rfl
theorem z_ic_lt {o : Int} (hc : cd pc = some (.if_icmp .lt o)) (hp : xjmp pc o = p) (hp2 : pc + 3 = p2) (h : yw E cd kl KR K n (p, L, st, A) = T) (h2 : yw E cd kl KR K n (p2, L, st, A) = T2) : yblk E cd kl KR K (n + 1) (pc, L, .int y :: .int x :: st, A) = (if x < y then T else T2) := by
  subst hp hp2 h h2; rw [yblk_s hc]; rfl
theorem z_ic_ge {o : Int} (hc : cd pc = some (.if_icmp .ge o)) (hp : xjmp pc o = p) (hp2 : pc + 3 = p2) (h : yw E cd kl KR K n (p, L, st, A) = T) (h2 : yw E cd kl KR K n (p2, L, st, A) = T2) : yblk E cd kl KR K (n + 1) (pc, L, .int y :: .int x :: st, A) = (if y ≤ x then T else T2) := by
  subst hp hp2 h h2; rw [yblk_s hc]; rfl
theorem z_ic_gt {o : Int} (hc : cd pc = some (.if_icmp .gt o)) (hp : xjmp pc o = p) (hp2 : pc + 3 = p2) (h : yw E cd kl KR K n (p, L, st, A) = T) (h2 : yw E cd kl KR K n (p2, L, st, A) = T2) : yblk E cd kl KR K (n + 1) (pc, L, .int y :: .int x :: st, A) = (if y < x then T else T2) := by
  subst hp hp2 h h2; rw [yblk_s hc]; rfl
theorem z_ic_le {o : Int} (hc : cd pc = some (.if_icmp .le o)) (hp : xjmp pc o = p) (hp2 : pc + 3 = p2) (h : yw E cd kl KR K n (p, L, st, A) = T) (h2 : yw E cd kl KR K n (p2, L, st, A) = T2) : yblk E cd kl KR K (n + 1) (pc, L, .int y :: .int x :: st, A) = (if x ≤ y then T else T2) := by
  subst hp hp2 h h2; rw [yblk_s hc]; rfl
theorem z_sw {d lo hi : Int} {offs : Array Int} {ps : List (Int × Nat)} (hc : cd pc = some (.tableswitch d lo hi offs)) (hd : xjmp pc d = p) (hps : xtab pc lo offs.toList = ps) (h : xsw x p (fun t => yw E cd kl KR K n (t, L, st, A)) ps = T) : yblk E cd kl KR K (n + 1) (pc, L, .int x :: st, A) = T := by
  subst hd hps; rw [yblk_s hc]; exact h
theorem z_lsw {d : Int} {qs : Array (Int × Int)} {ps : List (Int × Nat)} (hc : cd pc = some (.lookupswitch d qs)) (hd : xjmp pc d = p) (hps : (qs.toList.map fun q => (q.1, xjmp pc q.2)) = ps) (h : xsw x p (fun t => yw E cd kl KR K n (t, L, st, A)) ps = T) : yblk E cd kl KR K (n + 1) (pc, L, .int x :: st, A) = T := by
  subst hd hps; rw [yblk_s hc]; exact h
theorem z_swn {S : Nat → Option ρ} (h : S p = T) : xsw x p S [] = T := h
theorem z_swc {S : Nat → Option ρ} {i : Int} {t : Nat} {r : List (Int × Nat)} (hv : Int32.ofInt i = v) (h : S t = T) (h2 : xsw x p S r = T2) : xsw x p S ((i, t) :: r) = (if x = v then T else T2) := by
  subst hv h h2; rfl
theorem z_iaload {F : Int32 → Option ρ} (hc : cd pc = some .iaload) (hp : pc + 1 = p) (h : ∀ v, yw E cd kl KR K n (p, L, .int v :: st, A) = F v) : yblk E cd kl KR K (n + 1) (pc, L, .int x :: .ref a :: st, A) = yrd A a x F := by
  subst hp; rw [yblk_s hc]; simp only [ystp, ys_iaload]; exact congrArg (yrd A a x) (funext h)
theorem z_laload {F : Int64 → Option ρ} (hc : cd pc = some .laload) (hp : pc + 1 = p) (h : ∀ v, yw E cd kl KR K n (p, L, .long v :: st, A) = F v) : yblk E cd kl KR K (n + 1) (pc, L, .int x :: .ref a :: st, A) = yrL A a x F := by
  subst hp; rw [yblk_s hc]; simp only [ystp, ys_laload]; exact congrArg (yrL A a x) (funext h)
theorem z_alen {F : Int32 → Option ρ} (hc : cd pc = some .arraylength) (hp : pc + 1 = p) (h : ∀ v, yw E cd kl KR K n (p, L, .int v :: st, A) = F v) : yblk E cd kl KR K (n + 1) (pc, L, .ref a :: st, A) = yle A a F := by
  subst hp; rw [yblk_s hc]; simp only [ystp, ys_arraylength]; exact congrArg (yle A a) (funext h)
theorem z_aaload {F : Nat → Option ρ} (hc : cd pc = some .aaload) (hp : pc + 1 = p) (h : ∀ v, yw E cd kl KR K n (p, L, .ref v :: st, A) = F v) : yblk E cd kl KR K (n + 1) (pc, L, .int x :: .ref a :: st, A) = yrR A a x F := by
  subst hp; rw [yblk_s hc]; simp only [ystp, ys_aaload]; exact congrArg (yrR A a x) (funext h)
theorem z_iastore {F : yM → Option ρ} (hc : cd pc = some .iastore) (hp : pc + 1 = p) (h : ∀ A, yw E cd kl KR K n (p, L, st, A) = F A) : yblk E cd kl KR K (n + 1) (pc, L, .int x :: .int y :: .ref a :: st, A) = ywr A a y x F := by
  subst hp; rw [yblk_s hc]; simp only [ystp, ys_iastore]; exact congrArg (ywr A a y x) (funext h)
theorem z_getI {F : Int32 → Option ρ} {fin : Bool} (hc : cd pc = some (.getfield j)) (hf : E.1 j = some (ci, k, 0, fin)) (hp : pc + 3 = p) (h : ∀ v, yw E cd kl KR K n (p, L, .int v :: st, A) = F v) : yblk E cd kl KR K (n + 1) (pc, L, .ref a :: st, A) = ygI A a ci k F := by
  subst hp; rw [yblk_s hc]; simp only [ystp, ys_getfield, hf]; exact congrArg (ygI A a ci k) (funext h)
theorem z_getZ {F : Int32 → Option ρ} {fin : Bool} (hc : cd pc = some (.getfield j)) (hf : E.1 j = some (ci, k, 2, fin)) (hp : pc + 3 = p) (h : ∀ v, yw E cd kl KR K n (p, L, .int v :: st, A) = F v) : yblk E cd kl KR K (n + 1) (pc, L, .ref a :: st, A) = ygI A a ci k F := by
  subst hp; rw [yblk_s hc]; simp only [ystp, ys_getfield, hf]; exact congrArg (ygI A a ci k) (funext h)
theorem z_getR {F : Nat → Option ρ} {fin : Bool} (hc : cd pc = some (.getfield j)) (hf : E.1 j = some (ci, k, 5, fin)) (hp : pc + 3 = p) (h : ∀ v, yw E cd kl KR K n (p, L, .ref v :: st, A) = F v) : yblk E cd kl KR K (n + 1) (pc, L, .ref a :: st, A) = ygR A a ci k F := by
  subst hp; rw [yblk_s hc]; simp only [ystp, ys_getfield, hf]; exact congrArg (ygR A a ci k) (funext h)
theorem z_putI {F : yM → Option ρ} (hc : cd pc = some (.putfield j)) (hf : E.1 j = some (ci, k, 0, false)) (hp : pc + 3 = p) (h : ∀ A, yw E cd kl KR K n (p, L, st, A) = F A) : yblk E cd kl KR K (n + 1) (pc, L, .int x :: .ref a :: st, A) = ypI A a ci k x F := by
  subst hp; rw [yblk_s hc]; simp only [ystp, ys_putfield, hf]; exact congrArg (ypI A a ci k x) (funext h)
theorem z_putZ {F : yM → Option ρ} (hc : cd pc = some (.putfield j)) (hf : E.1 j = some (ci, k, 2, false)) (hp : pc + 3 = p) (h : ∀ A, yw E cd kl KR K n (p, L, st, A) = F A) : yblk E cd kl KR K (n + 1) (pc, L, .int x :: .ref a :: st, A) = (if x = 0 ∨ x = 1 then ypI A a ci k x F else none) := by
  subst hp; rw [yblk_s hc]; simp only [ystp, ys_putfield, hf]; rw [show (fun A => yw E cd kl KR K n (pc + 3, L, st, A)) = F from funext h]
theorem z_ret (hc : cd pc = some .return_) (hr : E.2.2.2 = none) : yblk E cd kl KR K (n + 1) (pc, L, [], A) = KR none A := by
  rw [yblk_s hc]; simp only [ystp, ys_return_, hr]
theorem z_iret (hc : cd pc = some .ireturn) (hr : E.2.2.2 = some .int) : yblk E cd kl KR K (n + 1) (pc, L, [.int x], A) = KR (some (.int x)) A := by
  rw [yblk_s hc]; simp only [ystp, ys_ireturn, hr]
theorem z_zret (hc : cd pc = some .ireturn) (hr : E.2.2.2 = some .boolean) : yblk E cd kl KR K (n + 1) (pc, L, [.int x], A) = (if x = 0 ∨ x = 1 then KR (some (.int x)) A else none) := by
  rw [yblk_s hc]; simp only [ystp, ys_ireturn, hr]
theorem z_lret (hc : cd pc = some .lreturn) (hr : E.2.2.2 = some .long) : yblk E cd kl KR K (n + 1) (pc, L, [.long w], A) = KR (some (.long w)) A := by
  rw [yblk_s hc]; simp only [ystp, ys_lreturn, hr]
end ONE
end ZS
/-! calls -/
section ZC
variable {ρ : Type} {X : yMth} {C : yC} {cd : Nat → Option Instr} {kl : Nat → Option (List Nat)} {KR : Option Value → yM → Option ρ} {K : ySt → Option ρ} {n pc p : Nat} {L : List (Option Value)} {st vs rest : List Value} {A : yM} {T : Option ρ} {key k m na : Nat} {tab : List (Nat × Nat)} {x y : Int32} {a : Nat}
/-- the instruction of a call, by the number of its site -/
def zin (i : Instr) (key : Nat) : Prop := (i = .invokevirtual (key / 3) ∧ key % 3 = 0) ∨ (i = .invokestatic (key / 3) ∧ key % 3 = 1) ∨ (i = .invokespecial (key / 3) ∧ key % 3 = 2)
theorem ystp_cal {E : yEnv} {i : Instr} (hi : zin i key) {K : ySt → Option ρ} : ystp E i pc L st A K KR = ycal (E.2.2.1 key) pc L st A K := by
  rcases hi with ⟨rfl, h⟩ | ⟨rfl, h⟩ | ⟨rfl, h⟩
  · show ycal (E.2.2.1 (3 * (key / 3))) pc L st A K = _
    rw [show 3 * (key / 3) = key by omega]
  · show ycal (E.2.2.1 (3 * (key / 3) + 1)) pc L st A K = _
    rw [show 3 * (key / 3) + 1 = key by omega]
  · show ycal (E.2.2.1 (3 * (key / 3) + 2)) pc L st A K = _
    rw [show 3 * (key / 3) + 2 = key by omega]
theorem zv (h : k = key / 3 ∧ key % 3 = 0) : zin (.invokevirtual k) key := Or.inl ⟨by rw [h.1], h.2⟩
theorem zs (h : k = key / 3 ∧ key % 3 = 1) : zin (.invokestatic k) key := Or.inr (Or.inl ⟨by rw [h.1], h.2⟩)
theorem zp (h : k = key / 3 ∧ key % 3 = 2) : zin (.invokespecial k) key := Or.inr (Or.inr ⟨by rw [h.1], h.2⟩)
theorem z_cal {s : yCall} {i : Instr} (hc : cd pc = some i) (hi : zin i key) (hs : ylk X.2.2.2.2.2.2.2.2.2 key = some s) : yblk (yenv X C) cd kl KR K (n + 1) (pc, L, st, A) = ycal (some (s.1, yfn s C)) pc L st A (yw (yenv X C) cd kl KR K n) := by
  rw [yblk_s hc, ystp_cal hi]
  show ycal ((ylk X.2.2.2.2.2.2.2.2.2 key).map (fun s => (s.1, yfn s C))) pc L st A _ = _
  rw [hs]
  rfl
theorem zc_cat {f : yF} (h1 : (st.take na).reverse = vs) (h2 : st.drop na = rest) (h3 : Nat.ble na st.length = true) (h4 : xcat rest = true) (J : ySt → Option ρ) : ycal (some (na, f)) pc L st A J = (match f with
      | .inl f => (f vs A).bind (fun A => J (pc + 3, L, rest, A))
      | .inr (.inl f) => (f vs A).bind (fun z => J (pc + 3, L, .int z.1 :: rest, z.2))
      | .inr (.inr f) => (f vs A).bind (fun z => J (pc + 3, L, .long z.1 :: rest, z.2))) := by
  unfold ycal
  dsimp only
  rw [h1, h2, h3, h4]
  rfl
section ZC2
variable {i : Instr}
theorem z_cs0 {F : yM → Option ρ} (hc : cd pc = some i) (hi : zin i key) (hs : ylk X.2.2.2.2.2.2.2.2.2 key = some (na, 0, 0, tab, m)) (h1 : (st.take na).reverse = vs) (h2 : st.drop na = rest) (h3 : Nat.ble na st.length = true) (h4 : xcat rest = true) (hp : pc + 3 = p) (h : ∀ A, yw (yenv X C) cd kl KR K n (p, L, rest, A) = F A) : yblk (yenv X C) cd kl KR K (n + 1) (pc, L, st, A) = (yv (C m vs A)).bind F := by
  subst hp; rw [z_cal hc hi hs, zc_cat h1 h2 h3 h4]; show (yv (C m vs A)).bind _ = _; rw [show (fun A => yw (yenv X C) cd kl KR K n (pc + 3, L, rest, A)) = F from funext h]
theorem z_cs1 {F : Int32 × yM → Option ρ} (hc : cd pc = some i) (hi : zin i key) (hs : ylk X.2.2.2.2.2.2.2.2.2 key = some (na, 1, 0, tab, m)) (h1 : (st.take na).reverse = vs) (h2 : st.drop na = rest) (h3 : Nat.ble na st.length = true) (h4 : xcat rest = true) (hp : pc + 3 = p) (h : ∀ z : Int32 × yM, yw (yenv X C) cd kl KR K n (p, L, .int z.1 :: rest, z.2) = F z) : yblk (yenv X C) cd kl KR K (n + 1) (pc, L, st, A) = (yi (C m vs A)).bind F := by
  subst hp; rw [z_cal hc hi hs, zc_cat h1 h2 h3 h4]; show (yi (C m vs A)).bind _ = _; rw [show (fun z : Int32 × yM => yw (yenv X C) cd kl KR K n (pc + 3, L, .int z.1 :: rest, z.2)) = F from funext h]
theorem z_cs2 {F : Int64 × yM → Option ρ} (hc : cd pc = some i) (hi : zin i key) (hs : ylk X.2.2.2.2.2.2.2.2.2 key = some (na, 2, 0, tab, m)) (h1 : (st.take na).reverse = vs) (h2 : st.drop na = rest) (h3 : Nat.ble na st.length = true) (h4 : xcat rest = true) (hp : pc + 3 = p) (h : ∀ z : Int64 × yM, yw (yenv X C) cd kl KR K n (p, L, .long z.1 :: rest, z.2) = F z) : yblk (yenv X C) cd kl KR K (n + 1) (pc, L, st, A) = (yl (C m vs A)).bind F := by
  subst hp; rw [z_cal hc hi hs, zc_cat h1 h2 h3 h4]; show (yl (C m vs A)).bind _ = _; rw [show (fun z : Int64 × yM => yw (yenv X C) cd kl KR K n (pc + 3, L, .long z.1 :: rest, z.2)) = F from funext h]
theorem z_cv0 {F : yM → Option ρ} (hc : cd pc = some i) (hi : zin i key) (hs : ylk X.2.2.2.2.2.2.2.2.2 key = some (na, 0, 1, tab, m)) (h1 : (st.take na).reverse = vs) (h2 : st.drop na = rest) (h3 : Nat.ble na st.length = true) (h4 : xcat rest = true) (hp : pc + 3 = p) (h : ∀ A, yw (yenv X C) cd kl KR K n (p, L, rest, A) = F A) : yblk (yenv X C) cd kl KR K (n + 1) (pc, L, st, A) = (yv (yvt tab C vs A)).bind F := by
  subst hp; rw [z_cal hc hi hs, zc_cat h1 h2 h3 h4]; show (yv (yvt tab C vs A)).bind _ = _; rw [show (fun A => yw (yenv X C) cd kl KR K n (pc + 3, L, rest, A)) = F from funext h]
theorem z_cv1 {F : Int32 × yM → Option ρ} (hc : cd pc = some i) (hi : zin i key) (hs : ylk X.2.2.2.2.2.2.2.2.2 key = some (na, 1, 1, tab, m)) (h1 : (st.take na).reverse = vs) (h2 : st.drop na = rest) (h3 : Nat.ble na st.length = true) (h4 : xcat rest = true) (hp : pc + 3 = p) (h : ∀ z : Int32 × yM, yw (yenv X C) cd kl KR K n (p, L, .int z.1 :: rest, z.2) = F z) : yblk (yenv X C) cd kl KR K (n + 1) (pc, L, st, A) = (yi (yvt tab C vs A)).bind F := by
  subst hp; rw [z_cal hc hi hs, zc_cat h1 h2 h3 h4]; show (yi (yvt tab C vs A)).bind _ = _; rw [show (fun z : Int32 × yM => yw (yenv X C) cd kl KR K n (pc + 3, L, .int z.1 :: rest, z.2)) = F from funext h]
theorem z_cv2 {F : Int64 × yM → Option ρ} (hc : cd pc = some i) (hi : zin i key) (hs : ylk X.2.2.2.2.2.2.2.2.2 key = some (na, 2, 1, tab, m)) (h1 : (st.take na).reverse = vs) (h2 : st.drop na = rest) (h3 : Nat.ble na st.length = true) (h4 : xcat rest = true) (hp : pc + 3 = p) (h : ∀ z : Int64 × yM, yw (yenv X C) cd kl KR K n (p, L, .long z.1 :: rest, z.2) = F z) : yblk (yenv X C) cd kl KR K (n + 1) (pc, L, st, A) = (yl (yvt tab C vs A)).bind F := by
  subst hp; rw [z_cal hc hi hs, zc_cat h1 h2 h3 h4]; show (yl (yvt tab C vs A)).bind _ = _; rw [show (fun z : Int64 × yM => yw (yenv X C) cd kl KR K n (pc + 3, L, .long z.1 :: rest, z.2)) = F from funext h]
theorem z_max (hc : cd pc = some i) (hi : zin i key) (hs : ylk X.2.2.2.2.2.2.2.2.2 key = some (2, 1, 2, tab, m)) (h4 : xcat rest = true) (hp : pc + 3 = p) (h : yw (yenv X C) cd kl KR K n (p, L, .int (if x < y then y else x) :: rest, A) = T) : yblk (yenv X C) cd kl KR K (n + 1) (pc, L, .int y :: .int x :: rest, A) = T := by
  subst hp; rw [z_cal hc hi hs, zc_cat (vs := [.int x, .int y]) (rest := rest) rfl rfl rfl h4]; exact h
theorem z_min (hc : cd pc = some i) (hi : zin i key) (hs : ylk X.2.2.2.2.2.2.2.2.2 key = some (2, 1, 3, tab, m)) (h4 : xcat rest = true) (hp : pc + 3 = p) (h : yw (yenv X C) cd kl KR K n (p, L, .int (if y < x then y else x) :: rest, A) = T) : yblk (yenv X C) cd kl KR K (n + 1) (pc, L, .int y :: .int x :: rest, A) = T := by
  subst hp; rw [z_cal hc hi hs, zc_cat (vs := [.int x, .int y]) (rest := rest) rfl rfl rfl h4]; exact h
theorem z_abs (hc : cd pc = some i) (hi : zin i key) (hs : ylk X.2.2.2.2.2.2.2.2.2 key = some (1, 1, 4, tab, m)) (h4 : xcat rest = true) (hp : pc + 3 = p) (h : yw (yenv X C) cd kl KR K n (p, L, .int (if 0 ≤ x then x else 0 - x) :: rest, A) = T) : yblk (yenv X C) cd kl KR K (n + 1) (pc, L, .int x :: rest, A) = T := by
  subst hp; rw [z_cal hc hi hs, zc_cat (vs := [.int x]) (rest := rest) rfl rfl rfl h4]; exact h
theorem z_cpy {F : yM → Option ρ} (hc : cd pc = some i) (hi : zin i key) (hs : ylk X.2.2.2.2.2.2.2.2.2 key = some (5, 0, 5, tab, m)) (h1 : (st.take 5).reverse = vs) (h2 : st.drop 5 = rest) (h3 : Nat.ble 5 st.length = true) (h4 : xcat rest = true) (hp : pc + 3 = p) (h : ∀ A, yw (yenv X C) cd kl KR K n (p, L, rest, A) = F A) : yblk (yenv X C) cd kl KR K (n + 1) (pc, L, st, A) = (ycpy vs A).bind F := by
  subst hp; rw [z_cal hc hi hs, zc_cat h1 h2 h3 h4]; show (ycpy vs A).bind _ = _; rw [show (fun A => yw (yenv X C) cd kl KR K n (pc + 3, L, rest, A)) = F from funext h]
end ZC2
end ZC
