/-! WHAT A METHOD DOES TO THE PURE CELLS, to a depth of calls; the memory machine's answers are its answers -/
abbrev zC : Type := Nat → List Value → xS → Option (Option Value × xS)
def zvt (tab : List (Nat × Nat)) (C : zC) (vs : List Value) (h : xS) : Option (Option Value × xS) := match vs with
  | .ref a :: _ => (match h.1[a]? with
    | some (.inr (ci, _)) => (match ylk tab ci with
      | some m => C m vs h
      | none => none)
    | _ => none)
  | _ => none
def zrv (o : Option (Option Value × xS)) : Option xS := match o with
  | some (none, h) => some h
  | _ => none
def zri (o : Option (Option Value × xS)) : Option (Int32 × xS) := match o with
  | some (some (.int x), h) => some (x, h)
  | _ => none
def zrl (o : Option (Option Value × xS)) : Option (Int64 × xS) := match o with
  | some (some (.long x), h) => some (x, h)
  | _ => none
def zrk (rk : Nat) (f : List Value → xS → Option (Option Value × xS)) : xF := match rk with
  | 0 => .inl (fun vs h => zrv (f vs h))
  | 1 => .inr (.inl (fun vs h => zri (f vs h)))
  | _ => .inr (.inr (fun vs h => zrl (f vs h)))
def zfn (s : yCall) (C : zC) : xF := match s.2.2.1 with
  | 0 => zrk s.2.1 (C s.2.2.2.2)
  | 1 => zrk s.2.1 (zvt s.2.2.2.1 C)
  | 2 => xmax
  | 3 => xmin
  | 4 => xabs
  | 5 => xcpy
  | _ => xobj
def zenv (X : yMth) (C : zC) : xEnv := (ylk X.2.2.2.2.2.2.2.1, ylk X.2.2.2.2.2.2.2.2.1, fun key => (ylk X.2.2.2.2.2.2.2.2.2 key).map (fun s => (s.1, false, zfn s C)), fun _ => none, fun _ => none, false, X.2.2.2.1)
/-- one cell more was made and forgotten -/
def zfg (h : xS) : xS := (h.1, h.2.1 + 1, h.2.2 + 8)
def zansC (vs : List Value) (h : xS) : Option Value × xS := match vs with
  | [.ref a, .int f] => (match h.1[a]? with
    | some (.inr (ci, _)) => (some (.int (yct ci f)), if yct ci f = -15 then h else zfg h)
    | _ => (none, h))
  | _ => (none, h)
def zlw (o : Option xO) (v : Int32) (h : xS) : Option Value × xS := match o with
  | some (Sum.inl (3, n, Sum.inr (Sum.inl g))) => (some (.int 0), (h.1.set 92 (Sum.inl (3, n, Sum.inr (Sum.inl (fun k => if k = 0 then v.toInt64 else g k)))), h.2))
  | _ => (none, h)
def zansE (vs : List Value) (h : xS) : Option Value × xS := match vs with
  | [.ref 1, .int d, .int i, .ref 92] =>
    if d < 0 ∨ 8 ≤ d then (some (.int 1), zfg h)
    else (match xgI h (60 + 2 * d.toNatClampNeg) 7 0, xgI h (60 + 2 * d.toNatClampNeg) 7 4 with
      | some hd, some ln => if hd ≠ 2 ∨ i < 0 ∨ ln ≤ i then (some (.int 2), zfg h)
        else (match xrdI h (61 + 2 * d.toNatClampNeg) i with
          | some v => zlw h.1[92]? v h
          | none => (none, h))
      | _, _ => (none, h))
  | _ => (none, h)
def zans (m : Nat) (vs : List Value) (h : xS) : Option Value × xS := match Nat.beq m 900 with
  | true => zansC vs h
  | false => zansE vs h
noncomputable def zspc (m : Nat) (vs : List Value) (h : xS) : Option (Option Value × xS) :=
  @ite _ (∃ c0 s0 A z, h = yhs c0 s0 A ∧ yspc m vs A = some z) (Classical.propDecidable _) (some (zans m vs h)) none
noncomputable def zcall : Nat → zC
  | 0, _, _, _ => none
  | d + 1, m, vs, h => match mtab[m]? with
    | some X => (match Nat.ble (xfl vs).length X.2.2.1 with
      | true => xbig (zenv X (zcall d)) (ylk X.2.2.2.2.1) (0, xent vs X.2.2.1, [], h)
      | false => none)
    | none => (match Nat.ble 6 d with
      | true => zspc m vs h
      | false => none)
/-! the memory machine's answers are these -/
theorem yhs_len (c0 s0 : Nat) (A : yM) : (yhs c0 s0 A).1.length = 93 := by
  show (yhp A).length = 93
  unfold yhp
  rw [List.length_map, List.length_zipIdx, ysl_len]
theorem yhs_fg {c0 s0 : Nat} {A : yM} (h0 : 0 ≤ A 94 0) (h1 : (A 94 0).toNatClampNeg < 100000) : yhs c0 s0 (yfg A) = zfg (yhs c0 s0 A) := by
  obtain ⟨j, hj, e⟩ := nI_of (x := A 94 0) (Int32.not_lt.mpr h0)
  rw [e, nI_clamp hj] at h1
  have e94 : yfg A 94 0 = nI (j + 1) := by
    unfold yfg yup
    rw [if_pos ⟨rfl, rfl⟩, e]
    exact nI_1 j
  have e93 : yfg A 93 0 = A 93 0 := by unfold yfg yup; rw [if_neg (by omega)]
  have ehp : yhp (yfg A) = yhp A := by
    apply List.ext_getElem?
    intro a
    rw [yhp_at, yhp_at]
    have hs : ysh (yfg A) a = ysh A a := by unfold ysh; rw [e93]
    rw [hs]
    cases ho : ysh A a with
    | none => rfl
    | some o =>
      have := ysh_lt ho
      have : yfg A a = A a := by funext i; unfold yfg yup; rw [if_neg (by omega)]
      rw [this]
  unfold yhs zfg
  rw [ehp, e94, e, nI_clamp (by omega), nI_clamp hj]
  have : 8 * (j + 1) = 8 * j + 8 := by omega
  rw [this]
  rfl
theorem yhs_at (c0 s0 : Nat) (A : yM) (a : Nat) : (yhs c0 s0 A).1[a]? = (ysh A a).map (yob (A a)) := yhp_at A a
theorem ycl_z {c0 s0 : Nat} {A : yM} {a ci : Nat} (h : ycl A a = some ci) : ∃ fs, (yhs c0 s0 A).1[a]? = some (.inr (ci, fs)) := by
  unfold ycl at h
  cases ho : ysh A a with
  | none => rw [ho] at h; cases h
  | some o =>
    rw [ho] at h
    obtain n | ⟨cj, sl⟩ | ⟨t, n, g⟩ | n | n := o
    · cases h
    · cases h
      exact ⟨_, by rw [yhs_at, ho]; rfl⟩
    · cases h
    · cases h
    · cases h
theorem yln_z {c0 s0 : Nat} {A : yM} {a n : Nat} (h : yln A a = some n) : (yhs c0 s0 A).1[a]? = some (.inl (0, n, .inl (A a))) ∧ ysh A a = some (.inl n) := by
  unfold yln at h
  cases ho : ysh A a with
  | none => rw [ho] at h; cases h
  | some o =>
    rw [ho] at h
    obtain n | ⟨cj, sl⟩ | ⟨t, n, g⟩ | n | n := o
    · cases h
      exact ⟨by rw [yhs_at, ho]; rfl, rfl⟩
    · cases h
    · cases h
    · cases h
    · cases h
theorem zans_ok {c0 s0 m : Nat} {vs : List Value} {A A1 : yM} {r : Option Value} (h : yspc m vs A = some (r, A1)) : zans m vs (yhs c0 s0 A) = (r, yhs c0 s0 A1) := by
  unfold yspc at h
  split at h
  · show zansC vs (yhs c0 s0 A) = _
    split at h
    · rename_i a f
      split at h
      · rename_i ci hci
        split at h
        · rename_i hc
          obtain ⟨fs, hfs⟩ := ycl_z (c0 := c0) (s0 := s0) hci
          cases h
          unfold zansC
          dsimp only
          rw [hfs]
          dsimp only
          by_cases hq : yct ci f = -15
          · rw [if_pos hq, if_pos hq]
          · rw [if_neg hq, if_neg hq, yhs_fg hc.2.2.2.2.1 hc.2.2.2.2.2]
        · cases h
      · cases h
    · cases h
  · show zansE vs (yhs c0 s0 A) = _
    split at h
    · rename_i d i
      split at h
      · rename_i hc
        unfold zansE
        show (if d < 0 ∨ 8 ≤ d then _ else _) = _
        by_cases hd : d < 0 ∨ 8 ≤ d
        · rw [if_pos hd] at h ⊢
          cases h
          rw [yhs_fg hc.1 hc.2]
        · rw [if_neg hd] at h ⊢
          simp only [not_or] at hd
          obtain ⟨dn, hdn, rfl⟩ := nI_of hd.1
          have hd8 : dn < 8 := by
            have h1 : nI dn < nI 8 := Int32.not_le.mp hd.2
            exact (nI_ltI hdn (by omega)).mp h1
          rw [nI_clamp hdn] at h ⊢
          have e1 : ∀ k, k < 5 → xgI (yhs c0 s0 A) (60 + 2 * dn) 7 k = some (A (60 + 2 * dn) k) := fun k hk => (ygI_x (K := fun v => (some (some (Value.int v), A) : Option yR)) (sh_I hd8 hk)).1
          rw [e1 0 (by omega), e1 4 (by omega)]
          dsimp only
          by_cases hx : A (60 + 2 * dn) 0 ≠ 2 ∨ i < 0 ∨ A (60 + 2 * dn) 4 ≤ i
          · rw [if_pos hx] at h ⊢
            cases h
            rw [yhs_fg hc.1 hc.2]
          · rw [if_neg hx] at h ⊢
            by_cases hi : i < 100
            · rw [if_pos hi] at h
              cases h
              simp only [not_or] at hx
              obtain ⟨j, hj, rfl⟩ := nI_of hx.2.1
              have hj1 : j < 100 := (nI_ltI hj (by omega)).mp (show nI j < nI 100 from hi)
              have e2 := (yrd_x (c0 := c0) (s0 := s0) (K := fun v => (some (some (Value.int v), A) : Option yR)) (sh_rd (A := A) hd8 hj1)).1
              rw [e2, nI_clamp hj]
              have e3 : (yhs c0 s0 A).1[92]? = some (.inl (3, 1, .inr (.inl (fun k => (A 92 k).toInt64)))) := by
                rw [yhs_at]
                rfl
              rw [e3]
              unfold zlw
              dsimp only
              have e4 := yhs_set c0 s0 (A := A) (A' := yup A 92 0 (A (61 + 2 * dn) j)) (a := 92) (o := .inr (.inr (.inr (.inl 1)))) rfl (fun p hp => by funext q; unfold yup; rw [if_neg (fun z => hp z.1)])
              rw [← e4]
              have e5 : (fun k => if k = 0 then (A (61 + 2 * dn) j).toInt64 else (A 92 k).toInt64) = fun k => (yup A 92 0 (A (61 + 2 * dn) j) 92 k).toInt64 := by
                funext k
                unfold yup
                by_cases hk : k = 0
                · rw [if_pos hk, if_pos ⟨rfl, hk⟩]
                · rw [if_neg hk, if_neg (fun z => hk z.2)]
              exact congrArg (fun g => ((some (Value.int 0) : Option Value), ((yhs c0 s0 A).1.set 92 (Sum.inl (3, 1, Sum.inr (Sum.inl g))), (yhs c0 s0 A).2))) e5
            · rw [if_neg hi] at h; cases h
      · cases h
    · cases h
  · cases h
theorem zspc_z {c0 s0 m : Nat} {vs : List Value} {A A1 : yM} {r : Option Value} (h : yspc m vs A = some (r, A1)) : zspc m vs (yhs c0 s0 A) = some (r, yhs c0 s0 A1) := by
  unfold zspc
  rw [if_pos ⟨c0, s0, A, _, rfl, h⟩, zans_ok h]
theorem zrk_sim {c0 s0 : Nat} {f : List Value → yM → Option (Option Value × yM)} {F : List Value → xS → Option (Option Value × xS)} (rk : Nat) (hf : ∀ vs A r A1, f vs A = some (r, A1) → F vs (yhs c0 s0 A) = some (r, yhs c0 s0 A1)) : ySimF c0 s0 (yrk rk f) (zrk rk F) := by
  obtain _ | _ | rk := rk
  · intro vs A A1 h
    show zrv (F vs (yhs c0 s0 A)) = _
    replace h : yv (f vs A) = some A1 := h
    unfold yv at h
    split at h
    · rename_i A2 e
      cases h
      unfold zrv
      rw [hf _ _ _ _ e]
    · cases h
  · intro vs A z h
    show zri (F vs (yhs c0 s0 A)) = _
    replace h : yi (f vs A) = some z := h
    unfold yi at h
    split at h
    · rename_i x A2 e
      cases h
      unfold zri
      rw [hf _ _ _ _ e]
    · cases h
  · intro vs A z h
    show zrl (F vs (yhs c0 s0 A)) = _
    replace h : yl (f vs A) = some z := h
    unfold yl at h
    split at h
    · rename_i x A2 e
      cases h
      unfold zrl
      rw [hf _ _ _ _ e]
    · cases h
theorem zcpy_sim {c0 s0 : Nat} {vs : List Value} {A A1 : yM} (h : ycpy vs A = some A1) : xcpyf vs (yhs c0 s0 A) = some (yhs c0 s0 A1) := by
  unfold ycpy at h
  split at h
  · rename_i a0 sp a1 dp n
    split at h
    · rename_i n0 n1 e0 e1
      split at h
      · cases h
      · rename_i hc
        cases h
        obtain ⟨f0, -⟩ := yln_z (c0 := c0) (s0 := s0) e0
        obtain ⟨f1, g1⟩ := yln_z (c0 := c0) (s0 := s0) e1
        unfold xcpyf
        dsimp only
        rw [f0, f1]
        show (if _ then _ else _) = _
        rw [if_neg hc]
        rw [← yhs_set c0 s0 (A := A) (A' := ycy A a0 sp.toNatClampNeg a1 dp.toNatClampNeg n.toNatClampNeg) g1 (fun p hp => ycy_ne1 hp)]
        have e5 : va_cpy (A a0) (A a1) sp.toNatClampNeg dp.toNatClampNeg n.toNatClampNeg = ycy A a0 sp.toNatClampNeg a1 dp.toNatClampNeg n.toNatClampNeg a1 := by
          funext i
          unfold va_cpy ycy
          by_cases hi : dp.toNatClampNeg ≤ i ∧ i < dp.toNatClampNeg + n.toNatClampNeg
          · rw [if_pos hi, if_pos ⟨rfl, hi.1, hi.2⟩]
          · rw [if_neg hi, if_neg (fun z => hi z.2)]
        rw [e5]
        rfl
    · cases h
  · cases h
theorem zvt_sim {c0 s0 : Nat} {tab : List (Nat × Nat)} {C : yC} {Z : zC} (hC : ∀ m vs A r A1, C m vs A = some (r, A1) → Z m vs (yhs c0 s0 A) = some (r, yhs c0 s0 A1)) : ∀ vs A r A1, yvt tab C vs A = some (r, A1) → zvt tab Z vs (yhs c0 s0 A) = some (r, yhs c0 s0 A1) := by
  intro vs A r A1 h
  unfold yvt at h
  split at h
  · rename_i a as
    split at h
    · rename_i ci hci
      obtain ⟨fs, hfs⟩ := ycl_z (c0 := c0) (s0 := s0) hci
      unfold zvt
      dsimp only
      rw [hfs]
      dsimp only
      split at h
      · rename_i m hm
        rw [hm]
        exact hC _ _ _ _ _ h
      · cases h
    · cases h
  · cases h
theorem zfn_sim {c0 s0 : Nat} {C : yC} {Z : zC} (hC : ∀ m vs A r A1, C m vs A = some (r, A1) → Z m vs (yhs c0 s0 A) = some (r, yhs c0 s0 A1)) (s : yCall) : ySimF c0 s0 (yfn s C) (zfn s Z) := by
  obtain ⟨n, rk, k, tab, m⟩ := s
  obtain _ | _ | _ | _ | _ | _ | k := k
  · exact zrk_sim _ (hC _)
  · exact zrk_sim _ (zvt_sim hC)
  · intro vs A z h
    dsimp only at h
    split at h
    · cases h; rfl
    · cases h
  · intro vs A z h
    dsimp only at h
    split at h
    · cases h; rfl
    · cases h
  · intro vs A z h
    dsimp only at h
    split at h
    · cases h; rfl
    · cases h
  · intro vs A A1 h
    exact zcpy_sim h
  · intro vs A A1 h
    dsimp only at h
    split at h
    · cases h; rfl
    · cases h
theorem zenv_sim {c0 s0 : Nat} {C : yC} {Z : zC} (hC : ∀ m vs A r A1, C m vs A = some (r, A1) → Z m vs (yhs c0 s0 A) = some (r, yhs c0 s0 A1)) (X : yMth) : ySimE c0 s0 (yenv X C) (zenv X Z) := by
  refine ⟨rfl, rfl, rfl, fun key n f hk => ?_⟩
  obtain ⟨s, h1, h2⟩ := Option.map_eq_some_iff.mp hk
  cases h2
  exact ⟨zfn s Z, Option.map_eq_some_iff.mpr ⟨s, h1, rfl⟩, zfn_sim hC s⟩
theorem ycall_z (c0 s0 : Nat) : ∀ (d m : Nat) (vs : List Value) (A : yM) (r : Option Value) (A1 : yM), ycall d m vs A = some (r, A1) → zcall d m vs (yhs c0 s0 A) = some (r, yhs c0 s0 A1) := by
  intro d
  induction d with
  | zero => intro m vs A r A1 h; cases h
  | succ d ih =>
    intro m vs A r A1 h
    simp only [ycall] at h
    simp only [zcall]
    cases hm : mtab[m]? with
    | none =>
      rw [hm] at h
      dsimp only at h ⊢
      split at h
      · rename_i hle
        rw [hle]
        exact zspc_z h
      · cases h
    | some X =>
      rw [hm] at h
      dsimp only at h ⊢
      split at h
      · rename_i hle
        rw [hle]
        obtain ⟨n, hn⟩ := ybig_ex h
        exact xbig_of (yrun_sim (zenv_sim ih X) n 0 _ _ [] A (lle_r _) hn)
      · cases h
/-! what calls keep -/
theorem zans_le (m : Nat) (vs : List Value) (h : xS) : xle h (zans m vs h).2 ∧ (zans m vs h).2.1.length = h.1.length := by
  have hfg : xle h (zfg h) ∧ (zfg h).1.length = h.1.length := ⟨⟨Nat.le_refl _, Nat.le_succ _, Nat.le_add_right _ _, fun _ _ _ h => h⟩, rfl⟩
  have hr : xle h h ∧ h.1.length = h.1.length := ⟨xle_r h, rfl⟩
  unfold zans
  split
  · unfold zansC
    split
    · split
      · dsimp only
        split
        · exact hr
        · exact hfg
      · exact hr
    · exact hr
  · unfold zansE
    split
    · split
      · exact hfg
      · split
        · split
          · exact hfg
          · split
            · unfold zlw
              split
              · exact ⟨⟨by simp, Nat.le_refl _, Nat.le_refl _, xkp_set rfl⟩, by simp⟩
              · exact hr
            · exact hr
        · exact hr
    · exact hr
theorem zrk_le {F : List Value → xS → Option (Option Value × xS)} (rk : Nat) (hF : ∀ vs h r h', F vs h = some (r, h') → xle h h' ∧ h'.1.length = h.1.length) : ∀ vs h pu h', xres (zrk rk F) vs h pu h' → xle h h' ∧ xna false h h' := by
  intro vs h pu h' hr
  have key : ∃ r, F vs h = some (r, h') := by
    obtain _ | _ | rk := rk
    · obtain ⟨e, -⟩ := hr
      replace e : zrv (F vs h) = some h' := e
      unfold zrv at e
      split at e
      · rename_i h2 e2; cases e; exact ⟨_, e2⟩
      · cases e
    · obtain ⟨r, e, -⟩ := hr
      replace e : zri (F vs h) = some (r, h') := e
      unfold zri at e
      split at e
      · rename_i x h2 e2; cases e; exact ⟨_, e2⟩
      · cases e
    · obtain ⟨r, e, -⟩ := hr
      replace e : zrl (F vs h) = some (r, h') := e
      unfold zrl at e
      split at e
      · rename_i x h2 e2; cases e; exact ⟨_, e2⟩
      · cases e
  obtain ⟨r, e⟩ := key
  exact ⟨(hF _ _ _ _ e).1, fun _ => (hF _ _ _ _ e).2⟩
theorem zvt_le {tab : List (Nat × Nat)} {Z : zC} (hZ : ∀ m vs h r h', Z m vs h = some (r, h') → xle h h' ∧ h'.1.length = h.1.length) : ∀ vs h r h', zvt tab Z vs h = some (r, h') → xle h h' ∧ h'.1.length = h.1.length := by
  intro vs h r h' e
  unfold zvt at e
  split at e
  · split at e
    · split at e
      · exact hZ _ _ _ _ _ e
      · cases e
    · cases e
  · cases e
theorem zfn_le {Z : zC} (hZ : ∀ m vs h r h', Z m vs h = some (r, h') → xle h h' ∧ h'.1.length = h.1.length) (s : yCall) : ∀ vs h pu h', xres (zfn s Z) vs h pu h' → xle h h' ∧ xna false h h' := by
  intro vs h pu h' hr
  obtain ⟨n, rk, k, tab, m⟩ := s
  obtain _ | _ | _ | _ | _ | _ | k := k
  · exact zrk_le _ (hZ _) _ _ _ _ hr
  · exact zrk_le _ (zvt_le hZ) _ _ _ _ hr
  · obtain ⟨r, e, -⟩ := hr
    dsimp only at e
    split at e
    · cases e; exact ⟨xle_r _, xna_r _ _⟩
    · cases e
  · obtain ⟨r, e, -⟩ := hr
    dsimp only at e
    split at e
    · cases e; exact ⟨xle_r _, xna_r _ _⟩
    · cases e
  · obtain ⟨r, e, -⟩ := hr
    dsimp only at e
    split at e
    · cases e; exact ⟨xle_r _, xna_r _ _⟩
    · cases e
  · obtain ⟨a0, sp, a1, dp, n, m0, m1, f, g, -, -, -, -, -, -, -, -, rfl⟩ := xcpyf_inv hr.1
    exact ⟨⟨by simp, Nat.le_refl _, Nat.le_refl _, xkp_set rfl⟩, fun _ => by simp⟩
  · obtain ⟨e, -⟩ := hr
    dsimp only at e
    split at e
    · cases e; exact ⟨xle_r _, xna_r _ _⟩
    · cases e
theorem zcall_le : ∀ (d m : Nat) (vs : List Value) (h : xS) (r : Option Value) (h' : xS), zcall d m vs h = some (r, h') → xle h h' ∧ h'.1.length = h.1.length := by
  intro d
  induction d with
  | zero => intro m vs h r h' e; cases e
  | succ d ih =>
    intro m vs h r h' e
    simp only [zcall] at e
    cases hm : mtab[m]? with
    | none =>
      rw [hm] at e
      dsimp only at e
      split at e
      · unfold zspc at e
        split at e
        · have := zans_le m vs h
          rw [Option.some.inj e] at this
          exact this
        · cases e
      · cases e
    | some X =>
      rw [hm] at e
      dsimp only at e
      split at e
      · obtain ⟨n, hn⟩ := xbig_ex e
        have := xrun_le (E := zenv X (zcall d)) (fun key n b F hk vs h pu h' hr => by
          obtain ⟨s, h1, h2⟩ := Option.map_eq_some_iff.mp hk
          cases h2
          exact zfn_le ih s vs h pu h' hr) n _ hn
        exact ⟨this.1, this.2 rfl⟩
      · cases e
