/-! THE CONSTRUCTORS, as runs of the pure machine -/
def ivd (r : Option (Option Value × xS)) : Option xS := match r with
  | some (none, h) => some h
  | _ => none
theorem ivd_inv {r : Option (Option Value × xS)} {h : xS} (e : ivd r = some h) : r = some (none, h) := by
  unfold ivd at e
  split at e
  · cases e; rfl
  · cases e
/-- a constructor's call, by its run -/
def iFn (E : xEnv) (cd : Nat → Option Instr) (nY : Nat) : xF := .inl (fun vs h => match vs with
  | [.ref a] => ivd (xfn E cd nY 500 [.ref a] h)
  | _ => none)
theorem xi_site {l : Launch} {own : String} {d dY k : Nat} {y : MethodName} {cy : ByteArray} {nY : Nat} {E : xEnv} {cd : Nat → Option Instr} (hy : plainName y.cls = true) (hE : xEOk l y.cls dY E) (hn : y.name = "<init>") (hret : E.2.2.2.2.2.2 = none) (hcd : ∀ pc i, cd pc = some i → xdec cy pc i) (hle : ∀ key n b F, E.2.2.1 key = some (n, b, F) → ∀ vs h pu h', xres F vs h pu h' → xle h h' ∧ xna b h h')
    (hc : ∀ (a : Nat) (h h' : xS), xMet l y cy nY none dY [.ref a] h none h' → xCallee l own d (3 * k + 2) [.ref a] h none h') : xSite l own d (3 * k + 2) 1 true (iFn E cd nY) := by
  have inv : ∀ vs h pu h', xres (iFn E cd nY) vs h pu h' → ∃ a, vs = [.ref a] ∧ pu = [] ∧ xfn E cd nY 500 [.ref a] h = some (none, h') := fun vs h pu h' hr => by
    obtain ⟨e, rfl⟩ := hr
    dsimp only at e
    split at e
    · exact ⟨_, rfl, rfl, ivd_inv e⟩
    · cases e
  refine xsite (fun vs h pu h' hr => ?_) (fun vs h pu h' hl hr => ?_)
  · obtain ⟨a, rfl, rfl, e⟩ := inv _ _ _ _ hr
    unfold xfn at e
    split at e
    · exact ⟨(xrun_le hle 500 _ e).1, fun z => by cases z⟩
    · cases e
  · obtain ⟨a, rfl, rfl, e⟩ := inv _ _ _ _ hr
    exact ⟨none, rfl, hc a h h' (xcert hy xcl_ok hE (fun _ => hn) hret hcd e)⟩
def il_X8 : List (Nat × Instr) := [(0, .aload_n 0), (1, .invokespecial 1), (4, .return_)]
theorem idk_X8 : il_X8.all (xdecB cX8_init) = true := by decide +kernel
def if_X8 : List (Nat × Nat × Nat × Nat × Bool) := []
def in_X8 : List (Nat × (Nat × Nat × List Value)) := []
def ia_X8 : List (Nat × Nat) := []
def ic_X8 : List (Nat × (Nat × Bool × xF)) := [(5, (1, false, xobj))]
def iE_X8 : xEnv := (ylk if_X8, fun _ => none, ylk ic_X8, ylk in_X8, ylk ia_X8, true, none)
def iF_X8 : xF := iFn iE_X8 (ylk il_X8) 1
theorem ifs_X8 : ∀ q ∈ if_X8, xFd RX8 q.1 q.2.1 q.2.2.1 q.2.2.2.1 q.2.2.2.2 := fun _ h => absurd h List.not_mem_nil
theorem ins_X8 : ∀ q ∈ in_X8, xNwOk RX8 q.1 q.2.1 q.2.2.1 q.2.2.2 := fun _ h => absurd h List.not_mem_nil
theorem ians_X8 : ∀ q ∈ ia_X8, xAnOk RX8 q.1 q.2 := fun _ h => absurd h List.not_mem_nil
theorem ics_X8_5 {l : Launch} : xSite l RX8 2 5 1 false xobj := xj_obj (k := 1) (by omega) (xTm (by decide +kernel)) (xTm (by decide +kernel)) (xTm (by decide +kernel))
theorem icl_X8 {l : Launch} : ∀ q ∈ ic_X8, xSite l RX8 2 q.1 q.2.1 q.2.2.1 q.2.2.2 := List.forall_mem_cons.mpr ⟨ics_X8_5, fun _ h => absurd h List.not_mem_nil⟩
theorem ie_X8 {l : Launch} : xEOk l RX8 2 iE_X8 := ⟨fun n ci k kd fin e => ifs_X8 _ (ylk_mem e), fun _ _ e => (by cases e), fun _ _ e => (by cases e), fun key n b F e => icl_X8 _ (ylk_mem e), fun k ci N fs e => ins_X8 _ (ylk_mem e), fun k t e => ians_X8 _ (ylk_mem e)⟩
theorem ile_X8 (l : Launch) : ∀ key n b F, iE_X8.2.2.1 key = some (n, b, F) → ∀ vs h pu h', xres F vs h pu h' → xle h h' ∧ xna b h h' := fun key n b F e => (icl_X8 (l := l) _ (ylk_mem e)).1
theorem iw_X8 : xYw yX8_init cX8_init 1 none 0 := ⟨xTm (by decide +kernel), xTm (by decide +kernel), by decide +kernel, by decide +kernel, by decide +kernel, by omega⟩
def il_X2 : List (Nat × Instr) := [(0, .aload_n 0), (1, .invokespecial 1), (4, .return_)]
theorem idk_X2 : il_X2.all (xdecB cX2_init) = true := by decide +kernel
def if_X2 : List (Nat × Nat × Nat × Nat × Bool) := []
def in_X2 : List (Nat × (Nat × Nat × List Value)) := []
def ia_X2 : List (Nat × Nat) := []
def ic_X2 : List (Nat × (Nat × Bool × xF)) := [(5, (1, true, iF_X8))]
def iE_X2 : xEnv := (ylk if_X2, fun _ => none, ylk ic_X2, ylk in_X2, ylk ia_X2, true, none)
def iF_X2 : xF := iFn iE_X2 (ylk il_X2) 1
theorem ifs_X2 : ∀ q ∈ if_X2, xFd RX2 q.1 q.2.1 q.2.2.1 q.2.2.2.1 q.2.2.2.2 := fun _ h => absurd h List.not_mem_nil
theorem ins_X2 : ∀ q ∈ in_X2, xNwOk RX2 q.1 q.2.1 q.2.2.1 q.2.2.2 := fun _ h => absurd h List.not_mem_nil
theorem ians_X2 : ∀ q ∈ ia_X2, xAnOk RX2 q.1 q.2 := fun _ h => absurd h List.not_mem_nil
theorem ics_X2_5 {l : Launch} : xSite l RX2 4 5 1 true iF_X8 := xi_site (k := 1) (dY := 2) (by decide +kernel) ie_X8 rfl rfl (xcd_of idk_X8) (ile_X8 l) (fun a h h' hM => xk_IN (k := 1) (host := "DegreeInMistakes") hM iw_X8 rfl (xNm (by decide +kernel)) (xTm (by decide +kernel)) (by omega))
theorem icl_X2 {l : Launch} : ∀ q ∈ ic_X2, xSite l RX2 4 q.1 q.2.1 q.2.2.1 q.2.2.2 := List.forall_mem_cons.mpr ⟨ics_X2_5, fun _ h => absurd h List.not_mem_nil⟩
theorem ie_X2 {l : Launch} : xEOk l RX2 4 iE_X2 := ⟨fun n ci k kd fin e => ifs_X2 _ (ylk_mem e), fun _ _ e => (by cases e), fun _ _ e => (by cases e), fun key n b F e => icl_X2 _ (ylk_mem e), fun k ci N fs e => ins_X2 _ (ylk_mem e), fun k t e => ians_X2 _ (ylk_mem e)⟩
theorem ile_X2 (l : Launch) : ∀ key n b F, iE_X2.2.2.1 key = some (n, b, F) → ∀ vs h pu h', xres F vs h pu h' → xle h h' ∧ xna b h h' := fun key n b F e => (icl_X2 (l := l) _ (ylk_mem e)).1
theorem iw_X2 : xYw yX2_init cX2_init 1 none 0 := ⟨xTm (by decide +kernel), xTm (by decide +kernel), by decide +kernel, by decide +kernel, by decide +kernel, by omega⟩
def il_X4 : List (Nat × Instr) := [(0, .aload_n 0), (1, .invokespecial 1), (4, .return_)]
theorem idk_X4 : il_X4.all (xdecB cX4_init) = true := by decide +kernel
def if_X4 : List (Nat × Nat × Nat × Nat × Bool) := []
def in_X4 : List (Nat × (Nat × Nat × List Value)) := []
def ia_X4 : List (Nat × Nat) := []
def ic_X4 : List (Nat × (Nat × Bool × xF)) := [(5, (1, true, iF_X8))]
def iE_X4 : xEnv := (ylk if_X4, fun _ => none, ylk ic_X4, ylk in_X4, ylk ia_X4, true, none)
def iF_X4 : xF := iFn iE_X4 (ylk il_X4) 1
theorem ifs_X4 : ∀ q ∈ if_X4, xFd RX4 q.1 q.2.1 q.2.2.1 q.2.2.2.1 q.2.2.2.2 := fun _ h => absurd h List.not_mem_nil
theorem ins_X4 : ∀ q ∈ in_X4, xNwOk RX4 q.1 q.2.1 q.2.2.1 q.2.2.2 := fun _ h => absurd h List.not_mem_nil
theorem ians_X4 : ∀ q ∈ ia_X4, xAnOk RX4 q.1 q.2 := fun _ h => absurd h List.not_mem_nil
theorem ics_X4_5 {l : Launch} : xSite l RX4 4 5 1 true iF_X8 := xi_site (k := 1) (dY := 2) (by decide +kernel) ie_X8 rfl rfl (xcd_of idk_X8) (ile_X8 l) (fun a h h' hM => xk_IN (k := 1) (host := "DegreeInMistakes") hM iw_X8 rfl (xNm (by decide +kernel)) (xTm (by decide +kernel)) (by omega))
theorem icl_X4 {l : Launch} : ∀ q ∈ ic_X4, xSite l RX4 4 q.1 q.2.1 q.2.2.1 q.2.2.2 := List.forall_mem_cons.mpr ⟨ics_X4_5, fun _ h => absurd h List.not_mem_nil⟩
theorem ie_X4 {l : Launch} : xEOk l RX4 4 iE_X4 := ⟨fun n ci k kd fin e => ifs_X4 _ (ylk_mem e), fun _ _ e => (by cases e), fun _ _ e => (by cases e), fun key n b F e => icl_X4 _ (ylk_mem e), fun k ci N fs e => ins_X4 _ (ylk_mem e), fun k t e => ians_X4 _ (ylk_mem e)⟩
theorem ile_X4 (l : Launch) : ∀ key n b F, iE_X4.2.2.1 key = some (n, b, F) → ∀ vs h pu h', xres F vs h pu h' → xle h h' ∧ xna b h h' := fun key n b F e => (icl_X4 (l := l) _ (ylk_mem e)).1
theorem iw_X4 : xYw yX4_init cX4_init 1 none 0 := ⟨xTm (by decide +kernel), xTm (by decide +kernel), by decide +kernel, by decide +kernel, by decide +kernel, by omega⟩
def il_X3 : List (Nat × Instr) := [(0, .aload_n 0), (1, .invokespecial 1), (4, .return_)]
theorem idk_X3 : il_X3.all (xdecB cX3_init) = true := by decide +kernel
def if_X3 : List (Nat × Nat × Nat × Nat × Bool) := []
def in_X3 : List (Nat × (Nat × Nat × List Value)) := []
def ia_X3 : List (Nat × Nat) := []
def ic_X3 : List (Nat × (Nat × Bool × xF)) := [(5, (1, true, iF_X2))]
def iE_X3 : xEnv := (ylk if_X3, fun _ => none, ylk ic_X3, ylk in_X3, ylk ia_X3, true, none)
def iF_X3 : xF := iFn iE_X3 (ylk il_X3) 1
theorem ifs_X3 : ∀ q ∈ if_X3, xFd RX3 q.1 q.2.1 q.2.2.1 q.2.2.2.1 q.2.2.2.2 := fun _ h => absurd h List.not_mem_nil
theorem ins_X3 : ∀ q ∈ in_X3, xNwOk RX3 q.1 q.2.1 q.2.2.1 q.2.2.2 := fun _ h => absurd h List.not_mem_nil
theorem ians_X3 : ∀ q ∈ ia_X3, xAnOk RX3 q.1 q.2 := fun _ h => absurd h List.not_mem_nil
theorem ics_X3_5 {l : Launch} : xSite l RX3 6 5 1 true iF_X2 := xi_site (k := 1) (dY := 4) (by decide +kernel) ie_X2 rfl rfl (xcd_of idk_X2) (ile_X2 l) (fun a h h' hM => xk_IN (k := 1) (host := "DegreeInMistakes") hM iw_X2 rfl (xNm (by decide +kernel)) (xTm (by decide +kernel)) (by omega))
theorem icl_X3 {l : Launch} : ∀ q ∈ ic_X3, xSite l RX3 6 q.1 q.2.1 q.2.2.1 q.2.2.2 := List.forall_mem_cons.mpr ⟨ics_X3_5, fun _ h => absurd h List.not_mem_nil⟩
theorem ie_X3 {l : Launch} : xEOk l RX3 6 iE_X3 := ⟨fun n ci k kd fin e => ifs_X3 _ (ylk_mem e), fun _ _ e => (by cases e), fun _ _ e => (by cases e), fun key n b F e => icl_X3 _ (ylk_mem e), fun k ci N fs e => ins_X3 _ (ylk_mem e), fun k t e => ians_X3 _ (ylk_mem e)⟩
theorem ile_X3 (l : Launch) : ∀ key n b F, iE_X3.2.2.1 key = some (n, b, F) → ∀ vs h pu h', xres F vs h pu h' → xle h h' ∧ xna b h h' := fun key n b F e => (icl_X3 (l := l) _ (ylk_mem e)).1
theorem iw_X3 : xYw yX3_init cX3_init 1 none 0 := ⟨xTm (by decide +kernel), xTm (by decide +kernel), by decide +kernel, by decide +kernel, by decide +kernel, by omega⟩
def il_X10 : List (Nat × Instr) := [(0, .aload_n 0), (1, .invokespecial 1), (4, .return_)]
theorem idk_X10 : il_X10.all (xdecB cX10_init) = true := by decide +kernel
def if_X10 : List (Nat × Nat × Nat × Nat × Bool) := []
def in_X10 : List (Nat × (Nat × Nat × List Value)) := []
def ia_X10 : List (Nat × Nat) := []
def ic_X10 : List (Nat × (Nat × Bool × xF)) := [(5, (1, true, iF_X4))]
def iE_X10 : xEnv := (ylk if_X10, fun _ => none, ylk ic_X10, ylk in_X10, ylk ia_X10, true, none)
def iF_X10 : xF := iFn iE_X10 (ylk il_X10) 1
theorem ifs_X10 : ∀ q ∈ if_X10, xFd RX10 q.1 q.2.1 q.2.2.1 q.2.2.2.1 q.2.2.2.2 := fun _ h => absurd h List.not_mem_nil
theorem ins_X10 : ∀ q ∈ in_X10, xNwOk RX10 q.1 q.2.1 q.2.2.1 q.2.2.2 := fun _ h => absurd h List.not_mem_nil
theorem ians_X10 : ∀ q ∈ ia_X10, xAnOk RX10 q.1 q.2 := fun _ h => absurd h List.not_mem_nil
theorem ics_X10_5 {l : Launch} : xSite l RX10 6 5 1 true iF_X4 := xi_site (k := 1) (dY := 4) (by decide +kernel) ie_X4 rfl rfl (xcd_of idk_X4) (ile_X4 l) (fun a h h' hM => xk_IN (k := 1) (host := "DegreeInMistakes") hM iw_X4 rfl (xNm (by decide +kernel)) (xTm (by decide +kernel)) (by omega))
theorem icl_X10 {l : Launch} : ∀ q ∈ ic_X10, xSite l RX10 6 q.1 q.2.1 q.2.2.1 q.2.2.2 := List.forall_mem_cons.mpr ⟨ics_X10_5, fun _ h => absurd h List.not_mem_nil⟩
theorem ie_X10 {l : Launch} : xEOk l RX10 6 iE_X10 := ⟨fun n ci k kd fin e => ifs_X10 _ (ylk_mem e), fun _ _ e => (by cases e), fun _ _ e => (by cases e), fun key n b F e => icl_X10 _ (ylk_mem e), fun k ci N fs e => ins_X10 _ (ylk_mem e), fun k t e => ians_X10 _ (ylk_mem e)⟩
theorem ile_X10 (l : Launch) : ∀ key n b F, iE_X10.2.2.1 key = some (n, b, F) → ∀ vs h pu h', xres F vs h pu h' → xle h h' ∧ xna b h h' := fun key n b F e => (icl_X10 (l := l) _ (ylk_mem e)).1
theorem iw_X10 : xYw yX10_init cX10_init 1 none 0 := ⟨xTm (by decide +kernel), xTm (by decide +kernel), by decide +kernel, by decide +kernel, by decide +kernel, by omega⟩
def il_X1 : List (Nat × Instr) := [(0, .aload_n 0), (1, .invokespecial 1), (4, .return_)]
theorem idk_X1 : il_X1.all (xdecB cX1_init) = true := by decide +kernel
def if_X1 : List (Nat × Nat × Nat × Nat × Bool) := []
def in_X1 : List (Nat × (Nat × Nat × List Value)) := []
def ia_X1 : List (Nat × Nat) := []
def ic_X1 : List (Nat × (Nat × Bool × xF)) := [(5, (1, true, iF_X2))]
def iE_X1 : xEnv := (ylk if_X1, fun _ => none, ylk ic_X1, ylk in_X1, ylk ia_X1, true, none)
def iF_X1 : xF := iFn iE_X1 (ylk il_X1) 1
theorem ifs_X1 : ∀ q ∈ if_X1, xFd RX1 q.1 q.2.1 q.2.2.1 q.2.2.2.1 q.2.2.2.2 := fun _ h => absurd h List.not_mem_nil
theorem ins_X1 : ∀ q ∈ in_X1, xNwOk RX1 q.1 q.2.1 q.2.2.1 q.2.2.2 := fun _ h => absurd h List.not_mem_nil
theorem ians_X1 : ∀ q ∈ ia_X1, xAnOk RX1 q.1 q.2 := fun _ h => absurd h List.not_mem_nil
theorem ics_X1_5 {l : Launch} : xSite l RX1 6 5 1 true iF_X2 := xi_site (k := 1) (dY := 4) (by decide +kernel) ie_X2 rfl rfl (xcd_of idk_X2) (ile_X2 l) (fun a h h' hM => xk_IN (k := 1) (host := "DegreeInMistakes") hM iw_X2 rfl (xNm (by decide +kernel)) (xTm (by decide +kernel)) (by omega))
theorem icl_X1 {l : Launch} : ∀ q ∈ ic_X1, xSite l RX1 6 q.1 q.2.1 q.2.2.1 q.2.2.2 := List.forall_mem_cons.mpr ⟨ics_X1_5, fun _ h => absurd h List.not_mem_nil⟩
theorem ie_X1 {l : Launch} : xEOk l RX1 6 iE_X1 := ⟨fun n ci k kd fin e => ifs_X1 _ (ylk_mem e), fun _ _ e => (by cases e), fun _ _ e => (by cases e), fun key n b F e => icl_X1 _ (ylk_mem e), fun k ci N fs e => ins_X1 _ (ylk_mem e), fun k t e => ians_X1 _ (ylk_mem e)⟩
theorem ile_X1 (l : Launch) : ∀ key n b F, iE_X1.2.2.1 key = some (n, b, F) → ∀ vs h pu h', xres F vs h pu h' → xle h h' ∧ xna b h h' := fun key n b F e => (icl_X1 (l := l) _ (ylk_mem e)).1
theorem iw_X1 : xYw yX1_init cX1_init 1 none 0 := ⟨xTm (by decide +kernel), xTm (by decide +kernel), by decide +kernel, by decide +kernel, by decide +kernel, by omega⟩
def il_X5 : List (Nat × Instr) := [(0, .aload_n 0), (1, .invokespecial 1), (4, .return_)]
theorem idk_X5 : il_X5.all (xdecB cX5_init) = true := by decide +kernel
def if_X5 : List (Nat × Nat × Nat × Nat × Bool) := []
def in_X5 : List (Nat × (Nat × Nat × List Value)) := []
def ia_X5 : List (Nat × Nat) := []
def ic_X5 : List (Nat × (Nat × Bool × xF)) := [(5, (1, true, iF_X3))]
def iE_X5 : xEnv := (ylk if_X5, fun _ => none, ylk ic_X5, ylk in_X5, ylk ia_X5, true, none)
def iF_X5 : xF := iFn iE_X5 (ylk il_X5) 1
theorem ifs_X5 : ∀ q ∈ if_X5, xFd RX5 q.1 q.2.1 q.2.2.1 q.2.2.2.1 q.2.2.2.2 := fun _ h => absurd h List.not_mem_nil
theorem ins_X5 : ∀ q ∈ in_X5, xNwOk RX5 q.1 q.2.1 q.2.2.1 q.2.2.2 := fun _ h => absurd h List.not_mem_nil
theorem ians_X5 : ∀ q ∈ ia_X5, xAnOk RX5 q.1 q.2 := fun _ h => absurd h List.not_mem_nil
theorem ics_X5_5 {l : Launch} : xSite l RX5 8 5 1 true iF_X3 := xi_site (k := 1) (dY := 6) (by decide +kernel) ie_X3 rfl rfl (xcd_of idk_X3) (ile_X3 l) (fun a h h' hM => xk_IN (k := 1) (host := "DegreeInMistakes") hM iw_X3 rfl (xNm (by decide +kernel)) (xTm (by decide +kernel)) (by omega))
theorem icl_X5 {l : Launch} : ∀ q ∈ ic_X5, xSite l RX5 8 q.1 q.2.1 q.2.2.1 q.2.2.2 := List.forall_mem_cons.mpr ⟨ics_X5_5, fun _ h => absurd h List.not_mem_nil⟩
theorem ie_X5 {l : Launch} : xEOk l RX5 8 iE_X5 := ⟨fun n ci k kd fin e => ifs_X5 _ (ylk_mem e), fun _ _ e => (by cases e), fun _ _ e => (by cases e), fun key n b F e => icl_X5 _ (ylk_mem e), fun k ci N fs e => ins_X5 _ (ylk_mem e), fun k t e => ians_X5 _ (ylk_mem e)⟩
theorem ile_X5 (l : Launch) : ∀ key n b F, iE_X5.2.2.1 key = some (n, b, F) → ∀ vs h pu h', xres F vs h pu h' → xle h h' ∧ xna b h h' := fun key n b F e => (icl_X5 (l := l) _ (ylk_mem e)).1
theorem iw_X5 : xYw yX5_init cX5_init 1 none 0 := ⟨xTm (by decide +kernel), xTm (by decide +kernel), by decide +kernel, by decide +kernel, by decide +kernel, by omega⟩
def il_X6 : List (Nat × Instr) := [(0, .aload_n 0), (1, .invokespecial 1), (4, .return_)]
theorem idk_X6 : il_X6.all (xdecB cX6_init) = true := by decide +kernel
def if_X6 : List (Nat × Nat × Nat × Nat × Bool) := []
def in_X6 : List (Nat × (Nat × Nat × List Value)) := []
def ia_X6 : List (Nat × Nat) := []
def ic_X6 : List (Nat × (Nat × Bool × xF)) := [(5, (1, true, iF_X8))]
def iE_X6 : xEnv := (ylk if_X6, fun _ => none, ylk ic_X6, ylk in_X6, ylk ia_X6, true, none)
def iF_X6 : xF := iFn iE_X6 (ylk il_X6) 1
theorem ifs_X6 : ∀ q ∈ if_X6, xFd RX6 q.1 q.2.1 q.2.2.1 q.2.2.2.1 q.2.2.2.2 := fun _ h => absurd h List.not_mem_nil
theorem ins_X6 : ∀ q ∈ in_X6, xNwOk RX6 q.1 q.2.1 q.2.2.1 q.2.2.2 := fun _ h => absurd h List.not_mem_nil
theorem ians_X6 : ∀ q ∈ ia_X6, xAnOk RX6 q.1 q.2 := fun _ h => absurd h List.not_mem_nil
theorem ics_X6_5 {l : Launch} : xSite l RX6 4 5 1 true iF_X8 := xi_site (k := 1) (dY := 2) (by decide +kernel) ie_X8 rfl rfl (xcd_of idk_X8) (ile_X8 l) (fun a h h' hM => xk_IN (k := 1) (host := "DegreeInMistakes") hM iw_X8 rfl (xNm (by decide +kernel)) (xTm (by decide +kernel)) (by omega))
theorem icl_X6 {l : Launch} : ∀ q ∈ ic_X6, xSite l RX6 4 q.1 q.2.1 q.2.2.1 q.2.2.2 := List.forall_mem_cons.mpr ⟨ics_X6_5, fun _ h => absurd h List.not_mem_nil⟩
theorem ie_X6 {l : Launch} : xEOk l RX6 4 iE_X6 := ⟨fun n ci k kd fin e => ifs_X6 _ (ylk_mem e), fun _ _ e => (by cases e), fun _ _ e => (by cases e), fun key n b F e => icl_X6 _ (ylk_mem e), fun k ci N fs e => ins_X6 _ (ylk_mem e), fun k t e => ians_X6 _ (ylk_mem e)⟩
theorem ile_X6 (l : Launch) : ∀ key n b F, iE_X6.2.2.1 key = some (n, b, F) → ∀ vs h pu h', xres F vs h pu h' → xle h h' ∧ xna b h h' := fun key n b F e => (icl_X6 (l := l) _ (ylk_mem e)).1
theorem iw_X6 : xYw yX6_init cX6_init 1 none 0 := ⟨xTm (by decide +kernel), xTm (by decide +kernel), by decide +kernel, by decide +kernel, by decide +kernel, by omega⟩
def il_X0 : List (Nat × Instr) := [(0, .aload_n 0), (1, .invokespecial 3), (4, .aload_n 0), (5, .bipush 8), (7, .anewarray 9), (10, .dup), (11, .iconst 0), (12, .new 9), (15, .dup), (16, .invokespecial 11), (19, .aastore), (20, .dup), (21, .iconst 1), (22, .new 12), (25, .dup), (26, .invokespecial 14), (29, .aastore), (30, .dup), (31, .iconst 2), (32, .new 15), (35, .dup), (36, .invokespecial 17), (39, .aastore), (40, .dup), (41, .iconst 3), (42, .new 18), (45, .dup), (46, .invokespecial 20), (49, .aastore), (50, .dup), (51, .iconst 4), (52, .new 21), (55, .dup), (56, .invokespecial 23), (59, .aastore), (60, .dup), (61, .iconst 5), (62, .new 24), (65, .dup), (66, .invokespecial 26), (69, .aastore), (70, .dup), (71, .bipush 6), (73, .new 27), (76, .dup), (77, .invokespecial 29), (80, .aastore), (81, .dup), (82, .bipush 7), (84, .new 30), (87, .dup), (88, .invokespecial 32), (91, .aastore), (92, .putfield 33), (95, .aload_n 0), (96, .bipush 6), (98, .newarray .int), (100, .putfield 39), (103, .aload_n 0), (104, .bipush 6), (106, .newarray .int), (108, .putfield 43), (111, .aload_n 0), (112, .bipush 12), (114, .newarray .int), (116, .putfield 46), (119, .aload_n 0), (120, .bipush 12), (122, .newarray .int), (124, .putfield 49), (127, .aload_n 0), (128, .bipush 12), (130, .newarray .int), (132, .putfield 52), (135, .aload_n 0), (136, .bipush 12), (138, .newarray .int), (140, .putfield 55), (143, .aload_n 0), (144, .bipush 12), (146, .newarray .int), (148, .putfield 58), (151, .aload_n 0), (152, .bipush 6), (154, .newarray .int), (156, .putfield 61), (159, .aload_n 0), (160, .bipush 6), (162, .newarray .int), (164, .putfield 64), (167, .return_)]
theorem idk_X0 : il_X0.all (xdecB cX0_init) = true := by decide +kernel
def if_X0 : List (Nat × Nat × Nat × Nat × Bool) := [(33, 0, 0, 1, true), (39, 0, 2, 1, true), (43, 0, 3, 1, true), (46, 0, 6, 1, true), (49, 0, 7, 1, true), (52, 0, 8, 1, true), (55, 0, 9, 1, true), (58, 0, 10, 1, true), (61, 0, 13, 1, true), (64, 0, 14, 1, true)]
def in_X0 : List (Nat × (Nat × Nat × List Value)) := [(9, (8, 0, [])), (12, (2, 0, [])), (15, (4, 0, [])), (18, (3, 0, [])), (21, (9, 0, [])), (24, (1, 0, [])), (27, (5, 0, [])), (30, (6, 0, []))]
def ia_X0 : List (Nat × Nat) := [(9, 1)]
def ic_X0 : List (Nat × (Nat × Bool × xF)) := [(11, (1, false, xobj)), (35, (1, true, iF_X8)), (44, (1, true, iF_X2)), (53, (1, true, iF_X4)), (62, (1, true, iF_X3)), (71, (1, true, iF_X10)), (80, (1, true, iF_X1)), (89, (1, true, iF_X5)), (98, (1, true, iF_X6))]
def iE_X0 : xEnv := (ylk if_X0, fun _ => none, ylk ic_X0, ylk in_X0, ylk ia_X0, true, none)
def iF_X0 : xF := iFn iE_X0 (ylk il_X0) 1
theorem ifd_X0_33 : xFd RX0 33 0 0 1 true := ⟨RX0, TX0, 15, rfl, by decide, rfl, rfl, Or.inl ⟨rfl, xTm (by decide +kernel)⟩, Or.inr (Or.inr (Or.inl ⟨rfl, (.array (.object "DegreeInMistakes$Student")), by decide +kernel, fun _ => ⟨rfl, rfl⟩⟩))⟩
theorem ifd_X0_39 : xFd RX0 39 0 2 1 true := ⟨RX0, TX0, 15, rfl, by decide, rfl, rfl, Or.inl ⟨rfl, xTm (by decide +kernel)⟩, Or.inr (Or.inr (Or.inl ⟨rfl, (.array .int), by decide +kernel, fun _ => ⟨rfl, rfl⟩⟩))⟩
theorem ifd_X0_43 : xFd RX0 43 0 3 1 true := ⟨RX0, TX0, 15, rfl, by decide, rfl, rfl, Or.inl ⟨rfl, xTm (by decide +kernel)⟩, Or.inr (Or.inr (Or.inl ⟨rfl, (.array .int), by decide +kernel, fun _ => ⟨rfl, rfl⟩⟩))⟩
theorem ifd_X0_46 : xFd RX0 46 0 6 1 true := ⟨RX0, TX0, 15, rfl, by decide, rfl, rfl, Or.inl ⟨rfl, xTm (by decide +kernel)⟩, Or.inr (Or.inr (Or.inl ⟨rfl, (.array .int), by decide +kernel, fun _ => ⟨rfl, rfl⟩⟩))⟩
theorem ifd_X0_49 : xFd RX0 49 0 7 1 true := ⟨RX0, TX0, 15, rfl, by decide, rfl, rfl, Or.inl ⟨rfl, xTm (by decide +kernel)⟩, Or.inr (Or.inr (Or.inl ⟨rfl, (.array .int), by decide +kernel, fun _ => ⟨rfl, rfl⟩⟩))⟩
theorem ifd_X0_52 : xFd RX0 52 0 8 1 true := ⟨RX0, TX0, 15, rfl, by decide, rfl, rfl, Or.inl ⟨rfl, xTm (by decide +kernel)⟩, Or.inr (Or.inr (Or.inl ⟨rfl, (.array .int), by decide +kernel, fun _ => ⟨rfl, rfl⟩⟩))⟩
theorem ifd_X0_55 : xFd RX0 55 0 9 1 true := ⟨RX0, TX0, 15, rfl, by decide, rfl, rfl, Or.inl ⟨rfl, xTm (by decide +kernel)⟩, Or.inr (Or.inr (Or.inl ⟨rfl, (.array .int), by decide +kernel, fun _ => ⟨rfl, rfl⟩⟩))⟩
theorem ifd_X0_58 : xFd RX0 58 0 10 1 true := ⟨RX0, TX0, 15, rfl, by decide, rfl, rfl, Or.inl ⟨rfl, xTm (by decide +kernel)⟩, Or.inr (Or.inr (Or.inl ⟨rfl, (.array .int), by decide +kernel, fun _ => ⟨rfl, rfl⟩⟩))⟩
theorem ifd_X0_61 : xFd RX0 61 0 13 1 true := ⟨RX0, TX0, 15, rfl, by decide, rfl, rfl, Or.inl ⟨rfl, xTm (by decide +kernel)⟩, Or.inr (Or.inr (Or.inl ⟨rfl, (.array .int), by decide +kernel, fun _ => ⟨rfl, rfl⟩⟩))⟩
theorem ifd_X0_64 : xFd RX0 64 0 14 1 true := ⟨RX0, TX0, 15, rfl, by decide, rfl, rfl, Or.inl ⟨rfl, xTm (by decide +kernel)⟩, Or.inr (Or.inr (Or.inl ⟨rfl, (.array .int), by decide +kernel, fun _ => ⟨rfl, rfl⟩⟩))⟩
theorem ifs_X0 : ∀ q ∈ if_X0, xFd RX0 q.1 q.2.1 q.2.2.1 q.2.2.2.1 q.2.2.2.2 := List.forall_mem_cons.mpr ⟨ifd_X0_33, List.forall_mem_cons.mpr ⟨ifd_X0_39, List.forall_mem_cons.mpr ⟨ifd_X0_43, List.forall_mem_cons.mpr ⟨ifd_X0_46, List.forall_mem_cons.mpr ⟨ifd_X0_49, List.forall_mem_cons.mpr ⟨ifd_X0_52, List.forall_mem_cons.mpr ⟨ifd_X0_55, List.forall_mem_cons.mpr ⟨ifd_X0_58, List.forall_mem_cons.mpr ⟨ifd_X0_61, List.forall_mem_cons.mpr ⟨ifd_X0_64, fun _ h => absurd h List.not_mem_nil⟩⟩⟩⟩⟩⟩⟩⟩⟩⟩
theorem inw_X0_9 : xNwOk RX0 9 8 0 [] := by
  refine ⟨RX8, TX8, fun _ => .int, rfl, ?_, ?_, ?_, xTm (by decide +kernel), xTm (by decide +kernel), xTm (by decide +kernel)⟩
  · exact fun k hk => absurd hk (Nat.not_lt_zero k)
  · exact fun k hk => absurd hk (Nat.not_lt_zero k)
  · intro v hv ad
    cases hv
theorem inw_X0_12 : xNwOk RX0 12 2 0 [] := by
  refine ⟨RX2, TX2, fun _ => .int, rfl, ?_, ?_, ?_, xTm (by decide +kernel), xTm (by decide +kernel), xTm (by decide +kernel)⟩
  · exact fun k hk => absurd hk (Nat.not_lt_zero k)
  · exact fun k hk => absurd hk (Nat.not_lt_zero k)
  · intro v hv ad
    cases hv
theorem inw_X0_15 : xNwOk RX0 15 4 0 [] := by
  refine ⟨RX4, TX4, fun _ => .int, rfl, ?_, ?_, ?_, xTm (by decide +kernel), xTm (by decide +kernel), xTm (by decide +kernel)⟩
  · exact fun k hk => absurd hk (Nat.not_lt_zero k)
  · exact fun k hk => absurd hk (Nat.not_lt_zero k)
  · intro v hv ad
    cases hv
theorem inw_X0_18 : xNwOk RX0 18 3 0 [] := by
  refine ⟨RX3, TX3, fun _ => .int, rfl, ?_, ?_, ?_, xTm (by decide +kernel), xTm (by decide +kernel), xTm (by decide +kernel)⟩
  · exact fun k hk => absurd hk (Nat.not_lt_zero k)
  · exact fun k hk => absurd hk (Nat.not_lt_zero k)
  · intro v hv ad
    cases hv
theorem inw_X0_21 : xNwOk RX0 21 9 0 [] := by
  refine ⟨RX10, TX10, fun _ => .int, rfl, ?_, ?_, ?_, xTm (by decide +kernel), xTm (by decide +kernel), xTm (by decide +kernel)⟩
  · exact fun k hk => absurd hk (Nat.not_lt_zero k)
  · exact fun k hk => absurd hk (Nat.not_lt_zero k)
  · intro v hv ad
    cases hv
theorem inw_X0_24 : xNwOk RX0 24 1 0 [] := by
  refine ⟨RX1, TX1, fun _ => .int, rfl, ?_, ?_, ?_, xTm (by decide +kernel), xTm (by decide +kernel), xTm (by decide +kernel)⟩
  · exact fun k hk => absurd hk (Nat.not_lt_zero k)
  · exact fun k hk => absurd hk (Nat.not_lt_zero k)
  · intro v hv ad
    cases hv
theorem inw_X0_27 : xNwOk RX0 27 5 0 [] := by
  refine ⟨RX5, TX5, fun _ => .int, rfl, ?_, ?_, ?_, xTm (by decide +kernel), xTm (by decide +kernel), xTm (by decide +kernel)⟩
  · exact fun k hk => absurd hk (Nat.not_lt_zero k)
  · exact fun k hk => absurd hk (Nat.not_lt_zero k)
  · intro v hv ad
    cases hv
theorem inw_X0_30 : xNwOk RX0 30 6 0 [] := by
  refine ⟨RX6, TX6, fun _ => .int, rfl, ?_, ?_, ?_, xTm (by decide +kernel), xTm (by decide +kernel), xTm (by decide +kernel)⟩
  · exact fun k hk => absurd hk (Nat.not_lt_zero k)
  · exact fun k hk => absurd hk (Nat.not_lt_zero k)
  · intro v hv ad
    cases hv
theorem ins_X0 : ∀ q ∈ in_X0, xNwOk RX0 q.1 q.2.1 q.2.2.1 q.2.2.2 := List.forall_mem_cons.mpr ⟨inw_X0_9, List.forall_mem_cons.mpr ⟨inw_X0_12, List.forall_mem_cons.mpr ⟨inw_X0_15, List.forall_mem_cons.mpr ⟨inw_X0_18, List.forall_mem_cons.mpr ⟨inw_X0_21, List.forall_mem_cons.mpr ⟨inw_X0_24, List.forall_mem_cons.mpr ⟨inw_X0_27, List.forall_mem_cons.mpr ⟨inw_X0_30, fun _ h => absurd h List.not_mem_nil⟩⟩⟩⟩⟩⟩⟩⟩
theorem ian_X0_9 : xAnOk RX0 9 1 := ⟨RX8, xTm (by decide +kernel), xNm (by decide +kernel), Or.inl ⟨rfl, rfl⟩⟩
theorem ians_X0 : ∀ q ∈ ia_X0, xAnOk RX0 q.1 q.2 := List.forall_mem_cons.mpr ⟨ian_X0_9, fun _ h => absurd h List.not_mem_nil⟩
theorem ics_X0_11 {l : Launch} : xSite l RX0 10 11 1 false xobj := xj_obj (k := 3) (by omega) (xTm (by decide +kernel)) (xTm (by decide +kernel)) (xTm (by decide +kernel))
theorem ics_X0_35 {l : Launch} : xSite l RX0 10 35 1 true iF_X8 := xi_site (k := 11) (dY := 2) (by decide +kernel) ie_X8 rfl rfl (xcd_of idk_X8) (ile_X8 l) (fun a h h' hM => xk_IN (k := 11) (host := "DegreeInMistakes") hM iw_X8 rfl (xNm (by decide +kernel)) (xTm (by decide +kernel)) (by omega))
theorem ics_X0_44 {l : Launch} : xSite l RX0 10 44 1 true iF_X2 := xi_site (k := 14) (dY := 4) (by decide +kernel) ie_X2 rfl rfl (xcd_of idk_X2) (ile_X2 l) (fun a h h' hM => xk_IN (k := 14) (host := "DegreeInMistakes") hM iw_X2 rfl (xNm (by decide +kernel)) (xTm (by decide +kernel)) (by omega))
theorem ics_X0_53 {l : Launch} : xSite l RX0 10 53 1 true iF_X4 := xi_site (k := 17) (dY := 4) (by decide +kernel) ie_X4 rfl rfl (xcd_of idk_X4) (ile_X4 l) (fun a h h' hM => xk_IN (k := 17) (host := "DegreeInMistakes") hM iw_X4 rfl (xNm (by decide +kernel)) (xTm (by decide +kernel)) (by omega))
theorem ics_X0_62 {l : Launch} : xSite l RX0 10 62 1 true iF_X3 := xi_site (k := 20) (dY := 6) (by decide +kernel) ie_X3 rfl rfl (xcd_of idk_X3) (ile_X3 l) (fun a h h' hM => xk_IN (k := 20) (host := "DegreeInMistakes") hM iw_X3 rfl (xNm (by decide +kernel)) (xTm (by decide +kernel)) (by omega))
theorem ics_X0_71 {l : Launch} : xSite l RX0 10 71 1 true iF_X10 := xi_site (k := 23) (dY := 6) (by decide +kernel) ie_X10 rfl rfl (xcd_of idk_X10) (ile_X10 l) (fun a h h' hM => xk_IN (k := 23) (host := "DegreeInMistakes") hM iw_X10 rfl (xNm (by decide +kernel)) (xTm (by decide +kernel)) (by omega))
theorem ics_X0_80 {l : Launch} : xSite l RX0 10 80 1 true iF_X1 := xi_site (k := 26) (dY := 6) (by decide +kernel) ie_X1 rfl rfl (xcd_of idk_X1) (ile_X1 l) (fun a h h' hM => xk_IN (k := 26) (host := "DegreeInMistakes") hM iw_X1 rfl (xNm (by decide +kernel)) (xTm (by decide +kernel)) (by omega))
theorem ics_X0_89 {l : Launch} : xSite l RX0 10 89 1 true iF_X5 := xi_site (k := 29) (dY := 8) (by decide +kernel) ie_X5 rfl rfl (xcd_of idk_X5) (ile_X5 l) (fun a h h' hM => xk_IN (k := 29) (host := "DegreeInMistakes") hM iw_X5 rfl (xNm (by decide +kernel)) (xTm (by decide +kernel)) (by omega))
theorem ics_X0_98 {l : Launch} : xSite l RX0 10 98 1 true iF_X6 := xi_site (k := 32) (dY := 4) (by decide +kernel) ie_X6 rfl rfl (xcd_of idk_X6) (ile_X6 l) (fun a h h' hM => xk_IN (k := 32) (host := "DegreeInMistakes") hM iw_X6 rfl (xNm (by decide +kernel)) (xTm (by decide +kernel)) (by omega))
theorem icl_X0 {l : Launch} : ∀ q ∈ ic_X0, xSite l RX0 10 q.1 q.2.1 q.2.2.1 q.2.2.2 := List.forall_mem_cons.mpr ⟨ics_X0_11, List.forall_mem_cons.mpr ⟨ics_X0_35, List.forall_mem_cons.mpr ⟨ics_X0_44, List.forall_mem_cons.mpr ⟨ics_X0_53, List.forall_mem_cons.mpr ⟨ics_X0_62, List.forall_mem_cons.mpr ⟨ics_X0_71, List.forall_mem_cons.mpr ⟨ics_X0_80, List.forall_mem_cons.mpr ⟨ics_X0_89, List.forall_mem_cons.mpr ⟨ics_X0_98, fun _ h => absurd h List.not_mem_nil⟩⟩⟩⟩⟩⟩⟩⟩⟩
theorem ie_X0 {l : Launch} : xEOk l RX0 10 iE_X0 := ⟨fun n ci k kd fin e => ifs_X0 _ (ylk_mem e), fun _ _ e => (by cases e), fun _ _ e => (by cases e), fun key n b F e => icl_X0 _ (ylk_mem e), fun k ci N fs e => ins_X0 _ (ylk_mem e), fun k t e => ians_X0 _ (ylk_mem e)⟩
theorem ile_X0 (l : Launch) : ∀ key n b F, iE_X0.2.2.1 key = some (n, b, F) → ∀ vs h pu h', xres F vs h pu h' → xle h h' ∧ xna b h h' := fun key n b F e => (icl_X0 (l := l) _ (ylk_mem e)).1
theorem iw_X0 : xYw yX0_init cX0_init 1 none 0 := ⟨xTm (by decide +kernel), xTm (by decide +kernel), by decide +kernel, by decide +kernel, by decide +kernel, by omega⟩
def il_X7 : List (Nat × Instr) := [(0, .aload_n 0), (1, .invokespecial 3), (4, .aload_n 0), (5, .iconst 0), (6, .putfield 11), (9, .aload_n 0), (10, .bipush 100), (12, .newarray .int), (14, .putfield 15), (17, .return_)]
theorem idk_X7 : il_X7.all (xdecB cX7_init) = true := by decide +kernel
def if_X7 : List (Nat × Nat × Nat × Nat × Bool) := [(11, 7, 0, 0, false), (15, 7, 5, 1, true)]
def in_X7 : List (Nat × (Nat × Nat × List Value)) := []
def ia_X7 : List (Nat × Nat) := []
def ic_X7 : List (Nat × (Nat × Bool × xF)) := [(11, (1, false, xobj))]
def iE_X7 : xEnv := (ylk if_X7, fun _ => none, ylk ic_X7, ylk in_X7, ylk ia_X7, true, none)
def iF_X7 : xF := iFn iE_X7 (ylk il_X7) 1
theorem ifd_X7_11 : xFd RX7 11 7 0 0 false := ⟨RX7, TX7, 6, rfl, by decide, rfl, rfl, Or.inl ⟨rfl, xTm (by decide +kernel)⟩, Or.inr (Or.inl ⟨rfl, by decide +kernel⟩)⟩
theorem ifd_X7_15 : xFd RX7 15 7 5 1 true := ⟨RX7, TX7, 6, rfl, by decide, rfl, rfl, Or.inl ⟨rfl, xTm (by decide +kernel)⟩, Or.inr (Or.inr (Or.inl ⟨rfl, (.array .int), by decide +kernel, fun _ => ⟨rfl, rfl⟩⟩))⟩
theorem ifs_X7 : ∀ q ∈ if_X7, xFd RX7 q.1 q.2.1 q.2.2.1 q.2.2.2.1 q.2.2.2.2 := List.forall_mem_cons.mpr ⟨ifd_X7_11, List.forall_mem_cons.mpr ⟨ifd_X7_15, fun _ h => absurd h List.not_mem_nil⟩⟩
theorem ins_X7 : ∀ q ∈ in_X7, xNwOk RX7 q.1 q.2.1 q.2.2.1 q.2.2.2 := fun _ h => absurd h List.not_mem_nil
theorem ians_X7 : ∀ q ∈ ia_X7, xAnOk RX7 q.1 q.2 := fun _ h => absurd h List.not_mem_nil
theorem ics_X7_11 {l : Launch} : xSite l RX7 2 11 1 false xobj := xj_obj (k := 3) (by omega) (xTm (by decide +kernel)) (xTm (by decide +kernel)) (xTm (by decide +kernel))
theorem icl_X7 {l : Launch} : ∀ q ∈ ic_X7, xSite l RX7 2 q.1 q.2.1 q.2.2.1 q.2.2.2 := List.forall_mem_cons.mpr ⟨ics_X7_11, fun _ h => absurd h List.not_mem_nil⟩
theorem ie_X7 {l : Launch} : xEOk l RX7 2 iE_X7 := ⟨fun n ci k kd fin e => ifs_X7 _ (ylk_mem e), fun _ _ e => (by cases e), fun _ _ e => (by cases e), fun key n b F e => icl_X7 _ (ylk_mem e), fun k ci N fs e => ins_X7 _ (ylk_mem e), fun k t e => ians_X7 _ (ylk_mem e)⟩
theorem ile_X7 (l : Launch) : ∀ key n b F, iE_X7.2.2.1 key = some (n, b, F) → ∀ vs h pu h', xres F vs h pu h' → xle h h' ∧ xna b h h' := fun key n b F e => (icl_X7 (l := l) _ (ylk_mem e)).1
theorem iw_X7 : xYw yX7_init cX7_init 1 none 0 := ⟨xTm (by decide +kernel), xTm (by decide +kernel), by decide +kernel, by decide +kernel, by decide +kernel, by omega⟩
def il_X11 : List (Nat × Instr) := [(0, .aload_n 0), (1, .invokespecial 3), (4, .aload_n 0), (5, .new 9), (8, .dup), (9, .invokespecial 11), (12, .putfield 12), (15, .aload_n 0), (16, .new 9), (19, .dup), (20, .invokespecial 11), (23, .putfield 16), (26, .aload_n 0), (27, .new 9), (30, .dup), (31, .invokespecial 11), (34, .putfield 19), (37, .aload_n 0), (38, .iconst 0), (39, .putfield 22), (42, .aload_n 0), (43, .bipush 8), (45, .anewarray 26), (48, .putfield 28), (51, .iconst 0), (52, .istore_n 1), (53, .iload_n 1), (54, .bipush 8), (56, .if_icmp .ge 22), (59, .aload_n 0), (60, .getfield 28), (63, .iload_n 1), (64, .new 26), (67, .dup), (68, .invokespecial 32), (71, .aastore), (72, .iinc 1 1), (75, .goto (-22)), (78, .aload_n 0), (79, .bipush 12), (81, .newarray .int), (83, .putfield 33), (86, .aload_n 0), (87, .bipush 8), (89, .newarray .int), (91, .putfield 37), (94, .aload_n 0), (95, .sipush 832), (98, .newarray .int), (100, .putfield 40), (103, .return_)]
theorem idk_X11 : il_X11.all (xdecB cX11_init) = true := by decide +kernel
def if_X11 : List (Nat × Nat × Nat × Nat × Bool) := [(12, 10, 0, 1, true), (16, 10, 1, 1, true), (19, 10, 2, 1, true), (22, 10, 3, 2, false), (28, 10, 4, 1, true), (33, 10, 5, 1, true), (37, 10, 6, 1, true), (40, 10, 7, 1, true)]
def in_X11 : List (Nat × (Nat × Nat × List Value)) := [(9, (0, 15, [.null, .int 0, .null, .null, .int 0, .int 0, .null, .null, .null, .null, .null, .int 0, .int 0, .null, .null])), (26, (7, 6, [.int 0, .int 0, .int 0, .int 0, .int 0, .null]))]
def ia_X11 : List (Nat × Nat) := [(26, 2)]
def ic_X11 : List (Nat × (Nat × Bool × xF)) := [(11, (1, false, xobj)), (35, (1, true, iF_X0)), (98, (1, true, iF_X7))]
def iE_X11 : xEnv := (ylk if_X11, fun _ => none, ylk ic_X11, ylk in_X11, ylk ia_X11, true, none)
def iF_X11 : xF := iFn iE_X11 (ylk il_X11) 2
theorem ifd_X11_12 : xFd RX11 12 10 0 1 true := ⟨RX11, TX11, 8, rfl, by decide, rfl, rfl, Or.inl ⟨rfl, xTm (by decide +kernel)⟩, Or.inr (Or.inr (Or.inl ⟨rfl, (.object "DegreeInMistakes$College"), by decide +kernel, fun _ => ⟨rfl, rfl⟩⟩))⟩
theorem ifd_X11_16 : xFd RX11 16 10 1 1 true := ⟨RX11, TX11, 8, rfl, by decide, rfl, rfl, Or.inl ⟨rfl, xTm (by decide +kernel)⟩, Or.inr (Or.inr (Or.inl ⟨rfl, (.object "DegreeInMistakes$College"), by decide +kernel, fun _ => ⟨rfl, rfl⟩⟩))⟩
theorem ifd_X11_19 : xFd RX11 19 10 2 1 true := ⟨RX11, TX11, 8, rfl, by decide, rfl, rfl, Or.inl ⟨rfl, xTm (by decide +kernel)⟩, Or.inr (Or.inr (Or.inl ⟨rfl, (.object "DegreeInMistakes$College"), by decide +kernel, fun _ => ⟨rfl, rfl⟩⟩))⟩
theorem ifd_X11_22 : xFd RX11 22 10 3 2 false := ⟨RX11, TX11, 8, rfl, by decide, rfl, rfl, Or.inl ⟨rfl, xTm (by decide +kernel)⟩, Or.inr (Or.inr (Or.inr ⟨rfl, by decide +kernel⟩))⟩
theorem ifd_X11_28 : xFd RX11 28 10 4 1 true := ⟨RX11, TX11, 8, rfl, by decide, rfl, rfl, Or.inl ⟨rfl, xTm (by decide +kernel)⟩, Or.inr (Or.inr (Or.inl ⟨rfl, (.array (.object "DegreeInMistakes$Shelf")), by decide +kernel, fun _ => ⟨rfl, rfl⟩⟩))⟩
theorem ifd_X11_33 : xFd RX11 33 10 5 1 true := ⟨RX11, TX11, 8, rfl, by decide, rfl, rfl, Or.inl ⟨rfl, xTm (by decide +kernel)⟩, Or.inr (Or.inr (Or.inl ⟨rfl, (.array .int), by decide +kernel, fun _ => ⟨rfl, rfl⟩⟩))⟩
theorem ifd_X11_37 : xFd RX11 37 10 6 1 true := ⟨RX11, TX11, 8, rfl, by decide, rfl, rfl, Or.inl ⟨rfl, xTm (by decide +kernel)⟩, Or.inr (Or.inr (Or.inl ⟨rfl, (.array .int), by decide +kernel, fun _ => ⟨rfl, rfl⟩⟩))⟩
theorem ifd_X11_40 : xFd RX11 40 10 7 1 true := ⟨RX11, TX11, 8, rfl, by decide, rfl, rfl, Or.inl ⟨rfl, xTm (by decide +kernel)⟩, Or.inr (Or.inr (Or.inl ⟨rfl, (.array .int), by decide +kernel, fun _ => ⟨rfl, rfl⟩⟩))⟩
theorem ifs_X11 : ∀ q ∈ if_X11, xFd RX11 q.1 q.2.1 q.2.2.1 q.2.2.2.1 q.2.2.2.2 := List.forall_mem_cons.mpr ⟨ifd_X11_12, List.forall_mem_cons.mpr ⟨ifd_X11_16, List.forall_mem_cons.mpr ⟨ifd_X11_19, List.forall_mem_cons.mpr ⟨ifd_X11_22, List.forall_mem_cons.mpr ⟨ifd_X11_28, List.forall_mem_cons.mpr ⟨ifd_X11_33, List.forall_mem_cons.mpr ⟨ifd_X11_37, List.forall_mem_cons.mpr ⟨ifd_X11_40, fun _ h => absurd h List.not_mem_nil⟩⟩⟩⟩⟩⟩⟩⟩
theorem inw_X11_9 : xNwOk RX11 9 0 15 [.null, .int 0, .null, .null, .int 0, .int 0, .null, .null, .null, .null, .null, .int 0, .int 0, .null, .null] := by
  refine ⟨RX0, TX0, fun k => match k with | 0 => (.array (.object "DegreeInMistakes$Student")) | 1 => .int | 2 => (.array .int) | 3 => (.array .int) | 4 => .int | 5 => .int | 6 => (.array .int) | 7 => (.array .int) | 8 => (.array .int) | 9 => (.array .int) | 10 => (.array .int) | 11 => .int | 12 => .int | 13 => (.array .int) | 14 => (.array .int) | _ => .int, rfl, ?_, ?_, ?_, xTm (by decide +kernel), xTm (by decide +kernel), xTm (by decide +kernel)⟩
  · intro k hk
    have : k = 0 ∨ k = 1 ∨ k = 2 ∨ k = 3 ∨ k = 4 ∨ k = 5 ∨ k = 6 ∨ k = 7 ∨ k = 8 ∨ k = 9 ∨ k = 10 ∨ k = 11 ∨ k = 12 ∨ k = 13 ∨ k = 14 := by omega
    rcases this with rfl | rfl | rfl | rfl | rfl | rfl | rfl | rfl | rfl | rfl | rfl | rfl | rfl | rfl | rfl <;> decide +kernel
  · intro k hk
    have : k = 0 ∨ k = 1 ∨ k = 2 ∨ k = 3 ∨ k = 4 ∨ k = 5 ∨ k = 6 ∨ k = 7 ∨ k = 8 ∨ k = 9 ∨ k = 10 ∨ k = 11 ∨ k = 12 ∨ k = 13 ∨ k = 14 := by omega
    rcases this with rfl | rfl | rfl | rfl | rfl | rfl | rfl | rfl | rfl | rfl | rfl | rfl | rfl | rfl | rfl <;> rfl
  · intro v hv ad
    simp only [List.mem_cons, List.not_mem_nil, or_false] at hv
    rcases hv with rfl | rfl | rfl | rfl | rfl | rfl | rfl | rfl | rfl | rfl | rfl | rfl | rfl | rfl | rfl <;> rfl
theorem inw_X11_26 : xNwOk RX11 26 7 6 [.int 0, .int 0, .int 0, .int 0, .int 0, .null] := by
  refine ⟨RX7, TX7, fun k => match k with | 0 => .int | 1 => .int | 2 => .int | 3 => .int | 4 => .int | 5 => (.array .int) | _ => .int, rfl, ?_, ?_, ?_, xTm (by decide +kernel), xTm (by decide +kernel), xTm (by decide +kernel)⟩
  · intro k hk
    have : k = 0 ∨ k = 1 ∨ k = 2 ∨ k = 3 ∨ k = 4 ∨ k = 5 := by omega
    rcases this with rfl | rfl | rfl | rfl | rfl | rfl <;> decide +kernel
  · intro k hk
    have : k = 0 ∨ k = 1 ∨ k = 2 ∨ k = 3 ∨ k = 4 ∨ k = 5 := by omega
    rcases this with rfl | rfl | rfl | rfl | rfl | rfl <;> rfl
  · intro v hv ad
    simp only [List.mem_cons, List.not_mem_nil, or_false] at hv
    rcases hv with rfl | rfl | rfl | rfl | rfl | rfl <;> rfl
theorem ins_X11 : ∀ q ∈ in_X11, xNwOk RX11 q.1 q.2.1 q.2.2.1 q.2.2.2 := List.forall_mem_cons.mpr ⟨inw_X11_9, List.forall_mem_cons.mpr ⟨inw_X11_26, fun _ h => absurd h List.not_mem_nil⟩⟩
theorem ian_X11_26 : xAnOk RX11 26 2 := ⟨RX7, xTm (by decide +kernel), xNm (by decide +kernel), Or.inr ⟨rfl, rfl⟩⟩
theorem ians_X11 : ∀ q ∈ ia_X11, xAnOk RX11 q.1 q.2 := List.forall_mem_cons.mpr ⟨ian_X11_26, fun _ h => absurd h List.not_mem_nil⟩
theorem ics_X11_11 {l : Launch} : xSite l RX11 12 11 1 false xobj := xj_obj (k := 3) (by omega) (xTm (by decide +kernel)) (xTm (by decide +kernel)) (xTm (by decide +kernel))
theorem ics_X11_35 {l : Launch} : xSite l RX11 12 35 1 true iF_X0 := xi_site (k := 11) (dY := 10) (by decide +kernel) ie_X0 rfl rfl (xcd_of idk_X0) (ile_X0 l) (fun a h h' hM => xk_IN (k := 11) (host := "DegreeInMistakes") hM iw_X0 rfl (xNm (by decide +kernel)) (xTm (by decide +kernel)) (by omega))
theorem ics_X11_98 {l : Launch} : xSite l RX11 12 98 1 true iF_X7 := xi_site (k := 32) (dY := 2) (by decide +kernel) ie_X7 rfl rfl (xcd_of idk_X7) (ile_X7 l) (fun a h h' hM => xk_IN (k := 32) (host := "DegreeInMistakes") hM iw_X7 rfl (xNm (by decide +kernel)) (xTm (by decide +kernel)) (by omega))
theorem icl_X11 {l : Launch} : ∀ q ∈ ic_X11, xSite l RX11 12 q.1 q.2.1 q.2.2.1 q.2.2.2 := List.forall_mem_cons.mpr ⟨ics_X11_11, List.forall_mem_cons.mpr ⟨ics_X11_35, List.forall_mem_cons.mpr ⟨ics_X11_98, fun _ h => absurd h List.not_mem_nil⟩⟩⟩
theorem ie_X11 {l : Launch} : xEOk l RX11 12 iE_X11 := ⟨fun n ci k kd fin e => ifs_X11 _ (ylk_mem e), fun _ _ e => (by cases e), fun _ _ e => (by cases e), fun key n b F e => icl_X11 _ (ylk_mem e), fun k ci N fs e => ins_X11 _ (ylk_mem e), fun k t e => ians_X11 _ (ylk_mem e)⟩
theorem ile_X11 (l : Launch) : ∀ key n b F, iE_X11.2.2.1 key = some (n, b, F) → ∀ vs h pu h', xres F vs h pu h' → xle h h' ∧ xna b h h' := fun key n b F e => (icl_X11 (l := l) _ (ylk_mem e)).1
theorem iw_X11 : xYw yX11_init cX11_init 2 none 0 := ⟨xTm (by decide +kernel), xTm (by decide +kernel), by decide +kernel, by decide +kernel, by decide +kernel, by omega⟩
def il_X12 : List (Nat × Instr) := [(0, .aload_n 0), (1, .invokespecial 1), (4, .aload_n 0), (5, .bipush 81), (7, .newarray .int), (9, .putfield 9), (12, .aload_n 0), (13, .bipush 81), (15, .newarray .int), (17, .putfield 13), (20, .aload_n 0), (21, .bipush 81), (23, .newarray .int), (25, .putfield 16), (28, .aload_n 0), (29, .bipush 81), (31, .newarray .int), (33, .putfield 19), (36, .aload_n 0), (37, .iconst 4), (38, .newarray .int), (40, .putfield 22), (43, .aload_n 0), (44, .sipush 832), (47, .newarray .int), (49, .putfield 25), (52, .aload_n 0), (53, .bipush 8), (55, .newarray .int), (57, .putfield 28), (60, .aload_n 0), (61, .bipush 8), (63, .newarray .int), (65, .putfield 31), (68, .aload_n 0), (69, .bipush 8), (71, .newarray .int), (73, .putfield 34), (76, .aload_n 0), (77, .bipush 8), (79, .newarray .int), (81, .putfield 37), (84, .aload_n 0), (85, .bipush 8), (87, .newarray .int), (89, .putfield 40), (92, .aload_n 0), (93, .sipush 800), (96, .newarray .int), (98, .putfield 43), (101, .return_)]
theorem idk_X12 : il_X12.all (xdecB cX12_init) = true := by decide +kernel
def if_X12 : List (Nat × Nat × Nat × Nat × Bool) := [(9, 11, 0, 1, true), (13, 11, 1, 1, true), (16, 11, 2, 1, true), (19, 11, 3, 1, true), (22, 11, 8, 1, true), (25, 11, 9, 1, true), (28, 11, 11, 1, true), (31, 11, 12, 1, true), (34, 11, 13, 1, true), (37, 11, 14, 1, true), (40, 11, 15, 1, true), (43, 11, 16, 1, true)]
def in_X12 : List (Nat × (Nat × Nat × List Value)) := []
def ia_X12 : List (Nat × Nat) := []
def ic_X12 : List (Nat × (Nat × Bool × xF)) := [(5, (1, false, xobj))]
def iE_X12 : xEnv := (ylk if_X12, fun _ => none, ylk ic_X12, ylk in_X12, ylk ia_X12, true, none)
def iF_X12 : xF := iFn iE_X12 (ylk il_X12) 1
theorem ifd_X12_9 : xFd RX12 9 11 0 1 true := ⟨RX12, TX12, 18, rfl, by decide, rfl, rfl, Or.inl ⟨rfl, xTm (by decide +kernel)⟩, Or.inr (Or.inr (Or.inl ⟨rfl, (.array .int), by decide +kernel, fun _ => ⟨rfl, rfl⟩⟩))⟩
theorem ifd_X12_13 : xFd RX12 13 11 1 1 true := ⟨RX12, TX12, 18, rfl, by decide, rfl, rfl, Or.inl ⟨rfl, xTm (by decide +kernel)⟩, Or.inr (Or.inr (Or.inl ⟨rfl, (.array .int), by decide +kernel, fun _ => ⟨rfl, rfl⟩⟩))⟩
theorem ifd_X12_16 : xFd RX12 16 11 2 1 true := ⟨RX12, TX12, 18, rfl, by decide, rfl, rfl, Or.inl ⟨rfl, xTm (by decide +kernel)⟩, Or.inr (Or.inr (Or.inl ⟨rfl, (.array .int), by decide +kernel, fun _ => ⟨rfl, rfl⟩⟩))⟩
theorem ifd_X12_19 : xFd RX12 19 11 3 1 true := ⟨RX12, TX12, 18, rfl, by decide, rfl, rfl, Or.inl ⟨rfl, xTm (by decide +kernel)⟩, Or.inr (Or.inr (Or.inl ⟨rfl, (.array .int), by decide +kernel, fun _ => ⟨rfl, rfl⟩⟩))⟩
theorem ifd_X12_22 : xFd RX12 22 11 8 1 true := ⟨RX12, TX12, 18, rfl, by decide, rfl, rfl, Or.inl ⟨rfl, xTm (by decide +kernel)⟩, Or.inr (Or.inr (Or.inl ⟨rfl, (.array .int), by decide +kernel, fun _ => ⟨rfl, rfl⟩⟩))⟩
theorem ifd_X12_25 : xFd RX12 25 11 9 1 true := ⟨RX12, TX12, 18, rfl, by decide, rfl, rfl, Or.inl ⟨rfl, xTm (by decide +kernel)⟩, Or.inr (Or.inr (Or.inl ⟨rfl, (.array .int), by decide +kernel, fun _ => ⟨rfl, rfl⟩⟩))⟩
theorem ifd_X12_28 : xFd RX12 28 11 11 1 true := ⟨RX12, TX12, 18, rfl, by decide, rfl, rfl, Or.inl ⟨rfl, xTm (by decide +kernel)⟩, Or.inr (Or.inr (Or.inl ⟨rfl, (.array .int), by decide +kernel, fun _ => ⟨rfl, rfl⟩⟩))⟩
theorem ifd_X12_31 : xFd RX12 31 11 12 1 true := ⟨RX12, TX12, 18, rfl, by decide, rfl, rfl, Or.inl ⟨rfl, xTm (by decide +kernel)⟩, Or.inr (Or.inr (Or.inl ⟨rfl, (.array .int), by decide +kernel, fun _ => ⟨rfl, rfl⟩⟩))⟩
theorem ifd_X12_34 : xFd RX12 34 11 13 1 true := ⟨RX12, TX12, 18, rfl, by decide, rfl, rfl, Or.inl ⟨rfl, xTm (by decide +kernel)⟩, Or.inr (Or.inr (Or.inl ⟨rfl, (.array .int), by decide +kernel, fun _ => ⟨rfl, rfl⟩⟩))⟩
theorem ifd_X12_37 : xFd RX12 37 11 14 1 true := ⟨RX12, TX12, 18, rfl, by decide, rfl, rfl, Or.inl ⟨rfl, xTm (by decide +kernel)⟩, Or.inr (Or.inr (Or.inl ⟨rfl, (.array .int), by decide +kernel, fun _ => ⟨rfl, rfl⟩⟩))⟩
theorem ifd_X12_40 : xFd RX12 40 11 15 1 true := ⟨RX12, TX12, 18, rfl, by decide, rfl, rfl, Or.inl ⟨rfl, xTm (by decide +kernel)⟩, Or.inr (Or.inr (Or.inl ⟨rfl, (.array .int), by decide +kernel, fun _ => ⟨rfl, rfl⟩⟩))⟩
theorem ifd_X12_43 : xFd RX12 43 11 16 1 true := ⟨RX12, TX12, 18, rfl, by decide, rfl, rfl, Or.inl ⟨rfl, xTm (by decide +kernel)⟩, Or.inr (Or.inr (Or.inl ⟨rfl, (.array .int), by decide +kernel, fun _ => ⟨rfl, rfl⟩⟩))⟩
theorem ifs_X12 : ∀ q ∈ if_X12, xFd RX12 q.1 q.2.1 q.2.2.1 q.2.2.2.1 q.2.2.2.2 := List.forall_mem_cons.mpr ⟨ifd_X12_9, List.forall_mem_cons.mpr ⟨ifd_X12_13, List.forall_mem_cons.mpr ⟨ifd_X12_16, List.forall_mem_cons.mpr ⟨ifd_X12_19, List.forall_mem_cons.mpr ⟨ifd_X12_22, List.forall_mem_cons.mpr ⟨ifd_X12_25, List.forall_mem_cons.mpr ⟨ifd_X12_28, List.forall_mem_cons.mpr ⟨ifd_X12_31, List.forall_mem_cons.mpr ⟨ifd_X12_34, List.forall_mem_cons.mpr ⟨ifd_X12_37, List.forall_mem_cons.mpr ⟨ifd_X12_40, List.forall_mem_cons.mpr ⟨ifd_X12_43, fun _ h => absurd h List.not_mem_nil⟩⟩⟩⟩⟩⟩⟩⟩⟩⟩⟩⟩
theorem ins_X12 : ∀ q ∈ in_X12, xNwOk RX12 q.1 q.2.1 q.2.2.1 q.2.2.2 := fun _ h => absurd h List.not_mem_nil
theorem ians_X12 : ∀ q ∈ ia_X12, xAnOk RX12 q.1 q.2 := fun _ h => absurd h List.not_mem_nil
theorem ics_X12_5 {l : Launch} : xSite l RX12 2 5 1 false xobj := xj_obj (k := 1) (by omega) (xTm (by decide +kernel)) (xTm (by decide +kernel)) (xTm (by decide +kernel))
theorem icl_X12 {l : Launch} : ∀ q ∈ ic_X12, xSite l RX12 2 q.1 q.2.1 q.2.2.1 q.2.2.2 := List.forall_mem_cons.mpr ⟨ics_X12_5, fun _ h => absurd h List.not_mem_nil⟩
theorem ie_X12 {l : Launch} : xEOk l RX12 2 iE_X12 := ⟨fun n ci k kd fin e => ifs_X12 _ (ylk_mem e), fun _ _ e => (by cases e), fun _ _ e => (by cases e), fun key n b F e => icl_X12 _ (ylk_mem e), fun k ci N fs e => ins_X12 _ (ylk_mem e), fun k t e => ians_X12 _ (ylk_mem e)⟩
theorem ile_X12 (l : Launch) : ∀ key n b F, iE_X12.2.2.1 key = some (n, b, F) → ∀ vs h pu h', xres F vs h pu h' → xle h h' ∧ xna b h h' := fun key n b F e => (icl_X12 (l := l) _ (ylk_mem e)).1
theorem iw_X12 : xYw yX12_init cX12_init 1 none 0 := ⟨xTm (by decide +kernel), xTm (by decide +kernel), by decide +kernel, by decide +kernel, by decide +kernel, by omega⟩
