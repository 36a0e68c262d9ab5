/-! calls of the JDK's own -/
def xmax : xF := .inr (.inl (fun vs h => match vs with | [.int x, .int y] => some (if x < y then y else x, h) | _ => none))
def xmin : xF := .inr (.inl (fun vs h => match vs with | [.int x, .int y] => some (if y < x then y else x, h) | _ => none))
def xabs : xF := .inr (.inl (fun vs h => match vs with | [.int x] => some (if 0 ≤ x then x else 0 - x, h) | _ => none))
def xobj : xF := .inl (fun vs h => match vs with | [.ref _] => some h | _ => none)
def xcpyf (vs : List Value) (h : xS) : Option xS :=
  match vs with
  | [.ref a0, .int sp, .ref a1, .int dp, .int n] => (match h.1[a0]?, h.1[a1]? with
    | some (.inl (0, n0, .inl f)), some (.inl (0, n1, .inl g)) => if sp < 0 ∨ dp < 0 ∨ n < 0 ∨ ¬ (sp.toNatClampNeg + n.toNatClampNeg ≤ n0) ∨ ¬ (dp.toNatClampNeg + n.toNatClampNeg ≤ n1) then none else some (h.1.set a1 (.inl (0, n1, .inl (va_cpy f g sp.toNatClampNeg dp.toNatClampNeg n.toNatClampNeg))), h.2)
    | _, _ => none)
  | _ => none
def xcpy : xF := .inl xcpyf
section XJ
variable {l : Launch} {own : String} {d k : Nat}
theorem xj_obj (hd : 1 ≤ d) (h1 : Cond.methodLink own k Lib.objectInit ∈ xT) (h2 : Cond.instanceMethod Lib.objectInit ∈ xT) (h3 : Cond.code Lib.objectInit ⟨#[0xb1]⟩ 1 none ∈ xT) : xSite l own d (3 * k + 2) 1 false xobj := by
  have inv : ∀ vs h pu h', xres xobj vs h pu h' → h' = h ∧ pu = [] ∧ ∃ a, vs = [.ref a] := by
    intro vs h pu h' hr
    obtain ⟨hr, hp⟩ := hr
    dsimp only at hr
    split at hr
    · cases hr; exact ⟨rfl, hp, _, rfl⟩
    · cases hr
  refine ⟨fun vs h pu h' hr => ?_, ?_⟩
  · obtain ⟨rfl, -, -⟩ := inv vs h pu h' hr
    exact ⟨xle_r _, xna_r _ _⟩
  intro p e R s m args below meth c cc D tc nL n0 ad0 A c0 s0 Q init rt pc L vs rest h pu h' hC hd1 hd2 hdec hn hcat hb hr k1 k2 k3 k4 hz
  obtain ⟨rfl, rfl, a, rfl⟩ := inv vs h pu h' hr
  obtain ⟨hx, hb, hml, hown, hts, hnw, hlk, hK, hA, hEx, -⟩ := hC
  have hdec : decode cc pc = .ok (.invokespecial k, 3) := by rw [hdec]; unfold xiv; rw [show (3 * k + 2) % 3 = 2 by omega, show (3 * k + 2) / 3 = k by omega]; rfl
  intro ad ls H locs ha hab hn0 hL hl hP hD hS
  have hc8 := xcat_ok (ad := ad) hcat
  exact W.objInit hx hb hown (hts _ h1) (hts _ h2) (hts _ h3) (g := F0 m pc ls (.ref (ad a) :: rest.map (xv ad))) rfl (by rw [hml]; exact hl.1) rfl hdec (by omega) (by show 2 * 0 + _ + 12 ≤ _; omega) (hz ad ls H locs ha hab hn0 hL hl hP hD hS)
theorem xj_max (hd : 1 ≤ d) (h1 : Cond.methodLink own k Lib.Math.max.name ∈ xT) (h2 : Cond.static Lib.Math.max.name ∈ xT) (h3 : Cond.initialized "java/lang/Math" ∈ xT) (h4 : Cond.code Lib.Math.max.name Lib.Math.max.code 2 (some .int) ∈ xT) : xSite l own d (3 * k + 1) 2 false xmax := by
  have inv : ∀ vs h pu h', xres xmax vs h pu h' → h' = h ∧ ∃ x y, vs = [.int x, .int y] ∧ pu = [.int (if x < y then y else x)] := by
    intro vs h pu h' hr
    obtain ⟨r, hr, hp⟩ := hr
    dsimp only at hr
    split at hr
    · cases hr; exact ⟨rfl, _, _, rfl, hp⟩
    · cases hr
  refine ⟨fun vs h pu h' hr => ?_, ?_⟩
  · obtain ⟨rfl, -, -⟩ := inv vs h pu h' hr
    exact ⟨xle_r _, xna_r _ _⟩
  intro p e R s m args below meth c cc D tc nL n0 ad0 A c0 s0 Q init rt pc L vs rest h pu h' hC hd1 hd2 hdec hn hcat hb hr k1 k2 k3 k4 hz
  obtain ⟨rfl, x, y, rfl, rfl⟩ := inv vs h pu h' hr
  obtain ⟨hx, hb, hml, hown, hts, hnw, hlk, hK, hA, hEx, -⟩ := hC
  have hdec : decode cc pc = .ok (.invokestatic k, 3) := by rw [hdec]; unfold xiv; rw [show (3 * k + 1) % 3 = 1 by omega, show (3 * k + 1) / 3 = k by omega]; rfl
  intro ad ls H locs ha hab hn0 hL hl hP hD hS
  have hc8 := xcat_ok (ad := ad) hcat
  exact va_mmax (rest := rest.map (xv ad)) hx hb (by rw [hml]; exact hl.1.symm) hown (hts _ h1) (hts _ h2) (hts _ h3) (hts _ h4) (by omega) (by omega) k3 k4 hdec (hz ad ls H locs ha hab hn0 hL hl hP hD hS)
theorem xj_min (hd : 1 ≤ d) (h1 : Cond.methodLink own k Lib.Math.min.name ∈ xT) (h2 : Cond.static Lib.Math.min.name ∈ xT) (h3 : Cond.initialized "java/lang/Math" ∈ xT) (h4 : Cond.code Lib.Math.min.name Lib.Math.min.code 2 (some .int) ∈ xT) : xSite l own d (3 * k + 1) 2 false xmin := by
  have inv : ∀ vs h pu h', xres xmin vs h pu h' → h' = h ∧ ∃ x y, vs = [.int x, .int y] ∧ pu = [.int (if y < x then y else x)] := by
    intro vs h pu h' hr
    obtain ⟨r, hr, hp⟩ := hr
    dsimp only at hr
    split at hr
    · cases hr; exact ⟨rfl, _, _, rfl, hp⟩
    · cases hr
  refine ⟨fun vs h pu h' hr => ?_, ?_⟩
  · obtain ⟨rfl, -, -⟩ := inv vs h pu h' hr
    exact ⟨xle_r _, xna_r _ _⟩
  intro p e R s m args below meth c cc D tc nL n0 ad0 A c0 s0 Q init rt pc L vs rest h pu h' hC hd1 hd2 hdec hn hcat hb hr k1 k2 k3 k4 hz
  obtain ⟨rfl, x, y, rfl, rfl⟩ := inv vs h pu h' hr
  obtain ⟨hx, hb, hml, hown, hts, hnw, hlk, hK, hA, hEx, -⟩ := hC
  have hdec : decode cc pc = .ok (.invokestatic k, 3) := by rw [hdec]; unfold xiv; rw [show (3 * k + 1) % 3 = 1 by omega, show (3 * k + 1) / 3 = k by omega]; rfl
  intro ad ls H locs ha hab hn0 hL hl hP hD hS
  have hc8 := xcat_ok (ad := ad) hcat
  exact va_mmin (rest := rest.map (xv ad)) hx hb (by rw [hml]; exact hl.1.symm) hown (hts _ h1) (hts _ h2) (hts _ h3) (hts _ h4) (by omega) (by omega) k3 k4 hdec (hz ad ls H locs ha hab hn0 hL hl hP hD hS)
theorem xj_abs (hd : 1 ≤ d) (h1 : Cond.methodLink own k Lib.Math.abs.name ∈ xT) (h2 : Cond.static Lib.Math.abs.name ∈ xT) (h3 : Cond.initialized "java/lang/Math" ∈ xT) (h4 : Cond.code Lib.Math.abs.name Lib.Math.abs.code 1 (some .int) ∈ xT) : xSite l own d (3 * k + 1) 1 false xabs := by
  have inv : ∀ vs h pu h', xres xabs vs h pu h' → h' = h ∧ ∃ x, vs = [.int x] ∧ pu = [.int (if 0 ≤ x then x else 0 - x)] := by
    intro vs h pu h' hr
    obtain ⟨r, hr, hp⟩ := hr
    dsimp only at hr
    split at hr
    · cases hr; exact ⟨rfl, _, rfl, hp⟩
    · cases hr
  refine ⟨fun vs h pu h' hr => ?_, ?_⟩
  · obtain ⟨rfl, -, -⟩ := inv vs h pu h' hr
    exact ⟨xle_r _, xna_r _ _⟩
  intro p e R s m args below meth c cc D tc nL n0 ad0 A c0 s0 Q init rt pc L vs rest h pu h' hC hd1 hd2 hdec hn hcat hb hr k1 k2 k3 k4 hz
  obtain ⟨rfl, x, rfl, rfl⟩ := inv vs h pu h' hr
  obtain ⟨hx, hb, hml, hown, hts, hnw, hlk, hK, hA, hEx, -⟩ := hC
  have hdec : decode cc pc = .ok (.invokestatic k, 3) := by rw [hdec]; unfold xiv; rw [show (3 * k + 1) % 3 = 1 by omega, show (3 * k + 1) / 3 = k by omega]; rfl
  intro ad ls H locs ha hab hn0 hL hl hP hD hS
  have hc8 := xcat_ok (ad := ad) hcat
  exact va_mabs (rest := rest.map (xv ad)) hx hb (by rw [hml]; exact hl.1.symm) hown (hts _ h1) (hts _ h2) (hts _ h3) (hts _ h4) (by omega) (by omega) k3 k4 hdec (hz ad ls H locs ha hab hn0 hL hl hP hD hS)
theorem xcpyf_inv {vs : List Value} {h h' : xS} (hr : xcpyf vs h = some h') : ∃ a0 sp a1 dp n n0 n1 f g, vs = [.ref a0, .int sp, .ref a1, .int dp, .int n] ∧ h.1[a0]? = some (.inl (0, n0, .inl f)) ∧ h.1[a1]? = some (.inl (0, n1, .inl g)) ∧ ¬ sp < 0 ∧ ¬ dp < 0 ∧ ¬ n < 0 ∧ sp.toNatClampNeg + n.toNatClampNeg ≤ n0 ∧ dp.toNatClampNeg + n.toNatClampNeg ≤ n1 ∧ h' = (h.1.set a1 (.inl (0, n1, .inl (va_cpy f g sp.toNatClampNeg dp.toNatClampNeg n.toNatClampNeg))), h.2) := by
  unfold xcpyf at hr
  split at hr
  · split at hr
    · rename_i n0 f n1 g e1 e2
      split at hr
      · cases hr
      · rename_i hc
        simp only [not_or, Classical.not_not] at hc
        cases hr
        exact ⟨_, _, _, _, _, _, _, _, _, rfl, e1, e2, hc.1, hc.2.1, hc.2.2.1, hc.2.2.2.1, hc.2.2.2.2, rfl⟩
    · cases hr
  · cases hr
theorem xj_cpy (hd : 1 ≤ d) (h1 : Cond.methodLink own k arraycopyName ∈ xT) (h2 : Cond.native arraycopyName ∈ xT) (h3 : Cond.static arraycopyName ∈ xT) (h4 : Cond.initialized "java/lang/System" ∈ xT) : xSite l own d (3 * k + 1) 5 false xcpy := by
  refine ⟨fun vs h pu h' hr => ?_, ?_⟩
  · obtain ⟨a0, sp, a1, dp, n, m0, m1, f, g, -, -, -, -, -, -, -, -, rfl⟩ := xcpyf_inv hr.1
    exact ⟨⟨by simp, Nat.le_refl _, Nat.le_refl _, xkp_set rfl⟩, fun _ => by simp⟩
  intro p e R s m args below meth c cc D tc nL n0 ad0 A c0 s0 Q init rt pc L vs rest h pu h' hC hd1 hd2 hdec hn hcat hb hr k1 k2 k3 k4 hz
  obtain ⟨a0, sp, a1, dp, n, m0, m1, f, g, rfl, e1, e2, o1, o2, o3, o4, o5, rfl⟩ := xcpyf_inv hr.1
  obtain ⟨hx, hb, hml, hown, hts, hnw, hlk, hK, hA, hEx, -⟩ := hC
  have hdec : decode cc pc = .ok (.invokestatic k, 3) := by rw [hdec]; unfold xiv; rw [show (3 * k + 1) % 3 = 1 by omega, show (3 * k + 1) / 3 = k by omega]; rfl
  obtain ⟨-, hpu⟩ := hr
  subst hpu
  intro ad ls H locs ha hab hn0 hL hl hP hD hS
  have hc8 := xcat_ok (ad := ad) hcat
  have hnf : nativeFrameWords "java/lang/System" "arraycopy" 5 + 11 ≤ 32 := by decide
  exact va_copyi (rest := rest.map (xv ad)) (ty := .int) hx hb (by rw [hml]; exact hl.1.symm) hown (hts _ h1) (hts _ h2) (hts _ h3) (hts _ h4) hK hP hD.1 hS (xk h.1 a0) (xk h.1 a1) 0 0 (xw_at e1 rfl) (xw_at e2 rfl) rfl rfl rfl o1 o2 o3 o4 o5 (fun _ _ => rfl) (by omega) (by omega) hdec (fun H1 locs1 hP1 hD1 hS1 => hz ad ls H1 locs1 ha (by simpa using hab) (by simpa using hn0) hL hl (xsetP _ e2 rfl rfl rfl hP1) (xsetD _ e2 rfl rfl hD rfl hD1) hS1)
end XJ
