/-! one step: by the instruction -/
section XS
variable {ρ : Type} {p : Program} {l : Launch} {e : Env} {R : Room} {s : State} {m : MethodId} {args : Array Value} {below : List Frame} {meth : Method} {c : Code} {own : String} {cc : ByteArray} {D : va_G} {tc : Nat → ClassId} {nL n0 : Nat} {ad0 : Nat → Nat} {A : Nat → Prop} {c0 s0 : Nat} {Q : State → Prop} {init : Bool} {rt : Option FieldType} {pc : Nat} {L : List (Option Value)} {st : List Value} {h : xS} {K : xSt → Option ρ} {x : ρ}
theorem xgo1 {q q' : xSt} (e1 : K q' = some x) (e2 : q.2.2.2 = q'.2.2.2) (hl : q'.2.1.length = q.2.1.length)
    (hz : ∀ (ad : Nat → Nat) (ls : Array Slot) (H : Heap) (locs : List Loc), lv_has ls nL (xl ad q.2.1) → q.2.1.length = nL → va_P D vwCl (xw tc ad q.2.2.2.1) H → xD s A tc ad q.2.2.2.1 → va_S A s.heap H locs → (∀ ls', lv_has ls' nL (xl ad q'.2.1) → W p l e R s m args below meth c H locs (q.2.2.2.2.1 - c0) (q.2.2.2.2.2 - s0) Q (F0 m q'.1 ls' (q'.2.2.1.map (xv ad)))) → W p l e R s m args below meth c H locs (q.2.2.2.2.1 - c0) (q.2.2.2.2.2 - s0) Q (F0 m q.1 ls (q.2.2.1.map (xv ad)))) :
    xGo p l e R s m args below meth c D tc nL n0 ad0 A c0 s0 Q init q K x := by
  refine ⟨q', e1, by rw [e2]; exact xle_r _, by rw [e2]; exact xna_r _ _, fun _ _ _ _ hq => ?_⟩
  intro ad ls H locs ha hab hn hL hl1 hP hD hS
  refine hz ad ls H locs hl1 hL hP hD hS (fun ls' hl' => ?_)
  have := hq ad ls' H locs ha (by rw [← e2]; exact hab) (by rw [← e2]; exact hn) (by rw [hl]; exact hL) hl' (by rw [← e2]; exact hP) (by rw [← e2]; exact hD) hS
  rw [← e2] at this
  exact this








theorem xst1_len {L L' : List (Option Value)} {i : Nat} {v : Value} (e : xst1 L i v = some L') : L'.length = L.length := by
  unfold xst1 at e
  split at e <;> first | (cases e; done) | (cases e; simp [xkl_len])
theorem xst2_len {L L' : List (Option Value)} {i : Nat} {v : Value} (e : xst2 L i v = some L') : L'.length = L.length := by
  unfold xst2 at e
  split at e <;> first | (cases e; done) | (cases e; simp [xkl_len])
/-- a new cell of a kind by its number in the pool -/
def xNwOk (own : String) (k ci N : Nat) (fs : List Value) : Prop := ∃ (C : String) (T : u_T) (ty : Nat → FieldType), vwCl[ci]? = some (C, T, N) ∧ (∀ k, k < N → parseFieldDescriptor (T k).2.2.1 = some (ty k)) ∧ (∀ j, j < N → defaultValue (ty j) = vp_V fs j) ∧ (∀ v ∈ fs, ∀ ad, xv ad v = v) ∧ Cond.classLink own k C ∈ xT ∧ Cond.instantiable C N ∈ xT ∧ Cond.initialized C ∈ xT
def xAnOk (own : String) (k t : Nat) : Prop := ∃ C, Cond.classLink own k C ∈ xT ∧ Cond.arrayOver (.object C) ∈ xNW ∧ ((t = 1 ∧ C = RX8) ∨ (t = 2 ∧ C = RX7))
/-- what the environment of a method says is so -/
def xEOk (l : Launch) (own : String) (d : Nat) (E : xEnv) : Prop :=
  (∀ n ci k kd fin, E.1 n = some (ci, k, kd, fin) → xFd own n ci k kd fin) ∧ (∀ n v, E.2.1 n = some (.inl v) → Cond.constant own n v ∈ xT) ∧ (∀ n v, E.2.1 n = some (.inr v) → Cond.constantLong own n v ∈ xT) ∧
  (∀ key n b F, E.2.2.1 key = some (n, b, F) → xSite l own d key n b F) ∧ (∀ k ci N fs, E.2.2.2.1 k = some (ci, N, fs) → xNwOk own k ci N fs) ∧ (∀ k t, E.2.2.2.2.1 k = some t → xAnOk own k t)
/-- where a method ends -/
def xRt (i : Instr) (st : List Value) (rt : Option FieldType) (r : Option Value) : Prop :=
  (i = .return_ ∧ st = [] ∧ rt = none ∧ r = none) ∨ (i = .ireturn ∧ ∃ v, st = [.int v] ∧ r = some (.int v) ∧ (rt = some .int ∨ (rt = some .boolean ∧ (v = 0 ∨ v = 1)))) ∨ (i = .lreturn ∧ ∃ v, st = [.long v] ∧ r = some (.long v) ∧ rt = some .long)

theorem xoff_ok {pc : Nat} {d : Int} (h : 0 ≤ (pc : Int) + d) {v : Int} : ∀ (ps : List (Int × Int)), (∀ q ∈ ps, 0 ≤ (pc : Int) + q.2) → 0 ≤ (pc : Int) + Op.lookupswitch.offset ps d v := by
  intro ps
  induction ps with
  | nil => intro _; simpa [Op.lookupswitch.offset] using h
  | cons q r ih =>
    intro hq
    have h1 := hq q List.mem_cons_self
    have h2 := ih (fun z hz => hq z (List.mem_cons_of_mem _ hz))
    obtain ⟨a, o⟩ := q
    simp only [Op.lookupswitch.offset]
    split <;> assumption

theorem xsetP {D : va_G} {tc : Nat → ClassId} {ad : Nat → Nat} {os : List xO} {k : Nat} {H : Heap} (o : xO) {o0 : xO} (ho : os[k]? = some o0) (h0 : xsc o0 = false) (hs : xsc o = false) {z : Nat × va_E} (hz : z = (ad k, xo tc ad o)) (h : va_P D vwCl ((xw tc ad os).set (xk os k) z) H) : va_P D vwCl (xw tc ad (os.set k o)) H := by
  rw [← xw_set ho h0 hs, ← hz]; exact h
theorem xsetD {s : State} {A : Nat → Prop} {tc : Nat → ClassId} {ad : Nat → Nat} {os : List xO} {k : Nat} (o : xO) {o0 : xO} (ho : os[k]? = some o0) (h0 : xsc o0 = false) (hs : xsc o = false) (hD : xD s A tc ad os) {z : Nat × va_E} (hz : z = (ad k, xo tc ad o)) (h : va_D A ((xw tc ad os).set (xk os k) z)) : xD s A tc ad (os.set k o) := by
  refine ⟨?_, xSC_kp hD.2 (xkp_set hs) (fun _ _ => rfl)⟩
  rw [← xw_set ho h0 hs, ← hz]; exact h
theorem x_iaload {KR : Option Value → xS → Option ρ} {d : Nat} {E : xEnv}  (hC : xCx p s m args meth c own cc nL D tc A n0 E.2.2.2.2.2.1 E.2.2.2.2.2.2) (hcl : xClOk) (hE : xEOk l own d E) (hd1 : d ≤ R.frames) (hd2 : 40 * d ≤ R.locals) (hdec : xdec cc pc (.iaload)) (he : xstp E (.iaload) pc L st h K KR = some x) : xGo p l e R s m args below meth c D tc nL n0 ad0 A c0 s0 Q E.2.2.2.2.2.1 (pc, L, st, h) K x := by
  obtain ⟨hx, hb, hml, hown, hts, hnw, hlk, hK, hA, hEx, -⟩ := hC
  dsimp only [xstp] at he
  split at he
  · obtain ⟨v, hv, he⟩ := Option.bind_eq_some_iff.mp he
    unfold xrdI at hv
    split at hv
    · rename_i n f heq
      split at hv
      · cases hv
      · rename_i hin
        cases hv
        refine ⟨_, he, xle_r _, xna_r _ _, fun _ _ _ _ hq => ?_⟩
        intro ad ls H locs ha hab hn hL hl hP hD hS
        exact va_iald hx hb hK hP _ 0 (xw_at heq rfl) rfl hin (xdec_l hdec rfl) (hq ad ls H locs ha hab hn hL hl hP hD hS)
    · rename_i n f heq
      split at hv
      · cases hv
      · rename_i hin
        cases hv
        refine ⟨_, he, xle_r _, xna_r _ _, fun _ _ _ _ hq => ?_⟩
        intro ad ls H locs ha hab hn hL hl hP hD hS
        obtain ⟨s1, s2⟩ := hD.2 _ n f heq
        exact va_sld hx hb s2 (Array.getElem?_eq_some_iff.mp s2.choose_spec.1).1 s1 hS hin (xdec_l hdec rfl) (hq ad ls H locs ha hab hn hL hl hP hD hS)
    · cases hv
  · cases he
theorem x_laload {KR : Option Value → xS → Option ρ} {d : Nat} {E : xEnv}  (hC : xCx p s m args meth c own cc nL D tc A n0 E.2.2.2.2.2.1 E.2.2.2.2.2.2) (hcl : xClOk) (hE : xEOk l own d E) (hd1 : d ≤ R.frames) (hd2 : 40 * d ≤ R.locals) (hdec : xdec cc pc (.laload)) (he : xstp E (.laload) pc L st h K KR = some x) : xGo p l e R s m args below meth c D tc nL n0 ad0 A c0 s0 Q E.2.2.2.2.2.1 (pc, L, st, h) K x := by
  obtain ⟨hx, hb, hml, hown, hts, hnw, hlk, hK, hA, hEx, -⟩ := hC
  dsimp only [xstp] at he
  split at he
  · obtain ⟨v, hv, he⟩ := Option.bind_eq_some_iff.mp he
    unfold xrdL at hv
    split at hv
    · rename_i n f heq
      split at hv
      · cases hv
      · rename_i hin
        cases hv
        refine ⟨_, he, xle_r _, xna_r _ _, fun _ _ _ _ hq => ?_⟩
        intro ad ls H locs ha hab hn hL hl hP hD hS
        exact va_lald hx hb hK hP _ 3 (xw_at heq rfl) rfl hin (xdec_l hdec rfl) (hq ad ls H locs ha hab hn hL hl hP hD hS)
    · cases hv
  · cases he
theorem x_arraylength {KR : Option Value → xS → Option ρ} {d : Nat} {E : xEnv}  (hC : xCx p s m args meth c own cc nL D tc A n0 E.2.2.2.2.2.1 E.2.2.2.2.2.2) (hcl : xClOk) (hE : xEOk l own d E) (hd1 : d ≤ R.frames) (hd2 : 40 * d ≤ R.locals) (hdec : xdec cc pc (.arraylength)) (he : xstp E (.arraylength) pc L st h K KR = some x) : xGo p l e R s m args below meth c D tc nL n0 ad0 A c0 s0 Q E.2.2.2.2.2.1 (pc, L, st, h) K x := by
  obtain ⟨hx, hb, hml, hown, hts, hnw, hlk, hK, hA, hEx, -⟩ := hC
  dsimp only [xstp] at he
  split at he
  · obtain ⟨v, hv, he⟩ := Option.bind_eq_some_iff.mp he
    unfold xlnI at hv
    split at hv
    · rename_i n f heq
      cases hv
      refine ⟨_, he, xle_r _, xna_r _ _, fun _ _ _ _ hq => ?_⟩
      intro ad ls H locs ha hab hn hL hl hP hD hS
      exact va_alen (x := (n, .inl f)) hx hb hK hP _ 0 (xw_at heq rfl) rfl rfl (xdec_l hdec rfl) (hq ad ls H locs ha hab hn hL hl hP hD hS)
    · rename_i n f heq
      cases hv
      refine ⟨_, he, xle_r _, xna_r _ _, fun _ _ _ _ hq => ?_⟩
      intro ad ls H locs ha hab hn hL hl hP hD hS
      obtain ⟨s1, s2⟩ := hD.2 _ n f heq
      exact va_slen hx hb s2 (Array.getElem?_eq_some_iff.mp s2.choose_spec.1).1 s1 hS (xdec_l hdec rfl) (hq ad ls H locs ha hab hn hL hl hP hD hS)
    · cases hv
  · cases he
theorem x_iastore {KR : Option Value → xS → Option ρ} {d : Nat} {E : xEnv}  (hC : xCx p s m args meth c own cc nL D tc A n0 E.2.2.2.2.2.1 E.2.2.2.2.2.2) (hcl : xClOk) (hE : xEOk l own d E) (hd1 : d ≤ R.frames) (hd2 : 40 * d ≤ R.locals) (hdec : xdec cc pc (.iastore)) (he : xstp E (.iastore) pc L st h K KR = some x) : xGo p l e R s m args below meth c D tc nL n0 ad0 A c0 s0 Q E.2.2.2.2.2.1 (pc, L, st, h) K x := by
  obtain ⟨hx, hb, hml, hown, hts, hnw, hlk, hK, hA, hEx, -⟩ := hC
  dsimp only [xstp] at he
  split at he
  · obtain ⟨v, hv, he⟩ := Option.bind_eq_some_iff.mp he
    unfold xwrI at hv
    split at hv
    · rename_i n f heq
      split at hv
      · cases hv
      · rename_i hin
        cases hv
        refine ⟨_, he, ⟨by simp, Nat.le_refl _, Nat.le_refl _, xkp_set rfl⟩, fun _ => by simp, fun _ _ _ _ hq => ?_⟩
        intro ad ls H locs ha hab hn hL hl hP hD hS
        exact va_iast hx hb hK hP hD.1 hS _ 0 (xw_at heq rfl) rfl hin (xdec_l hdec rfl) (fun H1 locs1 hP1 hD1 hS1 => hq ad ls H1 locs1 ha (by simpa using hab) (by simpa using hn) hL hl (xsetP _ heq rfl rfl rfl hP1) (xsetD _ heq rfl rfl hD rfl hD1) hS1)
    · cases hv
  · cases he
theorem x_aaload {KR : Option Value → xS → Option ρ} {d : Nat} {E : xEnv}  (hC : xCx p s m args meth c own cc nL D tc A n0 E.2.2.2.2.2.1 E.2.2.2.2.2.2) (hcl : xClOk) (hE : xEOk l own d E) (hd1 : d ≤ R.frames) (hd2 : 40 * d ≤ R.locals) (hdec : xdec cc pc (.aaload)) (he : xstp E (.aaload) pc L st h K KR = some x) : xGo p l e R s m args below meth c D tc nL n0 ad0 A c0 s0 Q E.2.2.2.2.2.1 (pc, L, st, h) K x := by
  obtain ⟨hx, hb, hml, hown, hts, hnw, hlk, hK, hA, hEx, -⟩ := hC
  dsimp only [xstp] at he
  split at he
  · obtain ⟨v, hv, he⟩ := Option.bind_eq_some_iff.mp he
    unfold xrdR at hv
    split at hv
    · rename_i t n f heq
      split at hv
      · rename_i hin
        obtain ⟨ht, hin⟩ := hin
        refine ⟨_, he, xle_r _, xna_r _ _, fun _ _ _ _ hq => ?_⟩
        intro ad ls H locs ha hab hn hL hl hP hD hS
        have hk := hq ad ls H locs ha hab hn hL hl hP hD hS
        rcases ht with rfl | rfl
        · exact va_aldq hx hb hK hP _ 1 (xw_at heq rfl) rfl hin (xdec_l hdec rfl) (by rw [hv]; exact hk)
        · exact va_aldq hx hb hK hP _ 2 (xw_at heq rfl) rfl hin (xdec_l hdec rfl) (by rw [hv]; exact hk)
      · cases hv
    · cases hv
  · cases he

theorem xup (ad : Nat → Nat) (f : Nat → Option Nat) (i v : Nat) : va_up (fun j => (f j).map ad) i (some (ad v)) = fun j => (va_up f i (some v) j).map ad := by
  funext j
  unfold va_up
  split <;> rfl
theorem xmay_ok {t ci : Nat} (h : xmay t ci = true) : (t = 1 ∨ t = 2) ∧ ∃ r : vw_C, vwCl[ci]? = some r ∧ ((t = 1 ∧ (r.1 = RX8 ∨ Cond.castable r.1 RX8 ∈ xNW)) ∨ (t = 2 ∧ r.1 = RX7)) := by
  simp only [xmay, Bool.or_eq_true, Bool.and_eq_true, beq_iff_eq] at h
  rcases h with ⟨rfl, h⟩ | ⟨rfl, rfl⟩
  · refine ⟨Or.inl rfl, ?_⟩
    rcases h with ((((((rfl | rfl) | rfl) | rfl) | rfl) | rfl) | rfl) | rfl
    · exact ⟨_, rfl, Or.inl ⟨rfl, Or.inr (by decide +kernel)⟩⟩
    · exact ⟨_, rfl, Or.inl ⟨rfl, Or.inr (by decide +kernel)⟩⟩
    · exact ⟨_, rfl, Or.inl ⟨rfl, Or.inr (by decide +kernel)⟩⟩
    · exact ⟨_, rfl, Or.inl ⟨rfl, Or.inr (by decide +kernel)⟩⟩
    · exact ⟨_, rfl, Or.inl ⟨rfl, Or.inr (by decide +kernel)⟩⟩
    · exact ⟨_, rfl, Or.inl ⟨rfl, Or.inr (by decide +kernel)⟩⟩
    · exact ⟨_, rfl, Or.inl ⟨rfl, Or.inl rfl⟩⟩
    · exact ⟨_, rfl, Or.inl ⟨rfl, Or.inr (by decide +kernel)⟩⟩
  · exact ⟨Or.inr rfl, _, rfl, Or.inr ⟨rfl, rfl⟩⟩
theorem x_aastore {KR : Option Value → xS → Option ρ} {d : Nat} {E : xEnv}  (hC : xCx p s m args meth c own cc nL D tc A n0 E.2.2.2.2.2.1 E.2.2.2.2.2.2) (hcl : xClOk) (hE : xEOk l own d E) (hd1 : d ≤ R.frames) (hd2 : 40 * d ≤ R.locals) (hdec : xdec cc pc (.aastore)) (he : xstp E (.aastore) pc L st h K KR = some x) : xGo p l e R s m args below meth c D tc nL n0 ad0 A c0 s0 Q E.2.2.2.2.2.1 (pc, L, st, h) K x := by
  obtain ⟨hx, hb, hml, hown, hts, hnw, hlk, hK, hA, hEx, -⟩ := hC
  dsimp only [xstp] at he
  split at he
  · rename_i v i a st'
    obtain ⟨h1, hv, he⟩ := Option.bind_eq_some_iff.mp he
    unfold xwrR at hv
    split at hv
    · rename_i t n f ci vs heq1 heq2
      split at hv
      · rename_i hin
        obtain ⟨hm, hin⟩ := hin
        cases hv
        refine ⟨_, he, ⟨by simp, Nat.le_refl _, Nat.le_refl _, xkp_set rfl⟩, fun _ => by simp, fun _ _ _ _ hq => ?_⟩
        intro ad ls H locs ha hab hn hL hl hP hD hS
        obtain ⟨-, r, hr, hm2⟩ := xmay_ok hm
        have e1 : (xw tc ad h.1)[xk h.1 a]? = some (ad a, .inl (tc t, n, .inr (.inr (.inr (.inr (fun j => (f j).map ad)))))) := xw_at heq1 rfl
        have e2 : (xw tc ad h.1)[xk h.1 v]? = some (ad v, .inr (ci, vs.map (xv ad))) := xw_at heq2 rfl
        have kk : ∀ (H1 : Heap) (locs1 : List Loc), va_P D vwCl ((xw tc ad h.1).set (xk h.1 a) (ad a, .inl (tc t, n, .inr (.inr (.inr (.inr (va_up (fun j => (f j).map ad) i.toNatClampNeg (some (ad v))))))))) H1 → va_D A ((xw tc ad h.1).set (xk h.1 a) (ad a, .inl (tc t, n, .inr (.inr (.inr (.inr (va_up (fun j => (f j).map ad) i.toNatClampNeg (some (ad v))))))))) → va_S A s.heap H1 locs1 → W p l e R s m args below meth c H1 locs1 (h.2.1 - c0) (h.2.2 - s0) Q (F0 m (pc + 1) ls (st'.map (xv ad))) := fun H1 locs1 hP1 hD1 hS1 =>
          hq ad ls H1 locs1 ha (by simpa using hab) (by simpa using hn) hL hl (xsetP (.inl (t, n, .inr (.inr (va_up f i.toNatClampNeg (some v))))) heq1 rfl rfl (by rw [xup]; rfl) hP1) (xsetD (.inl (t, n, .inr (.inr (va_up f i.toNatClampNeg (some v))))) heq1 rfl rfl hD (by rw [xup]; rfl) hD1) hS1
        rcases hm2 with ⟨rfl, hm2⟩ | ⟨rfl, hm2⟩
        · rcases hm2 with hm2 | hm2
          · exact va_astq hx hb hK hP hD.1 hS (xk h.1 a) 1 (xk h.1 v) ci e1 (by rw [hm2]; rfl) e2 hr hin (xdec_l hdec rfl) kk
          · exact va_astqO (E := RX8) hx hb hK hP hD.1 hS (xk h.1 a) 1 (xk h.1 v) ci e1 rfl (hnw _ hm2) e2 hr hin (xdec_l hdec rfl) kk
        · exact va_astq hx hb hK hP hD.1 hS (xk h.1 a) 2 (xk h.1 v) ci e1 (by rw [hm2]; rfl) e2 hr hin (xdec_l hdec rfl) kk
      · cases hv
    · cases hv
  · cases he

theorem xfget {n ci k kd : Nat} {fin : Bool} (hx : p.tables.exec = Jvm.exec) (hb : c.code = cc) (hcl : xClOk) (hown : s.vm.findClass own = some m.cls) (hts : ∀ w ∈ xT, w.before args s = true) (hnw : ∀ w ∈ xNW, va_Nw w s) (hK : va_K D vwCl (xty tc) s) {ad : Nat → Nat} {H : Heap} {locs : List Loc} {cells slots : Nat} {ls : Array Slot} {rest : List Value} (hP : va_P D vwCl (xw tc ad h.1) H) (hf : xFd own n ci k kd fin) {a : Nat} {fs : List Value} {v : Value} (heq : h.1[a]? = some (.inr (ci, fs))) (hv : fs[k]? = some v) (hd : decode cc pc = .ok (.getfield n, 3))
    (kk : W p l e R s m args below meth c H locs cells slots Q (F0 m (pc + 3) ls (xv ad v :: rest))) : W p l e R s m args below meth c H locs cells slots Q (F0 m pc ls (.ref (ad a) :: rest)) := by
  obtain ⟨C, T, N, h1, h2, h3, -, h4, -⟩ := hf
  obtain ⟨g1, -, -⟩ := hcl ci _ h1
  have e1 : (xw tc ad h.1)[xk h.1 a]? = some (ad a, .inr (ci, fs.map (xv ad))) := xw_at heq rfl
  have e2 : (fs.map (xv ad))[k]? = some (xv ad v) := by rw [List.getElem?_map, hv]; rfl
  rcases h4 with ⟨-, h4⟩ | ⟨-, host, h4⟩
  · exact va_get hx hb hts g1 hown hK hP (xk h.1 a) e1 h1 k h2 (hts _ h4) (fun _ h9 => by rw [← h3]; exact h9) e2 hd kk
  · exact va_getN hx hb hts g1 hown hK hP (xk h.1 a) e1 h1 k h2 (va_Nw.use rfl (hnw _ h4)) (fun _ h9 => by rw [← h3]; exact h9) e2 hd kk
theorem x_getfield {KR : Option Value → xS → Option ρ} {d : Nat} {E : xEnv} {n : Nat} (hC : xCx p s m args meth c own cc nL D tc A n0 E.2.2.2.2.2.1 E.2.2.2.2.2.2) (hcl : xClOk) (hE : xEOk l own d E) (hd1 : d ≤ R.frames) (hd2 : 40 * d ≤ R.locals) (hdec : xdec cc pc (.getfield n)) (he : xstp E (.getfield n) pc L st h K KR = some x) : xGo p l e R s m args below meth c D tc nL n0 ad0 A c0 s0 Q E.2.2.2.2.2.1 (pc, L, st, h) K x := by
  obtain ⟨hx, hb, hml, hown, hts, hnw, hlk, hK, hA, hEx, -⟩ := hC
  dsimp only [xstp] at he
  split at he
  · rename_i ci k fin a st' hen
    obtain ⟨v, hv, he2⟩ := Option.bind_eq_some_iff.mp he
    unfold xgR at hv
    split at hv
    · rename_i cj fs heq
      split at hv
      · rename_i hcj
        subst hcj
        split at hv
        · rename_i v' hv'
          cases hv
          refine ⟨_, he2, xle_r _, xna_r _ _, fun _ _ _ _ hq => ?_⟩
          intro ad ls H locs ha hab hn hL hl hP hD hS
          exact xfget hx hb hcl hown hts hnw hK hP (hE.1 _ _ _ _ _ hen) heq hv' (xdec_l hdec rfl) (hq ad ls H locs ha hab hn hL hl hP hD hS)
        · cases hv
      · cases hv
    · cases hv
  · rename_i ci k fin a st' hen
    obtain ⟨v, hv, he2⟩ := Option.bind_eq_some_iff.mp he
    unfold xgR at hv
    split at hv
    · rename_i cj fs heq
      split at hv
      · rename_i hcj
        subst hcj
        split at hv
        · rename_i v' hv'
          cases hv
          refine ⟨_, he2, xle_r _, xna_r _ _, fun _ _ _ _ hq => ?_⟩
          intro ad ls H locs ha hab hn hL hl hP hD hS
          exact xfget hx hb hcl hown hts hnw hK hP (hE.1 _ _ _ _ _ hen) heq hv' (xdec_l hdec rfl) (hq ad ls H locs ha hab hn hL hl hP hD hS)
        · cases hv
      · cases hv
    · cases hv
  · rename_i ci k kd fin a st' hkd1 hkd2 hen
    obtain ⟨v, hv, he2⟩ := Option.bind_eq_some_iff.mp he
    unfold xgI at hv
    split at hv
    · rename_i cj fs heq
      split at hv
      · rename_i hcj
        subst hcj
        split at hv
        · rename_i v' hv'
          cases hv
          refine ⟨_, he2, xle_r _, xna_r _ _, fun _ _ _ _ hq => ?_⟩
          intro ad ls H locs ha hab hn hL hl hP hD hS
          exact xfget hx hb hcl hown hts hnw hK hP (hE.1 _ _ _ _ _ hen) heq hv' (xdec_l hdec rfl) (hq ad ls H locs ha hab hn hL hl hP hD hS)
        · cases hv
      · cases hv
    · cases hv
  · cases he
theorem xfput {n ci k kd : Nat} {fin init : Bool} (hx : p.tables.exec = Jvm.exec) (hb : c.code = cc) (hcl : xClOk) (hown : s.vm.findClass own = some m.cls) (hts : ∀ w ∈ xT, w.before args s = true) (hnw : ∀ w ∈ xNW, va_Nw w s) (hK : va_K D vwCl (xty tc) s) (hin : init = true → meth.name = "<init>") {ad : Nat → Nat} {H : Heap} {locs : List Loc} {cells slots : Nat} {ls : Array Slot} {rest : List Value} (hP : va_P D vwCl (xw tc ad h.1) H) (hD : xD s A tc ad h.1) (hS : va_S A s.heap H locs) (hf : xFd own n ci k kd fin) (hfi : ¬ (fin = true ∧ init = false)) {a : Nat} {fs : List Value} {v : Value} (heq : h.1[a]? = some (.inr (ci, fs))) (hkl : k < fs.length)
    (hkd : (kd = 0 ∧ ∃ z, v = .int z) ∨ (kd = 1 ∧ ∃ z, v = .ref z) ∨ (kd = 2 ∧ (v = .int 0 ∨ v = .int 1))) (hd : decode cc pc = .ok (.putfield n, 3))
    (kk : ∀ (H1 : Heap) (locs1 : List Loc), va_P D vwCl (xw tc ad (h.1.set a (.inr (ci, fs.set k v)))) H1 → xD s A tc ad (h.1.set a (.inr (ci, fs.set k v))) → va_S A s.heap H1 locs1 → W p l e R s m args below meth c H1 locs1 cells slots Q (F0 m (pc + 3) ls rest)) : W p l e R s m args below meth c H locs cells slots Q (F0 m pc ls (xv ad v :: .ref (ad a) :: rest)) := by
  obtain ⟨C, T, N, h1, h2, h3, h5, h4, h7⟩ := hf
  obtain ⟨g1, ⟨ty0, g2⟩, g3⟩ := hcl ci _ h1
  have e1 : (xw tc ad h.1)[xk h.1 a]? = some (ad a, .inr (ci, fs.map (xv ad))) := xw_at heq rfl
  have e3 : (fs.map (xv ad)).set k (xv ad v) = (fs.set k v).map (xv ad) := by rw [List.map_set]
  have k2 : ∀ (H1 : Heap) (locs1 : List Loc), va_P D vwCl ((xw tc ad h.1).set (xk h.1 a) (ad a, .inr (ci, (fs.map (xv ad)).set k (xv ad v)))) H1 → va_D A ((xw tc ad h.1).set (xk h.1 a) (ad a, .inr (ci, (fs.map (xv ad)).set k (xv ad v)))) → va_S A s.heap H1 locs1 → W p l e R s m args below meth c H1 locs1 cells slots Q (F0 m (pc + 3) ls rest) := fun H1 locs1 hP1 hD1 hS1 =>
    kk H1 locs1 (xsetP (.inr (ci, fs.set k v)) heq rfl rfl (by rw [e3]; rfl) hP1) (xsetD (.inr (ci, fs.set k v)) heq rfl rfl hD (by rw [e3]; rfl) hD1) hS1
  have hl : k < (fs.map (xv ad)).length := by rw [List.length_map]; exact hkl
  have hn : ∃ ty, parseFieldDescriptor (T k).2.2.1 = some ty ∧ narrow ty (xv ad v) = xv ad v ∧ fits ty (xv ad v) = true := by
    rcases hkd with ⟨rfl, z, rfl⟩ | ⟨rfl, z, rfl⟩ | ⟨rfl, hz⟩
    · rcases h7 with h7 | ⟨-, h7⟩ | ⟨h7, -⟩ | ⟨h7, -⟩
      · cases h7
      · exact ⟨_, h7, rfl, rfl⟩
      · cases h7
      · cases h7
    · rcases h7 with h7 | ⟨h7, -⟩ | ⟨-, ty, h7, h8⟩ | ⟨h7, -⟩
      · cases h7
      · cases h7
      · exact ⟨ty, h7, (h8 _).1, (h8 _).2⟩
      · cases h7
    · rcases h7 with h7 | ⟨h7, -⟩ | ⟨h7, -⟩ | ⟨-, h7⟩
      · cases h7
      · cases h7
      · cases h7
      · rcases hz with rfl | rfl
        · exact ⟨_, h7, show narrow .boolean (.int 0) = .int 0 by decide, show fits .boolean (.int 0) = true by decide⟩
        · exact ⟨_, h7, show narrow .boolean (.int 1) = .int 1 by decide, show fits .boolean (.int 1) = true by decide⟩
  obtain ⟨ty, n1, n2, n3⟩ := hn
  have h55 : ¬ kd = 5 := by rcases hkd with ⟨rfl, -⟩ | ⟨rfl, -⟩ | ⟨rfl, -⟩ <;> decide
  cases hfin : fin with
  | false =>
    rcases h4 with ⟨-, h4⟩ | ⟨-, host, h4⟩
    · exact va_put hx hb hts g1 ty0 g2 g3 hown hK hP hD.1 hS (xk h.1 a) e1 h1 k h2 (hts _ h4) (fun _ h9 => by rw [← h3]; exact h9) (by rw [h5]; exact hfin) n1 n2 n3 hl hd k2
    · exact va_putN hx hb hts g1 ty0 g2 g3 hown hK hP hD.1 hS (xk h.1 a) e1 h1 k h2 (va_Nw.use rfl (hnw _ h4)) (fun _ h9 => by rw [← h3]; exact h9) (by rw [h5]; exact hfin) n1 n2 n3 hl hd k2
  | true =>
    have hi : init = true := by
      cases hi : init with
      | true => rfl
      | false => exact absurd ⟨hfin, hi⟩ hfi
    rcases h4 with ⟨h6, h4⟩ | ⟨h4, -⟩
    · exact va_putF hx hb hts g1 ty0 g2 g3 hown hK hP hD.1 hS (xk h.1 a) e1 h1 k h2 (hts _ h4) (fun _ h9 => by rw [← h3]; exact h9) (by rw [h5]; exact hfin) (hin hi) (by rw [h3]; exact h6) n1 n2 n3 hl hd k2
    · rcases h4 with h4 | h4
      · rw [hfin] at h4; cases h4
      · exact absurd h4 h55
theorem x_putfield {KR : Option Value → xS → Option ρ} {d : Nat} {E : xEnv} {n : Nat} (hC : xCx p s m args meth c own cc nL D tc A n0 E.2.2.2.2.2.1 E.2.2.2.2.2.2) (hcl : xClOk) (hE : xEOk l own d E) (hd1 : d ≤ R.frames) (hd2 : 40 * d ≤ R.locals) (hdec : xdec cc pc (.putfield n)) (he : xstp E (.putfield n) pc L st h K KR = some x) : xGo p l e R s m args below meth c D tc nL n0 ad0 A c0 s0 Q E.2.2.2.2.2.1 (pc, L, st, h) K x := by
  obtain ⟨hx, hb, hml, hown, hts, hnw, hlk, hK, hA, hEx, hin, -⟩ := hC
  dsimp only [xstp] at he
  split at he
  · rename_i hen
    split at he
    · cases he
    rename_i hfi
    obtain ⟨v, hv, he2⟩ := Option.bind_eq_some_iff.mp he
    unfold xpV at hv
    split at hv
    · rename_i cj fs heq
      split at hv
      · rename_i hcj
        obtain ⟨rfl, hkl⟩ := hcj
        cases hv
        refine ⟨_, he2, ⟨by simp, Nat.le_refl _, Nat.le_refl _, xkp_set rfl⟩, fun _ => by simp, fun _ _ _ _ hq => ?_⟩
        intro ad ls H locs ha hab hn hL hl hP hD hS
        exact xfput hx hb hcl hown hts hnw hK hin hP hD hS (hE.1 _ _ _ _ _ hen) hfi heq hkl (Or.inl ⟨rfl, _, rfl⟩) (xdec_l hdec rfl) (fun H1 locs1 hP1 hD1 hS1 => hq ad ls H1 locs1 ha (by simpa using hab) (by simpa using hn) hL hl hP1 hD1 hS1)
      · cases hv
    · cases hv
  · rename_i hen
    split at he
    · cases he
    rename_i hfi
    obtain ⟨v, hv, he2⟩ := Option.bind_eq_some_iff.mp he
    unfold xpV at hv
    split at hv
    · rename_i cj fs heq
      split at hv
      · rename_i hcj
        obtain ⟨rfl, hkl⟩ := hcj
        cases hv
        refine ⟨_, he2, ⟨by simp, Nat.le_refl _, Nat.le_refl _, xkp_set rfl⟩, fun _ => by simp, fun _ _ _ _ hq => ?_⟩
        intro ad ls H locs ha hab hn hL hl hP hD hS
        exact xfput hx hb hcl hown hts hnw hK hin hP hD hS (hE.1 _ _ _ _ _ hen) hfi heq hkl (Or.inr (Or.inl ⟨rfl, _, rfl⟩)) (xdec_l hdec rfl) (fun H1 locs1 hP1 hD1 hS1 => hq ad ls H1 locs1 ha (by simpa using hab) (by simpa using hn) hL hl hP1 hD1 hS1)
      · cases hv
    · cases hv
  · rename_i hen
    split at he
    · cases he
    rename_i hfi
    obtain ⟨v, hv, he2⟩ := Option.bind_eq_some_iff.mp he
    have hz := Classical.not_not.mp (fun q => hfi (Or.inr q))
    unfold xpV at hv
    split at hv
    · rename_i cj fs heq
      split at hv
      · rename_i hcj
        obtain ⟨rfl, hkl⟩ := hcj
        cases hv
        refine ⟨_, he2, ⟨by simp, Nat.le_refl _, Nat.le_refl _, xkp_set rfl⟩, fun _ => by simp, fun _ _ _ _ hq => ?_⟩
        intro ad ls H locs ha hab hn hL hl hP hD hS
        exact xfput hx hb hcl hown hts hnw hK hin hP hD hS (hE.1 _ _ _ _ _ hen) (fun q => hfi (Or.inl q)) heq hkl (Or.inr (Or.inr ⟨rfl, by rcases hz with hz | hz; exact Or.inl (by rw [hz]); exact Or.inr (by rw [hz])⟩)) (xdec_l hdec rfl) (fun H1 locs1 hP1 hD1 hS1 => hq ad ls H1 locs1 ha (by simpa using hab) (by simpa using hn) hL hl hP1 hD1 hS1)
      · cases hv
    · cases hv
  · cases he

theorem xad_V {n : Nat} {ad ad' : Nat → Nat} (h : ∀ k, k < n → ad' k = ad k) {v : Value} (hv : xokV n v = true) : xv ad' v = xv ad v := by
  cases v with
  | ref k => simp only [xokV, decide_eq_true_eq] at hv; simp only [xv, h k hv]
  | _ => rfl
theorem xad_L {n : Nat} {ad ad' : Nat → Nat} (h : ∀ k, k < n → ad' k = ad k) {L : List (Option Value)} (hL : xokL n L = true) {ls : Array Slot} {nL : Nat} (hl : lv_has ls nL (xl ad L)) : lv_has ls nL (xl ad' L) := by
  refine ⟨hl.1, hl.2.1, fun q hq => ?_⟩
  obtain ⟨v, h1, h2⟩ := xl_mem hq
  have h3 := List.all_eq_true.mp hL _ (List.mem_of_getElem? h1)
  rw [h2, xad_V h h3]
  exact xl_get hl h1
theorem xad_S {n : Nat} {ad ad' : Nat → Nat} (h : ∀ k, k < n → ad' k = ad k) {st : List Value} (hs : st.all (xokV n) = true) : st.map (xv ad') = st.map (xv ad) := by
  apply List.map_congr_left
  intro v hv
  exact xad_V h (List.all_eq_true.mp hs v hv)
theorem xarrV {cA : ClassId} {m : Nat} {g g' : Nat → Value} (h : ∀ i, i < m → g i = g' i) : arrV cA m g = arrV cA m g' := by
  have : Array.ofFn (n := m) (fun j => g j.val) = Array.ofFn (n := m) (fun j => g' j.val) := by
    congr 1
    funext j
    exact h j.val j.isLt
  unfold arrV
  rw [this]
theorem xad_O {n : Nat} {ad ad' : Nat → Nat} (h : ∀ k, k < n → ad' k = ad k) {o : xO} (ho : xokO n o = true) {D : va_G} {tc : Nat → ClassId} {a : Nat} {H : Heap} (hp : va_at D vwCl (a, xo tc ad o) H) : va_at D vwCl (a, xo tc ad' o) H := by
  rcases o with ⟨t, m, f | f | f⟩ | ⟨ci, fs⟩
  · exact hp
  · exact hp
  · have e : ∀ i, i < m → (f i).map ad' = (f i).map ad := by
      intro i hi
      have h1 := List.all_eq_true.mp ho i (List.mem_range.mpr hi)
      cases hf : f i with
      | none => rfl
      | some k =>
        rw [hf] at h1
        simp only [decide_eq_true_eq] at h1
        simp [h k h1]
    show H[a]? = some (arrV (tc t) m (fun j => va_rf ((f j).map ad')))
    have hp : H[a]? = some (arrV (tc t) m (fun j => va_rf ((f j).map ad))) := hp
    rw [hp]
    exact congrArg some (xarrV (fun i hi => by rw [e i hi]))
  · have e : fs.map (xv ad') = fs.map (xv ad) := xad_S h ho
    show va_at D vwCl (a, .inr (ci, fs.map (xv ad'))) H
    rw [e]
    exact hp
theorem xw_app {tc : Nat → ClassId} {ad : Nat → Nat} {os : List xO} {q : Nat × va_E} {i a : Nat} {o : xO} (ho : os[a]? = some o) (hs : xsc o = false) (hi : i = xk os a) : (xw tc ad os ++ [q])[i]? = some (ad a, xo tc ad o) := by
  have h1 := xw_at (tc := tc) (ad := ad) ho hs
  rw [hi, List.getElem?_append_left (List.getElem?_eq_some_iff.mp h1).1]
  exact h1
theorem xw_end {tc : Nat → ClassId} {ad : Nat → Nat} {os : List xO} {q : Nat × va_E} : (xw tc ad os ++ [q])[(xw tc ad os).length]? = some q := by
  rw [List.getElem?_append_right (Nat.le_refl _), Nat.sub_self]
  rfl
theorem xs_app {os : List xO} {o o' : xO} {a : Nat} (h : (os ++ [o])[a]? = some o') : (a < os.length ∧ os[a]? = some o') ∨ (a = os.length ∧ o' = o) := by
  rw [List.getElem?_append] at h
  split at h
  · rename_i hl
    exact Or.inl ⟨hl, h⟩
  · rename_i hl
    rw [List.getElem?_singleton] at h
    split at h
    · cases h
      exact Or.inr ⟨by omega, rfl⟩
    · cases h
theorem xad_P {D : va_G} {tc : Nat → ClassId} {ad : Nat → Nat} {os : List xO} {q : Nat} {o : xO} {H : Heap} (hok : os.all (xokO os.length) = true) (ho : ∀ ad', xo tc ad' o = xo tc ad o) (hP : va_P D vwCl (xw tc ad os ++ [(q, xo tc ad o)]) H) : va_P D vwCl (xw tc (fun j => if j = os.length then q else ad j) (os ++ [o])) H := by
  refine xw_P.mpr (fun a o' h1 h2 => ?_)
  rcases xs_app h1 with ⟨hl, h1⟩ | ⟨rfl, rfl⟩
  · rw [if_neg (by omega)]
    exact xad_O (n := os.length) (ad := ad) (fun j hj => if_neg (by omega)) (List.all_eq_true.mp hok o' (List.mem_of_getElem? h1)) (hP _ _ (xw_app h1 h2 rfl))
  · rw [if_pos rfl, ho]
    exact hP _ _ xw_end
theorem xad_D {s : State} {A : Nat → Prop} {tc : Nat → ClassId} {ad : Nat → Nat} {os : List xO} {q : Nat} {o : xO} (hs : xsc o = false) (hD0 : xD s A tc ad os) (hD : va_D A (xw tc ad os ++ [(q, xo tc ad o)])) : xD s A tc (fun j => if j = os.length then q else ad j) (os ++ [o]) := by
  refine ⟨xw_D.mpr ⟨fun a b o1 o2 h1 h2 h3 h4 he => ?_, fun a o1 h1 h2 => ?_⟩, xSC_kp hD0.2 (xkp_app hs) (fun k hk => if_neg (by omega))⟩
  · rcases xs_app h1 with ⟨hl, g1⟩ | ⟨rfl, rfl⟩ <;> rcases xs_app h3 with ⟨hl2, g3⟩ | ⟨rfl, rfl⟩
    · rw [if_neg (by omega), if_neg (by omega)] at he
      exact (xw_D.mp hD0.1).1 a b o1 o2 g1 h2 g3 h4 he
    · rw [if_neg (by omega), if_pos rfl] at he
      have e1 := hD.1 _ _ _ _ (xw_app (tc := tc) (ad := ad) (q := (q, xo tc ad o2)) g1 h2 rfl) xw_end he
      have e2 := (List.getElem?_eq_some_iff.mp (xw_at (tc := tc) (ad := ad) g1 h2)).1
      omega
    · rw [if_pos rfl, if_neg (by omega)] at he
      have e1 := hD.1 _ _ _ _ (xw_app (tc := tc) (ad := ad) (q := (q, xo tc ad o1)) g3 h4 rfl) xw_end he.symm
      have e2 := (List.getElem?_eq_some_iff.mp (xw_at (tc := tc) (ad := ad) g3 h4)).1
      omega
    · rfl
  · rcases xs_app h1 with ⟨hl, g1⟩ | ⟨rfl, rfl⟩
    · rw [if_neg (by omega)]
      exact (xw_D.mp hD0.1).2 a o1 g1 h2
    · rw [if_pos rfl]
      exact hD.2 _ _ xw_end
theorem xok_of {h : xS} {L : List (Option Value)} {st : List Value} (hk : ¬ xok h L st = false) : h.1.all (xokO h.1.length) = true ∧ xokL h.1.length L = true ∧ st.all (xokV h.1.length) = true := by
  have : xok h L st = true := by cases hq : xok h L st with | true => rfl | false => exact absurd hq hk
  simp only [xok, Bool.and_eq_true] at this
  exact ⟨this.1.1, this.1.2, this.2⟩
theorem xcA {cA : ClassId} {ty : FieldType} {tys : List (ClassId × FieldType)} {t : Nat} {cB : ClassId} (hK : va_K D vwCl (tys ++ [(cA, ty)]) s) (ht : tys[t]? = some (cB, ty)) : cA = cB := by
  have h1 := (hK.2 tys.length (cA, ty) (by simp)).2
  have h2 := (hK.2 t (cB, ty) (by rw [List.getElem?_append_left (List.getElem?_eq_some_iff.mp ht).1]; exact ht)).2
  cases ty with
  | object C =>
    obtain ⟨-, -, -, -, -, h1⟩ := h1
    obtain ⟨-, -, -, -, -, h2⟩ := h2
    exact Option.some.inj (h1.symm.trans h2)
  | _ => exact Option.some.inj (Eq.trans (Eq.symm h1) h2)
theorem x_new {KR : Option Value → xS → Option ρ} {d : Nat} {E : xEnv} {n : Nat} (hC : xCx p s m args meth c own cc nL D tc A n0 E.2.2.2.2.2.1 E.2.2.2.2.2.2) (hcl : xClOk) (hE : xEOk l own d E) (hd1 : d ≤ R.frames) (hd2 : 40 * d ≤ R.locals) (hdec : xdec cc pc (.new n)) (he : xstp E (.new n) pc L st h K KR = some x) : xGo p l e R s m args below meth c D tc nL n0 ad0 A c0 s0 Q E.2.2.2.2.2.1 (pc, L, st, h) K x := by
  obtain ⟨hx, hb, hml, hown, hts, hnw, hlk, hK, hA, hEx, hin, -⟩ := hC
  dsimp only [xstp] at he
  split at he
  · rename_i ci N fs hen
    split at he
    · cases he
    · rename_i hok0
      have hni : ¬ E.2.2.2.2.2.1 = false := fun q => hok0 (Or.inl q)
      have hok : ¬ xok h L st = false := fun q => hok0 (Or.inr q)
      obtain ⟨C, T, ty, a1, a2, a3, a4, a5, a6, a7⟩ := hE.2.2.2.2.1 _ _ _ _ hen
      refine ⟨_, he, ⟨by simp, Nat.le_succ _, Nat.le_add_right _ _, xkp_app rfl⟩, fun hb9 => absurd hb9 hni, fun hc0 hs0 hcl1 hsl1 hq => ?_⟩
      intro ad ls H locs ha hab hn hL hl hP hD hS
      obtain ⟨k1, k2, k3⟩ := xok_of hok
      dsimp only at hc0 hs0 hcl1 hsl1 hn hL hl hP hD ⊢
      refine va_new (ci := ci) (fs := fs) hx hb hts (hcl ci _ a1).1 ty a2 hown (hts _ a5) (hts _ a6) (hts _ a7) hK hP hD.1 hS hA a1 a3 (by omega) (by show h.2.2 - s0 + N ≤ R.slots; omega) (xdec_l hdec rfl) (fun q H1 hP1 hD1 hS1 => ?_)
      have e4 : ∀ ad', fs.map (xv ad') = fs := fun ad' => by
        conv => rhs; rw [← List.map_id fs]
        exact List.map_congr_left (fun v hv => a4 v hv ad')
      have kk := hq (fun j => if j = h.1.length then q else ad j) ls H1 locs (fun k hk => (if_neg (by omega)).trans (ha k hk)) (fun h9 => absurd h9 (by simp; omega)) (by simp; omega) hL (xad_L (n := h.1.length) (fun j hj => by simp; omega) k2 hl) (xad_P k1 (fun ad' => by show Sum.inr (ci, fs.map (xv ad')) = Sum.inr (ci, fs.map (xv ad)); rw [e4, e4]) (by show va_P D vwCl (xw tc ad h.1 ++ [(q, Sum.inr (ci, fs.map (xv ad)))]) H1; rw [e4]; exact hP1)) (xad_D rfl hD (by show va_D A (xw tc ad h.1 ++ [(q, Sum.inr (ci, fs.map (xv ad)))]); rw [e4]; exact hD1)) hS1
      dsimp only at kk
      rw [List.map_cons, xad_S (n := h.1.length) (ad := ad) (fun j hj => by simp; omega) k3, show xv (fun j => if j = h.1.length then q else ad j) (.ref h.1.length) = .ref q by simp [xv], show h.2.1 + 1 - c0 = h.2.1 - c0 + 1 by omega, show h.2.2 + N - s0 = h.2.2 - s0 + N by omega] at kk
      exact kk
  · cases he
theorem xT_int : Cond.arrayClass .int ∈ xT := by decide +kernel
theorem x_newarray {KR : Option Value → xS → Option ρ} {d : Nat} {E : xEnv} {n : ArrayType} (hC : xCx p s m args meth c own cc nL D tc A n0 E.2.2.2.2.2.1 E.2.2.2.2.2.2) (hcl : xClOk) (hE : xEOk l own d E) (hd1 : d ≤ R.frames) (hd2 : 40 * d ≤ R.locals) (hdec : xdec cc pc (.newarray n)) (he : xstp E (.newarray n) pc L st h K KR = some x) : xGo p l e R s m args below meth c D tc nL n0 ad0 A c0 s0 Q E.2.2.2.2.2.1 (pc, L, st, h) K x := by
  obtain ⟨hx, hb, hml, hown, hts, hnw, hlk, hK, hA, hEx, hin, -⟩ := hC
  cases n with
  | int =>
    dsimp only [xstp] at he
    split at he
    · rename_i v st'
      split at he
      · cases he
      · rename_i hok
        have hni : ¬ E.2.2.2.2.2.1 = false := fun q => hok (Or.inl q)
        have o1 : ¬ v < 0 := fun q => hok (Or.inr (Or.inl q))
        have o2 : ¬ 100000 < v.toNatClampNeg := fun q => hok (Or.inr (Or.inr (Or.inl q)))
        have o3 : ¬ xok h L st' = false := fun q => hok (Or.inr (Or.inr (Or.inr q)))
        refine ⟨_, he, ⟨by simp, Nat.le_succ _, Nat.le_add_right _ _, xkp_app rfl⟩, fun hb9 => absurd hb9 hni, fun hc0 hs0 hcl1 hsl1 hq => ?_⟩
        intro ad ls H locs ha hab hn hL hl hP hD hS
        obtain ⟨k1, k2, k3⟩ := xok_of o3
        dsimp only at hc0 hs0 hcl1 hsl1 hn hL hl hP hD ⊢
        refine va_newa (atype := .int) (ty := .int) (a0 := (v.toNatClampNeg, .inl (fun _ => 0))) hx hb (hts (.arrayClass .int) xT_int) rfl hK hP hD.1 hS hA (fun cA => rfl) o1 rfl (by show _ * 4 ≤ _; omega) (by omega) (by omega) (xdec_l hdec rfl) (fun q cA H1 hK1 hP1 hD1 hS1 => ?_)
        have ecA : cA = tc 0 := xcA (t := 0) hK1 rfl
        subst ecA
        have kk := hq (fun j => if j = h.1.length then q else ad j) ls H1 locs (fun k hk => (if_neg (by omega)).trans (ha k hk)) (fun h9 => absurd h9 (by simp; omega)) (by simp; omega) hL (xad_L (n := h.1.length) (fun j hj => by simp; omega) k2 hl) (xad_P k1 (fun ad' => rfl) hP1) (xad_D rfl hD hD1) hS1
        dsimp only at kk
        rw [List.map_cons, xad_S (n := h.1.length) (ad := ad) (fun j hj => by simp; omega) k3, show xv (fun j => if j = h.1.length then q else ad j) (.ref h.1.length) = .ref q by simp [xv], show h.2.1 + 1 - c0 = h.2.1 - c0 + 1 by omega, show h.2.2 + v.toNatClampNeg - s0 = h.2.2 - s0 + v.toNatClampNeg by omega] at kk
        exact kk
    · cases he
  | _ => cases he
theorem x_anewarray {KR : Option Value → xS → Option ρ} {d : Nat} {E : xEnv} {n : Nat} (hC : xCx p s m args meth c own cc nL D tc A n0 E.2.2.2.2.2.1 E.2.2.2.2.2.2) (hcl : xClOk) (hE : xEOk l own d E) (hd1 : d ≤ R.frames) (hd2 : 40 * d ≤ R.locals) (hdec : xdec cc pc (.anewarray n)) (he : xstp E (.anewarray n) pc L st h K KR = some x) : xGo p l e R s m args below meth c D tc nL n0 ad0 A c0 s0 Q E.2.2.2.2.2.1 (pc, L, st, h) K x := by
  obtain ⟨hx, hb, hml, hown, hts, hnw, hlk, hK, hA, hEx, hin, -⟩ := hC
  dsimp only [xstp] at he
  split at he
  · rename_i t v st' hen
    split at he
    · cases he
    · rename_i hok
      have hni : ¬ E.2.2.2.2.2.1 = false := fun q => hok (Or.inl q)
      have o1 : ¬ v < 0 := fun q => hok (Or.inr (Or.inl q))
      have o2 : ¬ 100000 < v.toNatClampNeg := fun q => hok (Or.inr (Or.inr (Or.inl q)))
      have o3 : ¬ xok h L st' = false := fun q => hok (Or.inr (Or.inr (Or.inr q)))
      obtain ⟨C, a1, a2, a3⟩ := hE.2.2.2.2.2 _ _ hen
      refine ⟨_, he, ⟨by simp, Nat.le_succ _, Nat.le_add_right _ _, xkp_app rfl⟩, fun hb9 => absurd hb9 hni, fun hc0 hs0 hcl1 hsl1 hq => ?_⟩
      intro ad ls H locs ha hab hn hL hl hP hD hS
      obtain ⟨k1, k2, k3⟩ := xok_of o3
      dsimp only at hc0 hs0 hcl1 hsl1 hn hL hl hP hD ⊢
      refine va_newq hx hb hown (hts _ a1) (hnw _ a2) hK hP hD.1 hS hA o1 rfl (by omega) (by omega) (by omega) (xdec_l hdec rfl) (fun q cA H1 hK1 hP1 hD1 hS1 => ?_)
      have ecA : cA = tc t := by
        rcases a3 with ⟨rfl, rfl⟩ | ⟨rfl, rfl⟩
        · exact xcA (t := 1) hK1 rfl
        · exact xcA (t := 2) hK1 rfl
      subst ecA
      have kk := hq (fun j => if j = h.1.length then q else ad j) ls H1 locs (fun k hk => (if_neg (by omega)).trans (ha k hk)) (fun h9 => absurd h9 (by simp; omega)) (by simp; omega) hL (xad_L (n := h.1.length) (fun j hj => by simp; omega) k2 hl) (xad_P k1 (fun ad' => rfl) hP1) (xad_D (o := .inl (t, v.toNatClampNeg, .inr (.inr (fun _ => none)))) rfl hD hD1) hS1
      dsimp only at kk
      rw [List.map_cons, xad_S (n := h.1.length) (ad := ad) (fun j hj => by simp; omega) k3, show xv (fun j => if j = h.1.length then q else ad j) (.ref h.1.length) = .ref q by simp [xv], show h.2.1 + 1 - c0 = h.2.1 - c0 + 1 by omega, show h.2.2 + v.toNatClampNeg - s0 = h.2.2 - s0 + v.toNatClampNeg by omega] at kk
      exact kk
  · cases he

theorem x_cal {d key : Nat} {o : Option (Nat × Bool × xF)} {rt : Option FieldType} {init : Bool} (hC : xCx p s m args meth c own cc nL D tc A n0 init rt) (hs : ∀ n b F, o = some (n, b, F) → xSite l own d key n b F) (hd1 : d ≤ R.frames) (hd2 : 40 * d ≤ R.locals) (hdec : decode cc pc = .ok (xiv key, 3)) (he : xcal init o pc L st h K = some x) : xGo p l e R s m args below meth c D tc nL n0 ad0 A c0 s0 Q init (pc, L, st, h) K x := by
  unfold xcal at he
  split at he
  · rename_i n b F
    split at he
    · rename_i hn
      simp only [Bool.and_eq_true, Bool.or_eq_true, Bool.not_eq_true'] at hn
      obtain ⟨hn, hcat, hbb⟩ := hn
      have hn : n ≤ st.length := Nat.le_of_ble_eq_true hn
      have hF := hs n b F rfl
      have e1 : ((st.take n).reverse).length = n := by simp; omega
      have e2 : (st.take n).reverse.reverse ++ st.drop n = st := by simp
      have hb2 : b = true → xokL h.1.length L = true ∧ (st.drop n).all (xokV h.1.length) = true := by
        intro hb
        rcases hbb with hbb | ⟨-, hbb⟩
        · rw [hb] at hbb; cases hbb
        · simp only [xok, Bool.and_eq_true] at hbb
          exact ⟨hbb.1.2, hbb.2⟩
      have hbi : init = false → b = false := by
        intro hi
        rcases hbb with hbb | ⟨hbb, -⟩
        · exact hbb
        · rw [hi] at hbb; cases hbb
      have go : ∀ (pu : List Value) (h' : xS), xres F (st.take n).reverse h pu h' → K (pc + 3, L, pu ++ st.drop n, h') = some x → xGo p l e R s m args below meth c D tc nL n0 ad0 A c0 s0 Q init (pc, L, st, h) K x := by
        intro pu h' hr hk
        refine ⟨_, hk, (hF.1 _ _ _ _ hr).1, fun hi => (hF.1 _ _ _ _ hr).2 (hbi hi), fun g1 g2 g3 g4 hq => ?_⟩
        have := hF.2 p e R s m args below meth c cc D tc nL n0 ad0 A c0 s0 Q init rt pc L (st.take n).reverse (st.drop n) h pu h' hC hd1 hd2 hdec e1 hcat hb2 hr g1 g2 g3 g4 hq
        rw [e2] at this
        exact this
      split at he
      · obtain ⟨h', h1, h2⟩ := Option.bind_eq_some_iff.mp he
        exact go [] h' ⟨h1, rfl⟩ h2
      · obtain ⟨r, h1, h2⟩ := Option.bind_eq_some_iff.mp he
        exact go [.int r.1] r.2 ⟨r.1, h1, rfl⟩ h2
      · obtain ⟨r, h1, h2⟩ := Option.bind_eq_some_iff.mp he
        exact go [.long r.1] r.2 ⟨r.1, h1, rfl⟩ h2
    · cases he
  · cases he
theorem x_invokevirtual {KR : Option Value → xS → Option ρ} {d : Nat} {E : xEnv} {n : Nat} (hC : xCx p s m args meth c own cc nL D tc A n0 E.2.2.2.2.2.1 E.2.2.2.2.2.2) (hcl : xClOk) (hE : xEOk l own d E) (hd1 : d ≤ R.frames) (hd2 : 40 * d ≤ R.locals) (hdec : xdec cc pc (.invokevirtual n)) (he : xstp E (.invokevirtual n) pc L st h K KR = some x) : xGo p l e R s m args below meth c D tc nL n0 ad0 A c0 s0 Q E.2.2.2.2.2.1 (pc, L, st, h) K x := by
  exact x_cal hC (hE.2.2.2.1 (3 * n)) hd1 hd2 (by rw [show xiv (3 * n) = .invokevirtual n by unfold xiv; rw [show (3 * n) % 3 = 0 by omega, show (3 * n) / 3 = n by omega]; rfl]; exact xdec_l hdec rfl) he
theorem x_invokestatic {KR : Option Value → xS → Option ρ} {d : Nat} {E : xEnv} {n : Nat} (hC : xCx p s m args meth c own cc nL D tc A n0 E.2.2.2.2.2.1 E.2.2.2.2.2.2) (hcl : xClOk) (hE : xEOk l own d E) (hd1 : d ≤ R.frames) (hd2 : 40 * d ≤ R.locals) (hdec : xdec cc pc (.invokestatic n)) (he : xstp E (.invokestatic n) pc L st h K KR = some x) : xGo p l e R s m args below meth c D tc nL n0 ad0 A c0 s0 Q E.2.2.2.2.2.1 (pc, L, st, h) K x := by
  exact x_cal hC (hE.2.2.2.1 (3 * n + 1)) hd1 hd2 (by rw [show xiv (3 * n + 1) = .invokestatic n by unfold xiv; rw [show (3 * n + 1) % 3 = 1 by omega, show (3 * n + 1) / 3 = n by omega]; rfl]; exact xdec_l hdec rfl) he
theorem x_invokespecial {KR : Option Value → xS → Option ρ} {d : Nat} {E : xEnv} {n : Nat} (hC : xCx p s m args meth c own cc nL D tc A n0 E.2.2.2.2.2.1 E.2.2.2.2.2.2) (hcl : xClOk) (hE : xEOk l own d E) (hd1 : d ≤ R.frames) (hd2 : 40 * d ≤ R.locals) (hdec : xdec cc pc (.invokespecial n)) (he : xstp E (.invokespecial n) pc L st h K KR = some x) : xGo p l e R s m args below meth c D tc nL n0 ad0 A c0 s0 Q E.2.2.2.2.2.1 (pc, L, st, h) K x := by
  exact x_cal hC (hE.2.2.2.1 (3 * n + 2)) hd1 hd2 (by rw [show xiv (3 * n + 2) = .invokespecial n by unfold xiv; rw [show (3 * n + 2) % 3 = 2 by omega, show (3 * n + 2) / 3 = n by omega]; rfl]; exact xdec_l hdec rfl) he

set_option maxHeartbeats 4000000 in
theorem xstp_ok {KR : Option Value → xS → Option ρ} {d : Nat} {E : xEnv} (hC : xCx p s m args meth c own cc nL D tc A n0 E.2.2.2.2.2.1 E.2.2.2.2.2.2) (hcl : xClOk) (hE : xEOk l own d E) (hd1 : d ≤ R.frames) (hd2 : 40 * d ≤ R.locals) {i : Instr} (hdec : xdec cc pc i) (he : xstp E i pc L st h K KR = some x) :
    xGo p l e R s m args below meth c D tc nL n0 ad0 A c0 s0 Q E.2.2.2.2.2.1 (pc, L, st, h) K x ∨ ∃ r, KR r h = some x ∧ xRt i st E.2.2.2.2.2.2 r := by
  have hx := hC.1
  have hb := hC.2.1
  have hml := hC.2.2.1
  have hown := hC.2.2.2.1
  have hts := hC.2.2.2.2.1
  have hco := hE.2.1
  have hcoL := hE.2.2.1
  cases i with
  | iconst n =>
    exact Or.inl (xgo1 he rfl rfl fun ad ls H locs hl hL hP hD hS k => lv_iconst hx hb (xdec_l hdec rfl) rfl (k ls hl))
  | bipush n =>
    exact Or.inl (xgo1 he rfl rfl fun ad ls H locs hl hL hP hD hS k => lv_bipush hx hb (xdec_l hdec rfl) rfl (k ls hl))
  | sipush n =>
    exact Or.inl (xgo1 he rfl rfl fun ad ls H locs hl hL hP hD hS k => lv_sipush hx hb (xdec_l hdec rfl) rfl (k ls hl))
  | lconst n =>
    exact Or.inl (xgo1 he rfl rfl fun ad ls H locs hl hL hP hD hS k => lv_lconst hx hb (xdec_l hdec rfl) rfl (k ls hl))
  | goto o =>
    exact Or.inl (xgo1 he rfl rfl fun ad ls H locs hl hL hP hD hS k => lv_goto hx hb (xdec_l hdec rfl) (xjmp_ok (of_decide_eq_true hdec.2)) (k ls hl))
  | ldc n =>
    dsimp only [xstp] at he
    split at he
    · rename_i v heq
      exact Or.inl (xgo1 he rfl rfl fun ad ls H locs hl hL hP hD hS k => lv_ldc hx hb hown (hts _ (hco _ _ heq)) (xdec_l hdec rfl) (k ls hl))
    · cases he
  | ldc_w n =>
    dsimp only [xstp] at he
    split at he
    · rename_i v heq
      exact Or.inl (xgo1 he rfl rfl fun ad ls H locs hl hL hP hD hS k => lv_ldcw hx hb hown (hts _ (hco _ _ heq)) (xdec_l hdec rfl) (k ls hl))
    · cases he
  | ldc2_w n =>
    dsimp only [xstp] at he
    split at he
    · rename_i v heq
      exact Or.inl (xgo1 he rfl rfl fun ad ls H locs hl hL hP hD hS k => lv_ldc2 hx hb hown (hts _ (hcoL _ _ heq)) (xdec_l hdec rfl) (k ls hl))
    · cases he
  | iload_n n =>
    dsimp only [xstp] at he
    split at he
    · rename_i v heq
      exact Or.inl (xgo1 he rfl rfl fun ad ls H locs hl hL hP hD hS k => lv_iload_n hx hb (xdec_l hdec rfl) rfl (xl_get hl heq) (k ls hl))
    · cases he
  | iload n =>
    dsimp only [xstp] at he
    split at he
    · rename_i v heq
      exact Or.inl (xgo1 he rfl rfl fun ad ls H locs hl hL hP hD hS k => lv_iload hx hb (xdec_l hdec rfl) (xl_get hl heq) (k ls hl))
    · cases he
  | lload_n n =>
    dsimp only [xstp] at he
    split at he
    · rename_i v heq
      exact Or.inl (xgo1 he rfl rfl fun ad ls H locs hl hL hP hD hS k => lv_lload_n hx hb (xdec_l hdec rfl) rfl (xl_get hl heq) (k ls hl))
    · cases he
  | lload n =>
    dsimp only [xstp] at he
    split at he
    · rename_i v heq
      exact Or.inl (xgo1 he rfl rfl fun ad ls H locs hl hL hP hD hS k => lv_lload hx hb (xdec_l hdec rfl) (xl_get hl heq) (k ls hl))
    · cases he
  | aload_n n =>
    dsimp only [xstp] at he
    split at he
    · rename_i v heq
      exact Or.inl (xgo1 he rfl rfl fun ad ls H locs hl hL hP hD hS k => lv_aload_n hx hb (xdec_l hdec rfl) rfl (xl_get hl heq) (k ls hl))
    · cases he
  | aload n =>
    dsimp only [xstp] at he
    split at he
    · rename_i v heq
      exact Or.inl (xgo1 he rfl rfl fun ad ls H locs hl hL hP hD hS k => lv_aload hx hb (xdec_l hdec rfl) (xl_get hl heq) (k ls hl))
    · cases he
  | istore_n n =>
    dsimp only [xstp] at he
    split at he
    · split at he
      · rename_i L' heq
        exact Or.inl (xgo1 he rfl (xst1_len heq) fun ad ls H locs hl hL hP hD hS k => lv_istore_n hx hb (xdec_l hdec rfl) rfl hl (xst1_ok hl hL rfl heq).1 rfl (fun ls' h' => k ls' ((xst1_ok hl hL rfl heq).2.2 ls' h')))
      · cases he
    · cases he
  | istore n =>
    dsimp only [xstp] at he
    split at he
    · split at he
      · rename_i L' heq
        exact Or.inl (xgo1 he rfl (xst1_len heq) fun ad ls H locs hl hL hP hD hS k => lv_istore hx hb (xdec_l hdec rfl) hl (xst1_ok hl hL rfl heq).1 rfl (fun ls' h' => k ls' ((xst1_ok hl hL rfl heq).2.2 ls' h')))
      · cases he
    · cases he
  | lstore_n n =>
    dsimp only [xstp] at he
    split at he
    · split at he
      · rename_i L' heq
        exact Or.inl (xgo1 he rfl (xst2_len heq) fun ad ls H locs hl hL hP hD hS k => lv_lstore_n hx hb (xdec_l hdec rfl) rfl hl (xst2_ok hl hL heq).1 rfl (fun ls' h' => k ls' ((xst2_ok hl hL heq).2.2 ls' h')))
      · cases he
    · cases he
  | lstore n =>
    dsimp only [xstp] at he
    split at he
    · split at he
      · rename_i L' heq
        exact Or.inl (xgo1 he rfl (xst2_len heq) fun ad ls H locs hl hL hP hD hS k => lv_lstore hx hb (xdec_l hdec rfl) hl (xst2_ok hl hL heq).1 rfl (fun ls' h' => k ls' ((xst2_ok hl hL heq).2.2 ls' h')))
      · cases he
    · cases he
  | astore_n n =>
    dsimp only [xstp] at he
    split at he
    · split at he
      · rename_i L' heq
        exact Or.inl (xgo1 he rfl (xst1_len heq) fun ad ls H locs hl hL hP hD hS k => lv_astore_n hx hb (xdec_l hdec rfl) rfl hl (xst1_ok hl hL rfl heq).1 rfl (fun ls' h' => k ls' ((xst1_ok hl hL rfl heq).2.2 ls' h')))
      · cases he
    · cases he
  | astore n =>
    dsimp only [xstp] at he
    split at he
    · split at he
      · rename_i L' heq
        exact Or.inl (xgo1 he rfl (xst1_len heq) fun ad ls H locs hl hL hP hD hS k => lv_astore hx hb (xdec_l hdec rfl) hl (xst1_ok hl hL rfl heq).1 rfl (fun ls' h' => k ls' ((xst1_ok hl hL rfl heq).2.2 ls' h')))
      · cases he
    · cases he
  | iinc n o =>
    dsimp only [xstp] at he
    split at he
    · rename_i v hv
      split at he
      · rename_i L' heq
        exact Or.inl (xgo1 he rfl (xst1_len heq) fun ad ls H locs hl hL hP hD hS k => (List.mem_iff_getElem?.mp (xl_in (ad := ad) hv)).elim fun k0 hk0 => lv_iinc hx hb (xdec_l hdec rfl) hl hk0 rfl (xst1_ok hl hL rfl heq).1 rfl (fun ls' h' => k ls' ((xst1_ok hl hL rfl heq).2.2 ls' h')))
      · cases he
    · cases he
  | iadd =>
    dsimp only [xstp] at he
    split at he
    · exact Or.inl (xgo1 he rfl rfl fun ad ls H locs hl hL hP hD hS k => lv_iadd hx hb (xdec_l hdec rfl) (k ls hl))
    · cases he
  | isub =>
    dsimp only [xstp] at he
    split at he
    · exact Or.inl (xgo1 he rfl rfl fun ad ls H locs hl hL hP hD hS k => lv_isub hx hb (xdec_l hdec rfl) (k ls hl))
    · cases he
  | imul =>
    dsimp only [xstp] at he
    split at he
    · exact Or.inl (xgo1 he rfl rfl fun ad ls H locs hl hL hP hD hS k => lv_imul hx hb (xdec_l hdec rfl) (k ls hl))
    · cases he
  | iand =>
    dsimp only [xstp] at he
    split at he
    · exact Or.inl (xgo1 he rfl rfl fun ad ls H locs hl hL hP hD hS k => lv_iand hx hb (xdec_l hdec rfl) (k ls hl))
    · cases he
  | ior =>
    dsimp only [xstp] at he
    split at he
    · exact Or.inl (xgo1 he rfl rfl fun ad ls H locs hl hL hP hD hS k => lv_ior hx hb (xdec_l hdec rfl) (k ls hl))
    · cases he
  | ixor =>
    dsimp only [xstp] at he
    split at he
    · exact Or.inl (xgo1 he rfl rfl fun ad ls H locs hl hL hP hD hS k => lv_ixor hx hb (xdec_l hdec rfl) (k ls hl))
    · cases he
  | ishl =>
    dsimp only [xstp] at he
    split at he
    · exact Or.inl (xgo1 he rfl rfl fun ad ls H locs hl hL hP hD hS k => lv_ishl hx hb (xdec_l hdec rfl) (k ls hl))
    · cases he
  | ishr =>
    dsimp only [xstp] at he
    split at he
    · exact Or.inl (xgo1 he rfl rfl fun ad ls H locs hl hL hP hD hS k => lv_ishr hx hb (xdec_l hdec rfl) (k ls hl))
    · cases he
  | ladd =>
    dsimp only [xstp] at he
    split at he
    · exact Or.inl (xgo1 he rfl rfl fun ad ls H locs hl hL hP hD hS k => lv_ladd hx hb (xdec_l hdec rfl) (k ls hl))
    · cases he
  | lsub =>
    dsimp only [xstp] at he
    split at he
    · exact Or.inl (xgo1 he rfl rfl fun ad ls H locs hl hL hP hD hS k => lv_lsub hx hb (xdec_l hdec rfl) (k ls hl))
    · cases he
  | lmul =>
    dsimp only [xstp] at he
    split at he
    · exact Or.inl (xgo1 he rfl rfl fun ad ls H locs hl hL hP hD hS k => lv_lmul hx hb (xdec_l hdec rfl) (k ls hl))
    · cases he
  | lcmp =>
    dsimp only [xstp] at he
    split at he
    · exact Or.inl (xgo1 he rfl rfl fun ad ls H locs hl hL hP hD hS k => W.lcmp hx hb (xdec_l hdec rfl) (k ls hl))
    · cases he
  | idiv =>
    dsimp only [xstp] at he
    split at he
    · split at he
      · cases he
      · rename_i hne
        exact Or.inl (xgo1 he rfl rfl fun ad ls H locs hl hL hP hD hS k => lv_idiv hx hb (xdec_l hdec rfl) hne (k ls hl))
    · cases he
  | irem =>
    dsimp only [xstp] at he
    split at he
    · split at he
      · cases he
      · rename_i hne
        exact Or.inl (xgo1 he rfl rfl fun ad ls H locs hl hL hP hD hS k => lv_irem hx hb (xdec_l hdec rfl) hne (k ls hl))
    · cases he
  | ldiv =>
    dsimp only [xstp] at he
    split at he
    · split at he
      · cases he
      · rename_i hne
        exact Or.inl (xgo1 he rfl rfl fun ad ls H locs hl hL hP hD hS k => lv_ldiv hx hb (xdec_l hdec rfl) hne (k ls hl))
    · cases he
  | lrem =>
    dsimp only [xstp] at he
    split at he
    · split at he
      · cases he
      · rename_i hne
        exact Or.inl (xgo1 he rfl rfl fun ad ls H locs hl hL hP hD hS k => lv_lrem hx hb (xdec_l hdec rfl) hne (k ls hl))
    · cases he
  | i2l =>
    dsimp only [xstp] at he
    split at he
    · exact Or.inl (xgo1 he rfl rfl fun ad ls H locs hl hL hP hD hS k => lv_i2l hx hb (xdec_l hdec rfl) rfl (k ls hl))
    · cases he
  | i2b =>
    dsimp only [xstp] at he
    split at he
    · exact Or.inl (xgo1 he rfl rfl fun ad ls H locs hl hL hP hD hS k => lv_i2b hx hb (xdec_l hdec rfl) rfl (k ls hl))
    · cases he
  | i2s =>
    dsimp only [xstp] at he
    split at he
    · exact Or.inl (xgo1 he rfl rfl fun ad ls H locs hl hL hP hD hS k => lv_i2s hx hb (xdec_l hdec rfl) rfl (k ls hl))
    · cases he
  | dup =>
    dsimp only [xstp] at he
    split at he
    · exact Or.inl (xgo1 he rfl rfl fun ad ls H locs hl hL hP hD hS k => lv_dup hx hb (xdec_l hdec rfl) rfl (k ls hl))
    · cases he
  | pop =>
    dsimp only [xstp] at he
    split at he
    · exact Or.inl (xgo1 he rfl rfl fun ad ls H locs hl hL hP hD hS k => lv_pop hx hb (xdec_l hdec rfl) rfl (k ls hl))
    · cases he
  | dup2 =>
    dsimp only [xstp] at he
    split at he
    · exact Or.inl (xgo1 he rfl rfl fun ad ls H locs hl hL hP hD hS k => lv_dup2_11 hx hb (xdec_l hdec rfl) rfl rfl (k ls hl))
    · cases he
  | ifCond o off =>
    cases o with
    | eq =>
      dsimp only [xstp] at he
      split at he
      · split at he
        · rename_i hc
          exact Or.inl (xgo1 he rfl rfl fun ad ls H locs hl hL hP hD hS k => lv_if_eq hx hb (xdec_l hdec rfl) (xjmp_ok (of_decide_eq_true hdec.2)) (fun _ => k ls hl) (fun hn => absurd hc hn))
        · rename_i hc
          exact Or.inl (xgo1 he rfl rfl fun ad ls H locs hl hL hP hD hS k => lv_if_eq hx hb (xdec_l hdec rfl) (xjmp_ok (of_decide_eq_true hdec.2)) (fun hn => absurd hn hc) (fun _ => k ls hl))
      · cases he
    | ne =>
      dsimp only [xstp] at he
      split at he
      · split at he
        · rename_i hc
          exact Or.inl (xgo1 he rfl rfl fun ad ls H locs hl hL hP hD hS k => lv_if_ne hx hb (xdec_l hdec rfl) (xjmp_ok (of_decide_eq_true hdec.2)) (fun hn => absurd hc hn) (fun _ => k ls hl))
        · rename_i hc
          exact Or.inl (xgo1 he rfl rfl fun ad ls H locs hl hL hP hD hS k => lv_if_ne hx hb (xdec_l hdec rfl) (xjmp_ok (of_decide_eq_true hdec.2)) (fun _ => k ls hl) (fun hn => absurd hn hc))
      · cases he
    | lt =>
      dsimp only [xstp] at he
      split at he
      · split at he
        · rename_i hc
          exact Or.inl (xgo1 he rfl rfl fun ad ls H locs hl hL hP hD hS k => lv_if_lt hx hb (xdec_l hdec rfl) (xjmp_ok (of_decide_eq_true hdec.2)) (fun _ => k ls hl) (fun hn => absurd hc hn))
        · rename_i hc
          exact Or.inl (xgo1 he rfl rfl fun ad ls H locs hl hL hP hD hS k => lv_if_lt hx hb (xdec_l hdec rfl) (xjmp_ok (of_decide_eq_true hdec.2)) (fun hn => absurd hn hc) (fun _ => k ls hl))
      · cases he
    | ge =>
      dsimp only [xstp] at he
      split at he
      · split at he
        · rename_i hc
          exact Or.inl (xgo1 he rfl rfl fun ad ls H locs hl hL hP hD hS k => lv_if_ge hx hb (xdec_l hdec rfl) (xjmp_ok (of_decide_eq_true hdec.2)) (fun _ => k ls hl) (fun hn => absurd hc hn))
        · rename_i hc
          exact Or.inl (xgo1 he rfl rfl fun ad ls H locs hl hL hP hD hS k => lv_if_ge hx hb (xdec_l hdec rfl) (xjmp_ok (of_decide_eq_true hdec.2)) (fun hn => absurd hn hc) (fun _ => k ls hl))
      · cases he
    | gt =>
      dsimp only [xstp] at he
      split at he
      · split at he
        · rename_i hc
          exact Or.inl (xgo1 he rfl rfl fun ad ls H locs hl hL hP hD hS k => lv_if_gt hx hb (xdec_l hdec rfl) (xjmp_ok (of_decide_eq_true hdec.2)) (fun _ => k ls hl) (fun hn => absurd hc hn))
        · rename_i hc
          exact Or.inl (xgo1 he rfl rfl fun ad ls H locs hl hL hP hD hS k => lv_if_gt hx hb (xdec_l hdec rfl) (xjmp_ok (of_decide_eq_true hdec.2)) (fun hn => absurd hn hc) (fun _ => k ls hl))
      · cases he
    | le =>
      dsimp only [xstp] at he
      split at he
      · split at he
        · rename_i hc
          exact Or.inl (xgo1 he rfl rfl fun ad ls H locs hl hL hP hD hS k => lv_if_le hx hb (xdec_l hdec rfl) (xjmp_ok (of_decide_eq_true hdec.2)) (fun _ => k ls hl) (fun hn => absurd hc hn))
        · rename_i hc
          exact Or.inl (xgo1 he rfl rfl fun ad ls H locs hl hL hP hD hS k => lv_if_le hx hb (xdec_l hdec rfl) (xjmp_ok (of_decide_eq_true hdec.2)) (fun hn => absurd hn hc) (fun _ => k ls hl))
      · cases he
  | if_icmp o off =>
    cases o with
    | eq =>
      dsimp only [xstp] at he
      split at he
      · split at he
        · rename_i hc
          exact Or.inl (xgo1 he rfl rfl fun ad ls H locs hl hL hP hD hS k => lv_icmp_eq hx hb (xdec_l hdec rfl) (xjmp_ok (of_decide_eq_true hdec.2)) (fun _ => k ls hl) (fun hn => absurd hc hn))
        · rename_i hc
          exact Or.inl (xgo1 he rfl rfl fun ad ls H locs hl hL hP hD hS k => lv_icmp_eq hx hb (xdec_l hdec rfl) (xjmp_ok (of_decide_eq_true hdec.2)) (fun hn => absurd hn hc) (fun _ => k ls hl))
      · cases he
    | ne =>
      dsimp only [xstp] at he
      split at he
      · split at he
        · rename_i hc
          exact Or.inl (xgo1 he rfl rfl fun ad ls H locs hl hL hP hD hS k => lv_icmp_ne hx hb (xdec_l hdec rfl) (xjmp_ok (of_decide_eq_true hdec.2)) (fun hn => absurd hc hn) (fun _ => k ls hl))
        · rename_i hc
          exact Or.inl (xgo1 he rfl rfl fun ad ls H locs hl hL hP hD hS k => lv_icmp_ne hx hb (xdec_l hdec rfl) (xjmp_ok (of_decide_eq_true hdec.2)) (fun _ => k ls hl) (fun hn => absurd hn hc))
      · cases he
    | lt =>
      dsimp only [xstp] at he
      split at he
      · split at he
        · rename_i hc
          exact Or.inl (xgo1 he rfl rfl fun ad ls H locs hl hL hP hD hS k => lv_icmp_lt hx hb (xdec_l hdec rfl) (xjmp_ok (of_decide_eq_true hdec.2)) (fun _ => k ls hl) (fun hn => absurd hc hn))
        · rename_i hc
          exact Or.inl (xgo1 he rfl rfl fun ad ls H locs hl hL hP hD hS k => lv_icmp_lt hx hb (xdec_l hdec rfl) (xjmp_ok (of_decide_eq_true hdec.2)) (fun hn => absurd hn hc) (fun _ => k ls hl))
      · cases he
    | ge =>
      dsimp only [xstp] at he
      split at he
      · split at he
        · rename_i hc
          exact Or.inl (xgo1 he rfl rfl fun ad ls H locs hl hL hP hD hS k => lv_icmp_ge hx hb (xdec_l hdec rfl) (xjmp_ok (of_decide_eq_true hdec.2)) (fun _ => k ls hl) (fun hn => absurd hc hn))
        · rename_i hc
          exact Or.inl (xgo1 he rfl rfl fun ad ls H locs hl hL hP hD hS k => lv_icmp_ge hx hb (xdec_l hdec rfl) (xjmp_ok (of_decide_eq_true hdec.2)) (fun hn => absurd hn hc) (fun _ => k ls hl))
      · cases he
    | gt =>
      dsimp only [xstp] at he
      split at he
      · split at he
        · rename_i hc
          exact Or.inl (xgo1 he rfl rfl fun ad ls H locs hl hL hP hD hS k => lv_icmp_gt hx hb (xdec_l hdec rfl) (xjmp_ok (of_decide_eq_true hdec.2)) (fun _ => k ls hl) (fun hn => absurd hc hn))
        · rename_i hc
          exact Or.inl (xgo1 he rfl rfl fun ad ls H locs hl hL hP hD hS k => lv_icmp_gt hx hb (xdec_l hdec rfl) (xjmp_ok (of_decide_eq_true hdec.2)) (fun hn => absurd hn hc) (fun _ => k ls hl))
      · cases he
    | le =>
      dsimp only [xstp] at he
      split at he
      · split at he
        · rename_i hc
          exact Or.inl (xgo1 he rfl rfl fun ad ls H locs hl hL hP hD hS k => lv_icmp_le hx hb (xdec_l hdec rfl) (xjmp_ok (of_decide_eq_true hdec.2)) (fun _ => k ls hl) (fun hn => absurd hc hn))
        · rename_i hc
          exact Or.inl (xgo1 he rfl rfl fun ad ls H locs hl hL hP hD hS k => lv_icmp_le hx hb (xdec_l hdec rfl) (xjmp_ok (of_decide_eq_true hdec.2)) (fun hn => absurd hn hc) (fun _ => k ls hl))
      · cases he
  | tableswitch d lo hi offs =>
    dsimp only [xstp] at he
    split at he
    · have hj := hdec.2
      obtain ⟨⟨nn, hdd, -⟩, -⟩ := hdec
      simp only [xjok, Bool.and_eq_true, decide_eq_true_eq, List.all_eq_true] at hj
      obtain ⟨⟨⟨⟨h1, h2⟩, h3⟩, h4⟩, h5⟩ := hj
      rcases xsw_tab pc offs.toList lo h4 (by omega) he with ⟨j, o, a1, a2, a3⟩ | ⟨a1, a2⟩
      · have hjl : j < offs.toList.length := (List.getElem?_eq_some_iff.mp a1).1
        exact Or.inl (xgo1 a3 rfl rfl fun ad ls H locs hl hL hP hD hS k => lv_tableIn hx hb hdd (by omega) (by omega) (off := o) (by rw [show (_ - lo).toNat = j by omega]; simpa using a1) (xjmp_ok (h2 o (List.mem_of_getElem? a1))) (k ls hl))
      · exact Or.inl (xgo1 a2 rfl rfl fun ad ls H locs hl hL hP hD hS k => lv_tableOut hx hb hdd (by rcases a1 with a1 | a1; exact Or.inl a1; exact Or.inr (by omega)) (xjmp_ok h1) (k ls hl))
    · cases he
  | lookupswitch d ps =>
    dsimp only [xstp] at he
    split at he
    · have hj := hdec.2
      obtain ⟨⟨nn, hdd, -⟩, -⟩ := hdec
      simp only [xjok, Bool.and_eq_true, decide_eq_true_eq] at hj
      obtain ⟨⟨h1, h2⟩, h3⟩ := hj
      have h2 : ∀ q ∈ ps.toList, (0 ≤ (pc : Int) + q.2 ∧ -2147483648 ≤ q.1) ∧ q.1 < 2147483648 := fun q hq => by simpa using List.all_eq_true.mp h2 q hq
      have a3 := xsw_look pc ps.toList (fun q hq => ⟨(h2 q hq).1.2, (h2 q hq).2⟩) he
      exact Or.inl (xgo1 a3 rfl rfl fun ad ls H locs hl hL hP hD hS k => lv_lookup hx hb hdd h3 rfl (xjmp_ok (xoff_ok h1 ps.toList (fun q hq => (h2 q hq).1.1))) (k ls hl))
    · cases he
  | return_ =>
    dsimp only [xstp] at he
    split at he
    · rename_i h1 h2
      exact Or.inr ⟨_, he, Or.inl ⟨rfl, rfl, h2, rfl⟩⟩
    · cases he
  | ireturn =>
    dsimp only [xstp] at he
    split at he
    · exact Or.inr ⟨_, he, Or.inr (Or.inl ⟨rfl, _, rfl, rfl, Or.inl (by assumption)⟩)⟩
    · split at he
      · rename_i hv
        exact Or.inr ⟨_, he, Or.inr (Or.inl ⟨rfl, _, rfl, rfl, Or.inr ⟨by assumption, hv⟩⟩)⟩
      · cases he
    · cases he
  | lreturn =>
    dsimp only [xstp] at he
    split at he
    · exact Or.inr ⟨_, he, Or.inr (Or.inr ⟨rfl, _, rfl, rfl, by assumption⟩)⟩
    · cases he
  | iaload =>
    exact Or.inl (x_iaload hC hcl hE hd1 hd2 hdec he)
  | laload =>
    exact Or.inl (x_laload hC hcl hE hd1 hd2 hdec he)
  | arraylength =>
    exact Or.inl (x_arraylength hC hcl hE hd1 hd2 hdec he)
  | iastore =>
    exact Or.inl (x_iastore hC hcl hE hd1 hd2 hdec he)
  | aaload =>
    exact Or.inl (x_aaload hC hcl hE hd1 hd2 hdec he)
  | aastore =>
    exact Or.inl (x_aastore hC hcl hE hd1 hd2 hdec he)
  | getfield n =>
    exact Or.inl (x_getfield hC hcl hE hd1 hd2 hdec he)
  | putfield n =>
    exact Or.inl (x_putfield hC hcl hE hd1 hd2 hdec he)
  | newarray n =>
    exact Or.inl (x_newarray hC hcl hE hd1 hd2 hdec he)
  | anewarray n =>
    exact Or.inl (x_anewarray hC hcl hE hd1 hd2 hdec he)
  | new n =>
    exact Or.inl (x_new hC hcl hE hd1 hd2 hdec he)
  | invokevirtual n =>
    exact Or.inl (x_invokevirtual hC hcl hE hd1 hd2 hdec he)
  | invokestatic n =>
    exact Or.inl (x_invokestatic hC hcl hE hd1 hd2 hdec he)
  | invokespecial n =>
    exact Or.inl (x_invokespecial hC hcl hE hd1 hd2 hdec he)
  | _ => cases he
end XS
