/-! runs, and what a method's run says of the real one -/
def xrun (E : xEnv) (cd : Nat → Option Instr) : Nat → xSt → Option (Option Value × xS)
  | 0, _ => none
  | n + 1, q => match cd q.1 with
    | none => none
    | some i => xstp E i q.1 q.2.1 q.2.2.1 q.2.2.2 (xrun E cd n) (fun r h => some (r, h))
def xB (D : va_G) (tc : Nat → ClassId) (A : Nat → Prop) (h1 : xS) (u : Nat → Nat) (t : State) : Prop := va_P D vwCl (xw tc u h1.1) t.heap ∧ va_K D vwCl (xty tc) t ∧ va_D A (xw tc u h1.1)
def xAg (n0 : Nat) (ad0 : Nat → Nat) (h1 : xS) (u : Nat → Nat) : Prop := (∀ k, k < n0 → u k = ad0 k) ∧ (h1.1.length = n0 → u = ad0) ∧ n0 ≤ h1.1.length
def xQ (D : va_G) (tc : Nat → ClassId) (ad0 : Nat → Nat) (n0 : Nat) (A : Nat → Prop) (h1 : xS) : Option Value → Array Value → State → Outcome → State → Prop
  | none => va_Qv (fun u : Nat → Nat => xAg n0 ad0 h1 u) (xB D tc A h1) A
  | some (.int v) => va_Qi (fun (r : Int32) (u : Nat → Nat) => r = v ∧ xAg n0 ad0 h1 u) (xB D tc A h1) A
  | some (.long v) => va_Ql (fun (r : Int64) (u : Nat → Nat) => r = v ∧ xAg n0 ad0 h1 u) (xB D tc A h1) A
  | _ => fun _ _ _ _ => False
section XC
variable {p : Program} {l : Launch} {e : Env} {R : Room} {s : State} {m : MethodId} {args : Array Value} {below : List Frame} {meth : Method} {c : Code} {own : String} {cc : ByteArray} {D : va_G} {tc : Nat → ClassId} {nL n0 : Nat} {ad0 : Nat → Nat} {A : Nat → Prop} {c0 s0 : Nat} {init : Bool} {rt : Option FieldType}
theorem xend {i : Instr} {st : List Value} {r : Option Value} {pc : Nat} {L : List (Option Value)} {h : xS} (hC : xCx p s m args meth c own cc nL D tc A n0 init rt) (hd : xdec cc pc i) (hr : xRt i st rt r) :
    xZ p l e R s m args below meth c D tc nL n0 ad0 A c0 s0 (MQ below (xQ D tc ad0 n0 A h r) args s (h.2.1 - c0) (h.2.2 - s0) A) (pc, L, st, h) := by
  obtain ⟨hx, hb, hml, hown, hts, hnw, hlk, hK, hA, hEx, hin, hrt⟩ := hC
  intro ad ls H locs ha hab hn hL hl hP hD hS
  dsimp only at hab hn hL hl hP hD ⊢
  rcases hr with ⟨rfl, rfl, rfl, rfl⟩ | ⟨rfl, v, rfl, rfl, hr⟩ | ⟨rfl, v, rfl, rfl, rfl⟩
  · exact W.vret hx hb hrt (fun t ht hW => ⟨⟨ad, rfl, ⟨ha, hab, hn⟩, by rw [ht]; exact hP, va_K.moved hW.alike hK, hD.1⟩, hS.F ht⟩) hS.2.2 (xdec_l hd rfl)
  · rcases hr with rfl | ⟨rfl, hv⟩
    · exact W.iret hx hb hrt (fun t ht hW => ⟨⟨v, ad, rfl, ⟨rfl, ha, hab, hn⟩, by rw [ht]; exact hP, va_K.moved hW.alike hK, hD.1⟩, hS.F ht⟩) hS.2.2 (xdec_l hd rfl)
    · exact W.zret hx hb hrt (by rcases hv with rfl | rfl <;> decide) (fun t ht hW => ⟨⟨v, ad, rfl, ⟨rfl, ha, hab, hn⟩, by rw [ht]; exact hP, va_K.moved hW.alike hK, hD.1⟩, hS.F ht⟩) hS.2.2 (xdec_l hd rfl)
  · exact W.lret hx hb hrt (fun t ht hW => ⟨⟨v, ad, rfl, ⟨rfl, ha, hab, hn⟩, by rw [ht]; exact hP, va_K.moved hW.alike hK, hD.1⟩, hS.F ht⟩) hS.2.2 (xdec_l hd rfl)
theorem xrun_ok {d : Nat} {E : xEnv} {cd : Nat → Option Instr} (hC : xCx p s m args meth c own cc nL D tc A n0 E.2.2.2.2.2.1 E.2.2.2.2.2.2) (hcl : xClOk) (hE : xEOk l own d E) (hd1 : d ≤ R.frames) (hd2 : 40 * d ≤ R.locals) (hcd : ∀ pc i, cd pc = some i → xdec cc pc i) {r : Option Value} {h1 : xS} : ∀ (n : Nat) (q : xSt), xrun E cd n q = some (r, h1) →
    xle q.2.2.2 h1 ∧ xna E.2.2.2.2.2.1 q.2.2.2 h1 ∧ (c0 ≤ q.2.2.2.2.1 → s0 ≤ q.2.2.2.2.2 → h1.2.1 - c0 ≤ R.cells → h1.2.2 - s0 ≤ R.slots → xZ p l e R s m args below meth c D tc nL n0 ad0 A c0 s0 (MQ below (xQ D tc ad0 n0 A h1 r) args s (h1.2.1 - c0) (h1.2.2 - s0) A) q) := by
  intro n
  induction n with
  | zero => intro q hq; cases hq
  | succ n ih =>
    intro q hq
    obtain ⟨pc, L, st, h⟩ := q
    simp only [xrun] at hq
    split at hq
    · cases hq
    · rename_i i hi
      rcases xstp_ok (Q := MQ below (xQ D tc ad0 n0 A h1 r) args s (h1.2.1 - c0) (h1.2.2 - s0) A) (below := below) (e := e) (ad0 := ad0) (c0 := c0) (s0 := s0) hC hcl hE hd1 hd2 (hcd pc i hi) hq with ⟨q', hk, hle, hna, hz⟩ | ⟨r', hk, hrt⟩
      · obtain ⟨g1, g2, g3⟩ := ih q' hk
        refine ⟨xle_t hle g1, xna_t hna g2, fun k1 k2 k3 k4 => ?_⟩
        have b1 := g1.2.1
        have b2 := g1.2.2.1
        have b3 := hle.2.1
        have b4 := hle.2.2.1
        dsimp only at b3 b4 k1 k2
        exact hz k1 k2 (by omega) (by omega) (g3 (by omega) (by omega) k3 k4)
      · cases hk
        exact ⟨xle_r _, xna_r _ _, fun _ _ _ _ => xend hC (hcd pc i hi) hrt⟩
end XC
