/-! THE LAW FROM ITS LOOP ON -/
abbrev R_lawC : String := "DegreeInMistakesLaw"
theorem sbn_forget {s s' : State} {L : List Loc} {k n : Nat} (h : s.sameButNew s' L k n) (hL : ∀ x ∈ L, s.heap.size ≤ x.base) : s.sameButNew s' [] k n := by
  obtain ⟨h1, h2, h3, h4, h5, h6⟩ := h
  refine ⟨h1, h2, h3, h4, h5, fun a c hc => ?_⟩
  obtain ⟨c', hc', hce, hsz, hout⟩ := h6 a c hc
  have ha : a < s.heap.size := (Array.getElem?_eq_some_iff.mp hc).1
  exact ⟨c', hc', hce, hsz, fun i _ => hout i (fun hm => absurd (hL _ hm) (Nat.not_le.mpr ha))⟩
section LR
variable {p : Program} {l : Launch} {e : Env} {s : State} {m : MethodId} {below : List Frame} {meth : Method} {c : Code} {b L : Nat} {D : va_G} {tc : Nat → ClassId}
def lr_Z (below : List Frame) (s : State) : State → Prop := fun t => ∃ o, t.status = .running ∧ Ended t below o ∧ (o = .returned (some (.int 1)) ∧ Framed s o t [] 601024 7293034)
abbrev lr_A (s : State) : Nat → Prop := fun q => s.heap.size ≤ q
theorem lr_run (hl : l.stackTraces = false) (hC : xCx p s m #[Value.ref b] meth c R_lawC cL_law 8 D tc (lr_A s) 93 false (some .boolean)) {A : yM} {cc ss : Nat} (hcc : cc ≤ 1000) (hss : ss ≤ 100000) (hinv : Inv A 0) (hL : A 93 0 = nI L) (hL2 : L ≤ 3072) {ad0 : Nat → Nat} : xZ p l e room_1 s m #[Value.ref b] below meth c D tc 8 1 ad0 (lr_A s) 0 0 (lr_Z below s) (23, lsL 0, [], yhs cc ss A) := by
  obtain ⟨A', g', r1, r2, r3, r4, r5⟩ := law_loop hL2 512 0 0 A (by omega) (by omega) hinv (by omega) hL
  obtain ⟨n, hn⟩ := ybig_ex (show ybig (yenv m_L_law (ycall 20)) (ylk m_L_law.2.2.2.2.1) (ylk m_L_law.2.2.2.2.2.1) (23, lsL 0, [], A) = some (some (.int 1), A') from r1)
  have hx := yrun_sim (c0 := cc) (s0 := ss) (zenv_sim (fun m vs A r A1 h => ycall_z cc ss 20 m vs A r A1 h) m_L_law) n 23 (lsL 0) (lsL 0) [] A (lle_r _) hn
  obtain ⟨M, I, hI, T, cx, hi⟩ := r3
  have h94 : A' 94 0 = nI g' := hi.2.2.2.2.2.2.2.2.2
  have hg0 : A 94 0 = nI 0 := by
    obtain ⟨M, I, hI, T, cx, hi⟩ := hinv
    exact hi.2.2.2.2.2.2.2.2.2
  have c1 : (yhs cc ss A').2.1 = cc + g' := by
    show cc + (A' 94 0).toNatClampNeg = _
    rw [h94, nI_nat (by omega)]
  have c2 : (yhs cc ss A').2.2 = ss + 8 * g' := by
    show ss + 8 * (A' 94 0).toNatClampNeg = _
    rw [h94, nI_nat (by omega)]
  have hE : xEOk l R_lawC 41 (zenv m_L_law (zcall 20)) := zE (X := m_L_law) (zp_L l) (zOk_all hl 20 20 (Nat.le_refl _))
  intro ad ls H locs ha hab hn0 hLL hls hP hD hS
  have hZ := (xrun_ok (l := l) (e := e) (R := room_1) (below := below) (n0 := 93) (ad0 := ad) (c0 := 0) (s0 := 0) hC xcl_ok hE (by decide) (by decide) (xcd_of dk_L_law) n _ hx).2.2 (Nat.zero_le _) (Nat.zero_le _) (by rw [c1]; show cc + g' - 0 ≤ 601024; omega) (by rw [c2]; show ss + 8 * g' - 0 ≤ 7293034; omega)
  intro T0 hT X
  obtain ⟨t, a1, o, b1, b2, b3, b4⟩ := hZ ad ls H locs (fun _ _ => rfl) (fun _ => rfl) (Nat.le_of_eq (yhs_len cc ss A).symm) hLL hls hP hD hS T0 hT X
  obtain ⟨⟨r, u, rfl, ⟨rfl, u1, u2, u3⟩, v1, v2, v3⟩, v4⟩ := b3
  obtain ⟨L9, ⟨f1, f2, f3⟩, f4⟩ := b4
  refine ⟨t, a1, _, b1, b2, rfl, f1, f2, ?_⟩
  exact (sbn_forget f3 f4).mono (by rw [c1]; omega) (by rw [c2]; omega)
end LR
