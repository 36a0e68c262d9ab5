/-! an element, or what is thrown: the class's own method -/
def cl_EL : List (Nat × Instr) := [(0, .iload_n 1), (1, .invokestatic 266), (4, .ifCond .ne 14), (18, .aload_n 0), (19, .iload_n 1), (20, .invokevirtual 43), (23, .ifCond .eq 14), (37, .aload_n 0), (38, .getfield 28), (41, .iload_n 1), (42, .aaload), (43, .iload_n 2), (44, .invokevirtual 337), (47, .ifCond .ne 14), (61, .aload_n 0), (62, .getfield 28), (65, .iload_n 1), (66, .aaload), (67, .getfield 260), (70, .iload_n 2), (71, .iaload), (72, .i2l), (73, .lreturn)]
def m_EL : yMth := (yX11_element, cX11_element, 3, (some .long), cl_EL, [], kd_X11)
theorem dk_EL : cl_EL.all (xdecB cX11_element) = true := by decide +kernel
section EL
variable {l : Launch} {d c0 s0 k : Nat} {x y v : Int32} {A : yM}
theorem el_E (ih : zOk l d) : xEOk l RX11 (d + 21) (zenv m_EL (zcall d)) := zE (X := m_EL) (zp_X11 l) ih
theorem el_s1 (hd : 3 ≤ d) : zri (zcall d 134 [.int x] (yhs c0 s0 A)) = some (bI (okI x 8), yhs c0 s0 A) := by
  rw [ycall_z c0 s0 d 134 [.int x] A _ _ (X11_isShelf_ok (by omega) x)]
  rfl
theorem el_s2 (hd : 3 ≤ d) (hk : k < 8) : ∃ r : Int32, zri (zvt [(10, 135)] (zcall d) [.ref 1, .int (nI k)] (yhs c0 s0 A)) = some (r, yhs c0 s0 A) ∧ (r = 0 ↔ A (60 + 2 * k) 0 = nI 2) := by
  obtain ⟨d', rfl⟩ := Nat.exists_eq_add_of_le' (show 3 ≤ d by omega)
  have hs : okI (nI k) 8 = true := okI_at hk (by omega)
  have n10 : (nI 1 = nI 0) = False := eq_false (by decide +kernel)
  have h1 : ycall (d' + 3) 135 [.ref 1, .int (nI k)] A = some (some (.int (if A (60 + 2 * k) 0 = nI 0 then -nI 11 else if A (60 + 2 * k) 0 = nI 2 then nI 0 else -nI 12)), A) := by
    rw [en_X11_refusalOfRow, xV, en_X11_refusalOfHeld]
    simp (disch := omega) only [X11_isShelf_ok, hs, bI_t, yi_b, l_lit, n10, ↓reduceIte, ↓xR, ↓sh_row hk, ↓sh_I hk]
    split
    · rfl
    · split <;> rfl
  refine ⟨_, by rw [zvt_sim (c0 := c0) (s0 := s0) (tab := [(10, 135)]) (fun m vs A r A1 h => ycall_z c0 s0 (d' + 3) m vs A r A1 h) [.ref 1, .int (nI k)] A _ _ h1]; rfl, ?_⟩
  constructor
  · intro h
    split at h
    · exact absurd h (by decide +kernel)
    · split at h
      · assumption
      · exact absurd h (by decide +kernel)
  · intro h
    rw [h, if_neg (by decide +kernel), if_pos rfl]; rfl
theorem el_s3 (hd : 3 ≤ d) (hk : k < 8) : zri (zvt [(7, 55)] (zcall d) [.ref (60 + 2 * k), .int y] (yhs c0 s0 A)) = some (if y < 0 ∨ A (60 + 2 * k) 4 ≤ y then 0 else 1, yhs c0 s0 A) := by
  obtain ⟨d', rfl⟩ := Nat.exists_eq_add_of_le' (show 1 ≤ d by omega)
  have h1 : yvt [(7, 55)] (ycall (d' + 1)) [.ref (60 + 2 * k), .int y] A = some (some (.int (if y < 0 ∨ A (60 + 2 * k) 4 ≤ y then 0 else 1)), A) := by
    rw [sh_v hk, en_X7_hasPlace]
    by_cases h0 : y < 0
    · rw [if_pos h0, if_pos (Or.inl rfl), if_pos (Or.inl h0)]
    · rw [if_neg h0, sh_I hk (by omega)]
      by_cases h2 : A (60 + 2 * k) 4 ≤ y
      · rw [if_pos h2, if_pos (Or.inl rfl), if_pos (Or.inr h2)]
      · rw [if_neg h2, if_pos (Or.inr rfl), if_neg (fun z => z.elim h0 h2)]
  rw [zvt_sim (c0 := c0) (s0 := s0) (tab := [(7, 55)]) (fun m vs A r A1 h => ycall_z c0 s0 (d' + 1) m vs A r A1 h) [.ref (60 + 2 * k), .int y] A _ _ h1]
  rfl
/-- no such SHELF -/
theorem el_1 (hl : l.stackTraces = false) (ih : zOk l d) (hd : 3 ≤ d) (hx : okI x 8 = false) : FT l yX11_element cX11_element 3 (some .long) (d + 21) [.ref 1, .int x, .int y] (yhs c0 s0 A) "java/lang/IllegalArgumentException" := by
  refine ft_ok (E := zenv m_EL (zcall d)) (cd := ylk cl_EL) (n := 3) (pc := 7) (L := [some (.ref 1), some (.int x), some (.int y)]) (w := true) (ik := 343) (is := 345) (ic := 347) (text := "no such shelf") hl (by decide +kernel) xcl_ok (el_E ih) rfl rfl (xcd_of dk_EL) (by omega) (by show 3 ≤ 3; omega) ?_ (by decide +kernel) (xTm (by decide +kernel)) (xTm (by decide +kernel)) (by decide +kernel) xAt_a (by decide +kernel) (by decide +kernel) ?_
  · show Option.bind (zri (zcall d 134 [.int x] (yhs c0 s0 A))) _ = _
    rw [el_s1 hd, hx]
    rfl
  · rw [if_pos rfl]
    exact ⟨by decide +kernel, by decide +kernel, by decide +kernel⟩
theorem b1n0 : ¬ (nI 1 : Int32) = 0 := by decide +kernel
/-- no ROW there -/
theorem el_2 (hl : l.stackTraces = false) (ih : zOk l d) (hd : 3 ≤ d) (hk : k < 8) (h2 : A (60 + 2 * k) 0 ≠ nI 2) : FT l yX11_element cX11_element 3 (some .long) (d + 21) [.ref 1, .int (nI k), .int y] (yhs c0 s0 A) "java/lang/IllegalStateException" := by
  refine ft_ok (E := zenv m_EL (zcall d)) (cd := ylk cl_EL) (n := 7) (pc := 26) (L := [some (.ref 1), some (.int (nI k)), some (.int y)]) (w := true) (ik := 350) (is := 352) (ic := 354) (text := "no row") hl (by decide +kernel) xcl_ok (el_E ih) rfl rfl (xcd_of dk_EL) (by omega) (by show 3 ≤ 3; omega) ?_ (by decide +kernel) (xTm (by decide +kernel)) (xTm (by decide +kernel)) (by decide +kernel) xAt_b (by decide +kernel) (by decide +kernel) ?_
  · obtain ⟨r, r1, r2⟩ := el_s2 (d := d) (c0 := c0) (s0 := s0) (A := A) hd hk
    show Option.bind (zri (zcall d 134 [.int (nI k)] (yhs c0 s0 A))) _ = _
    rw [el_s1 hd, okI_at hk (by omega)]
    show Option.bind (zri (zvt [(10, 135)] (zcall d) [.ref 1, .int (nI k)] (yhs c0 s0 A))) _ = _
    rw [r1]
    show (if r = 0 then _ else _) = _
    rw [if_neg (fun z => h2 (r2.mp z))]
    rfl
  · rw [if_pos rfl]
    exact ⟨by decide +kernel, by decide +kernel, by decide +kernel⟩
/-- no such place -/
theorem el_3 (hl : l.stackTraces = false) (ih : zOk l d) (hd : 3 ≤ d) (hk : k < 8) (h2 : A (60 + 2 * k) 0 = nI 2) (h3 : y < 0 ∨ A (60 + 2 * k) 4 ≤ y) : FT l yX11_element cX11_element 3 (some .long) (d + 21) [.ref 1, .int (nI k), .int y] (yhs c0 s0 A) "java/lang/IllegalStateException" := by
  refine ft_ok (E := zenv m_EL (zcall d)) (cd := ylk cl_EL) (n := 14) (pc := 50) (L := [some (.ref 1), some (.int (nI k)), some (.int y)]) (w := true) (ik := 350) (is := 355) (ic := 354) (text := "no such place") hl (by decide +kernel) xcl_ok (el_E ih) rfl rfl (xcd_of dk_EL) (by omega) (by show 3 ≤ 3; omega) ?_ (by decide +kernel) (xTm (by decide +kernel)) (xTm (by decide +kernel)) (by decide +kernel) xAt_b (by decide +kernel) (by decide +kernel) ?_
  · obtain ⟨r, r1, r2⟩ := el_s2 (d := d) (c0 := c0) (s0 := s0) (A := A) hd hk
    have g1 : xgR (yhs c0 s0 A) 1 10 4 = some 59 := by
      obtain ⟨b, e1, e2⟩ := ygR_x (c0 := c0) (s0 := s0) (K := fun b => if b = 59 then (some (none, A) : Option yR) else none) (show ygR A 1 10 4 (fun b => if b = 59 then (some (none, A) : Option yR) else none) = some (none, A) from rfl)
      split at e2
      · rename_i hb; rw [e1, hb]
      · cases e2
    have g2 : xrdR (yhs c0 s0 A) 59 (nI k) = some (60 + 2 * k) := by
      obtain ⟨b, e1, e2⟩ := yrR_x (c0 := c0) (s0 := s0) (K := fun b => if b = 60 + 2 * k then (some (none, A) : Option yR) else none) (show yrR A 59 (nI k) (fun b => if b = 60 + 2 * k then (some (none, A) : Option yR) else none) = some (none, A) by rw [sh_row hk, if_pos rfl])
      split at e2
      · rename_i hb; rw [e1, hb]
      · cases e2
    show Option.bind (zri (zcall d 134 [.int (nI k)] (yhs c0 s0 A))) _ = _
    rw [el_s1 hd, okI_at hk (by omega)]
    show Option.bind (zri (zvt [(10, 135)] (zcall d) [.ref 1, .int (nI k)] (yhs c0 s0 A))) _ = _
    rw [r1]
    show (if r = 0 then _ else _) = _
    rw [if_pos (r2.mpr h2)]
    show xblk (zenv m_EL (zcall d)) (ylk cl_EL) (fun _ _ => (none : Option xSt)) (fun _ => false) some 7 (37, [some (.ref 1), some (.int (nI k)), some (.int y)], [], yhs c0 s0 A) = _
    show xblk (zenv m_EL (zcall d)) (ylk cl_EL) (fun _ _ => (none : Option xSt)) (fun _ => false) some 6 (38, [some (.ref 1), some (.int (nI k)), some (.int y)], [.ref 1], yhs c0 s0 A) = _
    show Option.bind (xgR (yhs c0 s0 A) 1 10 4) (fun x => xblk (zenv m_EL (zcall d)) (ylk cl_EL) (fun _ _ => (none : Option xSt)) (fun _ => false) some 5 (41, [some (.ref 1), some (.int (nI k)), some (.int y)], [.ref x], yhs c0 s0 A)) = _
    rw [g1]
    show Option.bind (xrdR (yhs c0 s0 A) 59 (nI k)) _ = _
    rw [g2]
    show Option.bind (zri (zvt [(7, 55)] (zcall d) [.ref (60 + 2 * k), .int y] (yhs c0 s0 A))) _ = _
    rw [el_s3 hd hk, if_pos h3]
    rfl
  · rw [if_pos rfl]
    exact ⟨by decide +kernel, by decide +kernel, by decide +kernel⟩
theorem el_g1 : xgR (yhs c0 s0 A) 1 10 4 = some 59 := by
  obtain ⟨b, e1, e2⟩ := ygR_x (c0 := c0) (s0 := s0) (K := fun b => if b = 59 then (some (none, A) : Option yR) else none) (show ygR A 1 10 4 (fun b => if b = 59 then (some (none, A) : Option yR) else none) = some (none, A) from rfl)
  split at e2
  · rename_i hb; rw [e1, hb]
  · cases e2
theorem el_g2 (hk : k < 8) : xrdR (yhs c0 s0 A) 59 (nI k) = some (60 + 2 * k) := by
  obtain ⟨b, e1, e2⟩ := yrR_x (c0 := c0) (s0 := s0) (K := fun b => if b = 60 + 2 * k then (some (none, A) : Option yR) else none) (show yrR A 59 (nI k) (fun b => if b = 60 + 2 * k then (some (none, A) : Option yR) else none) = some (none, A) by rw [sh_row hk, if_pos rfl])
  split at e2
  · rename_i hb; rw [e1, hb]
  · cases e2
theorem el_g3 (hk : k < 8) : xgR (yhs c0 s0 A) (60 + 2 * k) 7 5 = some (61 + 2 * k) := by
  obtain ⟨b, e1, e2⟩ := ygR_x (c0 := c0) (s0 := s0) (K := fun b => if b = 61 + 2 * k then (some (none, A) : Option yR) else none) (show ygR A (60 + 2 * k) 7 5 (fun b => if b = 61 + 2 * k then (some (none, A) : Option yR) else none) = some (none, A) by rw [sh_R hk, if_pos rfl])
  split at e2
  · rename_i hb; rw [e1, hb]
  · cases e2
theorem el_61 (hk : k < 8) {j : Nat} (hj : j < 100) : xrun (zenv m_EL (zcall d)) (ylk cl_EL) 9 (61, [some (.ref 1), some (.int (nI k)), some (.int (nI j))], [], yhs c0 s0 A) = some (some (.long (A (61 + 2 * k) j).toInt64), yhs c0 s0 A) := by
  have g4 : xrdI (yhs c0 s0 A) (61 + 2 * k) (nI j) = some (A (61 + 2 * k) j) := by
    have e2 := (yrd_x (c0 := c0) (s0 := s0) (K := fun v => (some (some (Value.int v), A) : Option yR)) (sh_rd (A := A) hk hj)).1
    rw [nI_clamp (by omega)] at e2
    exact e2
  have g2 := el_g2 (c0 := c0) (s0 := s0) (A := A) hk
  have g3 := el_g3 (c0 := c0) (s0 := s0) (A := A) hk
  have g1 := el_g1 (c0 := c0) (s0 := s0) (A := A)
  generalize yhs c0 s0 A = H at *
  show Option.bind (xgR H 1 10 4) (fun x => xrun (zenv m_EL (zcall d)) (ylk cl_EL) 7 (65, [some (.ref 1), some (.int (nI k)), some (.int (nI j))], [.ref x], H)) = _
  rw [g1]
  show Option.bind (xrdR H 59 (nI k)) (fun x => xrun (zenv m_EL (zcall d)) (ylk cl_EL) 5 (67, [some (.ref 1), some (.int (nI k)), some (.int (nI j))], [.ref x], H)) = _
  rw [g2]
  show Option.bind (xgR H (60 + 2 * k) 7 5) (fun x => xrun (zenv m_EL (zcall d)) (ylk cl_EL) 4 (70, [some (.ref 1), some (.int (nI k)), some (.int (nI j))], [.ref x], H)) = _
  rw [g3]
  show Option.bind (xrdI H (61 + 2 * k) (nI j)) (fun x => xrun (zenv m_EL (zcall d)) (ylk cl_EL) 2 (72, [some (.ref 1), some (.int (nI k)), some (.int (nI j))], [.int x], H)) = _
  rw [g4]
  rfl
section XR
variable {E : xEnv} {cd : Nat → Option Instr} {pc n : Nat} {L : List (Option Value)} {st : List Value} {h : xS}
theorem xr_al {k : Fin 4} {x : Nat} (hi : cd pc = some (.aload_n k)) (hL : L[(k : Nat)]? = some (some (.ref x))) : xrun E cd (n + 1) (pc, L, st, h) = xrun E cd n (pc + 1, L, .ref x :: st, h) := by
  simp only [xrun, hi, xstp, hL]
theorem xr_il {k : Fin 4} {x : Int32} (hi : cd pc = some (.iload_n k)) (hL : L[(k : Nat)]? = some (some (.int x))) : xrun E cd (n + 1) (pc, L, st, h) = xrun E cd n (pc + 1, L, .int x :: st, h) := by
  simp only [xrun, hi, xstp, hL]
theorem xr_gr {f ci kk a b : Nat} {fin : Bool} (hi : cd pc = some (.getfield f)) (hf : E.1 f = some (ci, kk, 5, fin)) (hg : xgR h a ci kk = some b) : xrun E cd (n + 1) (pc, L, .ref a :: st, h) = xrun E cd n (pc + 3, L, .ref b :: st, h) := by
  simp only [xrun, hi, xstp, hf, hg, Option.bind_some]
theorem xr_aa {a b : Nat} {i : Int32} (hi : cd pc = some .aaload) (hg : xrdR h a i = some b) : xrun E cd (n + 1) (pc, L, .int i :: .ref a :: st, h) = xrun E cd n (pc + 1, L, .ref b :: st, h) := by
  simp only [xrun, hi, xstp, hg, Option.bind_some]
theorem xr_ia {a : Nat} {v i : Int32} (hi : cd pc = some .iaload) (hg : xrdI h a i = some v) : xrun E cd (n + 1) (pc, L, .int i :: .ref a :: st, h) = xrun E cd n (pc + 1, L, .int v :: st, h) := by
  simp only [xrun, hi, xstp, hg, Option.bind_some]
theorem xr_cv {m nn : Nat} {F : List Value → xS → Option (Int32 × xS)} {v : Int32} {h' : xS} (hi : cd pc = some (.invokevirtual m)) (hE : E.2.2.1 (3 * m) = some (nn, false, .inr (.inl F))) (hc : (Nat.ble nn st.length && xcat (st.drop nn)) = true) (hF : F (st.take nn).reverse h = some (v, h')) : xrun E cd (n + 1) (pc, L, st, h) = xrun E cd n (pc + 3, L, .int v :: st.drop nn, h') := by
  simp only [xrun, hi, xstp, xcal, hE, Bool.not_false, Bool.true_or, Bool.and_true, hc, if_true, hF, Option.bind_some]
theorem xr_cs {m nn : Nat} {F : List Value → xS → Option (Int32 × xS)} {v : Int32} {h' : xS} (hi : cd pc = some (.invokestatic m)) (hE : E.2.2.1 (3 * m + 1) = some (nn, false, .inr (.inl F))) (hc : (Nat.ble nn st.length && xcat (st.drop nn)) = true) (hF : F (st.take nn).reverse h = some (v, h')) : xrun E cd (n + 1) (pc, L, st, h) = xrun E cd n (pc + 3, L, .int v :: st.drop nn, h') := by
  simp only [xrun, hi, xstp, xcal, hE, Bool.not_false, Bool.true_or, Bool.and_true, hc, if_true, hF, Option.bind_some]
theorem xr_ne {off : Int} {x : Int32} (hi : cd pc = some (.ifCond .ne off)) : xrun E cd (n + 1) (pc, L, .int x :: st, h) = if x = 0 then xrun E cd n (pc + 3, L, st, h) else xrun E cd n (xjmp pc off, L, st, h) := by
  simp only [xrun, hi, xstp]
theorem xr_eq {off : Int} {x : Int32} (hi : cd pc = some (.ifCond .eq off)) : xrun E cd (n + 1) (pc, L, .int x :: st, h) = if x = 0 then xrun E cd n (xjmp pc off, L, st, h) else xrun E cd n (pc + 3, L, st, h) := by
  simp only [xrun, hi, xstp]
end XR
theorem el_37 {H : xS} {y : Int32} {n : Nat} (g1 : xgR H 1 10 4 = some 59) (g2 : xrdR H 59 (nI k) = some (60 + 2 * k)) (g3 : zri (zvt [(7, 55)] (zcall d) [.ref (60 + 2 * k), .int y] H) = some (1, H)) : xrun (zenv m_EL (zcall d)) (ylk cl_EL) (n + 7) (37, [some (.ref 1), some (.int (nI k)), some (.int y)], [], H) = xrun (zenv m_EL (zcall d)) (ylk cl_EL) n (61, [some (.ref 1), some (.int (nI k)), some (.int y)], [], H) := by
  refine (xr_al (n := n + 6) (k := 0) (x := 1) rfl rfl).trans ?_
  refine (xr_gr (n := n + 5) (f := 28) (ci := 10) (kk := 4) (fin := true) rfl rfl g1).trans ?_
  refine (xr_il (n := n + 4) (k := 1) (x := nI k) rfl rfl).trans ?_
  refine (xr_aa (n := n + 3) rfl g2).trans ?_
  refine (xr_il (n := n + 2) (k := 2) (x := y) rfl rfl).trans ?_
  refine (xr_cv (n := n + 1) (m := 337) (nn := 2) (F := fun vs h => zri (zvt [(7, 55)] (zcall d) vs h)) (v := 1) (h' := H) (h := H) (st := [.int y, .ref (60 + 2 * k)]) rfl rfl rfl g3).trans ?_
  refine (xr_ne (n := n) (off := 14) rfl).trans ?_
  rw [if_neg (by decide +kernel)]
  rfl
theorem el_0 {H : xS} {y r : Int32} {n : Nat} (g1 : zri (zcall d 134 [.int (nI k)] H) = some (nI 1, H)) (g2 : zri (zvt [(10, 135)] (zcall d) [.ref 1, .int (nI k)] H) = some (r, H)) (hr : r = 0) : xrun (zenv m_EL (zcall d)) (ylk cl_EL) (n + 7) (0, [some (.ref 1), some (.int (nI k)), some (.int y)], [], H) = xrun (zenv m_EL (zcall d)) (ylk cl_EL) n (37, [some (.ref 1), some (.int (nI k)), some (.int y)], [], H) := by
  subst hr
  refine (xr_il (n := n + 6) (k := 1) (x := nI k) rfl rfl).trans ?_
  refine (xr_cs (n := n + 5) (m := 266) (nn := 1) (F := fun vs h => zri (zcall d 134 vs h)) (v := nI 1) (h' := H) (h := H) (st := [.int (nI k)]) rfl rfl rfl g1).trans ?_
  refine (xr_ne (n := n + 4) (off := 14) rfl).trans ?_
  rw [if_neg b1n0]
  refine (xr_al (n := n + 3) (k := 0) (x := 1) rfl rfl).trans ?_
  refine (xr_il (n := n + 2) (k := 1) (x := nI k) rfl rfl).trans ?_
  refine (xr_cv (n := n + 1) (m := 43) (nn := 2) (F := fun vs h => zri (zvt [(10, 135)] (zcall d) vs h)) (v := 0) (h' := H) (h := H) (st := [.int (nI k), .ref 1]) rfl rfl rfl g2).trans ?_
  refine (xr_eq (n := n) (off := 14) rfl).trans ?_
  rw [if_pos rfl]
  rfl
/-- it is there -/
theorem el_4 (ih : zOk l d) (hd : 3 ≤ d) (hk : k < 8) {j : Nat} (hj : j < 100) (h2 : A (60 + 2 * k) 0 = nI 2) (h3 : ¬ ((nI j : Int32) < 0 ∨ A (60 + 2 * k) 4 ≤ nI j)) : xMet l yX11_element cX11_element 3 (some .long) (d + 21) [.ref 1, .int (nI k), .int (nI j)] (yhs c0 s0 A) (some (.long (A (61 + 2 * k) j).toInt64)) (yhs c0 s0 A) := by
  obtain ⟨r, r1, r2⟩ := el_s2 (d := d) (c0 := c0) (s0 := s0) (A := A) hd hk
  have s1 := el_s1 (d := d) (c0 := c0) (s0 := s0) (A := A) (x := nI k) hd
  rw [okI_at hk (by omega)] at s1
  have s3 := el_s3 (d := d) (c0 := c0) (s0 := s0) (A := A) (y := nI j) hd hk
  rw [if_neg h3] at s3
  refine xcert (E := zenv m_EL (zcall d)) (cd := ylk cl_EL) (N := 23) (by decide +kernel) xcl_ok (el_E ih) (fun z => by cases z) rfl (xcd_of dk_EL) ?_
  unfold xfn
  rw [if_pos (show (xfl [Value.ref 1, .int (nI k), .int (nI j)]).length ≤ 3 by show 3 ≤ 3; omega)]
  exact (el_0 (n := 16) s1 r1 (r2.mpr h2)).trans ((el_37 (n := 9) el_g1 (el_g2 hk) s3).trans (el_61 hk hj))
end EL
