/-! words of what is thrown -/
theorem xAt_2 : xAt RX2 15 "java/lang/IllegalArgumentException" = true := by decide +kernel
theorem xAt_5 : xAt RX5 19 "java/lang/UnsupportedOperationException" = true := by decide +kernel
theorem xAt_8 : xAt RX8 11 "java/lang/IllegalStateException" = true := by decide +kernel
theorem xAt_a : xAt RX11 347 "java/lang/IllegalArgumentException" = true := by decide +kernel
theorem xAt_b : xAt RX11 354 "java/lang/IllegalStateException" = true := by decide +kernel
theorem xTm {w : Cond} (h : (decide (w ∈ lw_tbl) && goodWord w) = true) : w ∈ xT := by
  simp only [Bool.and_eq_true, decide_eq_true_eq] at h
  exact List.mem_filter.mpr h
theorem xNm {w : Cond} (h : (decide (w ∈ tables_1) && xnw w) = true) : w ∈ xNW := by
  simp only [Bool.and_eq_true, decide_eq_true_eq] at h
  exact List.mem_filter.mpr h
def cl_CF : List (Nat × Instr) := [(0, .aload_n 0), (1, .iload_n 1), (2, .invokevirtual 376), (5, .goto 23), (9, .sipush 200), (12, .aload_n 0), (13, .iload_n 1), (14, .invokevirtual 369), (17, .iadd), (18, .ireturn), (20, .bipush 100), (22, .iload_n 1), (23, .iadd), (24, .ireturn), (26, .iload_n 1), (27, .ireturn), (28, .bipush (-15)), (30, .ireturn)]
def m_CF : yMth := (yX11_caughtFailure, cX11_caughtFailure, 3, (some .int), cl_CF, [], kd_X11)
theorem dk_CF : cl_CF.all (xdecB cX11_caughtFailure) = true := by decide +kernel
def cl_F2 : List (Nat × Instr) := [(0, .iload_n 1), (1, .ifCond .eq 13), (14, .return_)]
def cl_F4 : List (Nat × Instr) := [(0, .return_)]
theorem dk_F2 : cl_F2.all (xdecB cX2_fail) = true := by decide +kernel
theorem dk_F5 : cl_F2.all (xdecB cX5_fail) = true := by decide +kernel
theorem dk_F8 : cl_F2.all (xdecB cX8_fail) = true := by decide +kernel
theorem dk_F4 : cl_F4.all (xdecB cX4_fail) = true := by decide +kernel
theorem xcd_of {cl : List (Nat × Instr)} {cc : ByteArray} (h : cl.all (xdecB cc) = true) : ∀ pc i, ylk cl pc = some i → xdec cc pc i := fun pc i hi => xdec_of (q := (pc, i)) (List.all_eq_true.mp h _ (ylk_mem hi))
def xE0 : xEnv := (fun _ => none, fun _ => none, fun _ => none, fun _ => none, fun _ => none, false, none)
theorem xE0_ok {l : Launch} {own : String} {d : Nat} : xEOk l own d xE0 := ⟨fun _ _ _ _ _ e => (by cases e), fun _ _ e => (by cases e), fun _ _ e => (by cases e), fun _ _ _ _ e => (by cases e), fun _ _ _ _ e => (by cases e), fun _ _ e => (by cases e)⟩
section FAILS
variable {l : Launch} {a : Nat} {f : Int32} {h : xS}
theorem f2_run : xblk xE0 (ylk cl_F2) (fun _ _ => (none : Option xSt)) (fun _ => false) some 2 (0, xent [.ref a, .int f] 2, [], h) = if f = 0 then some (14, [some (.ref a), some (.int f)], [], h) else some (4, [some (.ref a), some (.int f)], [], h) := rfl
theorem ft_2 (hl : l.stackTraces = false) (hf : f ≠ 0) : FT l yX2_fail cX2_fail 2 none 8 [.ref a, .int f] h "java/lang/IllegalArgumentException" := by
  refine ft_ok (E := xE0) (cd := ylk cl_F2) (n := 2) (pc := 4) (L := [some (.ref a), some (.int f)]) (w := false) (ik := 11) (is := 13) (ic := 15) (text := "a don's failure") hl (by decide +kernel) xcl_ok xE0_ok rfl rfl (xcd_of dk_F2) (by omega) (by show 2 ≤ 2; omega) (f2_run.trans (if_neg hf)) (by decide +kernel) (xTm (by decide +kernel)) (xTm (by decide +kernel)) (by decide +kernel) xAt_2 (by decide +kernel) (by decide +kernel) ?_
  rw [if_neg (by decide)]
  exact ⟨by decide +kernel, by decide +kernel, by decide +kernel⟩
theorem ft_5 (hl : l.stackTraces = false) (hf : f ≠ 0) : FT l yX5_fail cX5_fail 2 none 8 [.ref a, .int f] h "java/lang/UnsupportedOperationException" := by
  refine ft_ok (E := xE0) (cd := ylk cl_F2) (n := 2) (pc := 4) (L := [some (.ref a), some (.int f)]) (w := false) (ik := 15) (is := 17) (ic := 19) (text := "a genius's failure") hl (by decide +kernel) xcl_ok xE0_ok rfl rfl (xcd_of dk_F5) (by omega) (by show 2 ≤ 2; omega) (f2_run.trans (if_neg hf)) (by decide +kernel) (xTm (by decide +kernel)) (xTm (by decide +kernel)) (by decide +kernel) xAt_5 (by decide +kernel) (by decide +kernel) ?_
  rw [if_neg (by decide)]
  exact ⟨by decide +kernel, by decide +kernel, by decide +kernel⟩
theorem ft_8 (hl : l.stackTraces = false) (hf : f ≠ 0) : FT l yX8_fail cX8_fail 2 none 8 [.ref a, .int f] h "java/lang/IllegalStateException" := by
  refine ft_ok (E := xE0) (cd := ylk cl_F2) (n := 2) (pc := 4) (L := [some (.ref a), some (.int f)]) (w := false) (ik := 7) (is := 9) (ic := 11) (text := "a student's failure") hl (by decide +kernel) xcl_ok xE0_ok rfl rfl (xcd_of dk_F8) (by omega) (by show 2 ≤ 2; omega) (f2_run.trans (if_neg hf)) (by decide +kernel) (xTm (by decide +kernel)) (xTm (by decide +kernel)) (by decide +kernel) xAt_8 (by decide +kernel) (by decide +kernel) ?_
  rw [if_neg (by decide)]
  exact ⟨by decide +kernel, by decide +kernel, by decide +kernel⟩
theorem f2_end : xfn xE0 (ylk cl_F2) 2 3 [.ref a, .int 0] h = some (none, h) := rfl
theorem fm_2 : xMet l yX2_fail cX2_fail 2 none 8 [.ref a, .int 0] h none h := xcert (by decide +kernel) xcl_ok xE0_ok (fun z => by cases z) rfl (xcd_of dk_F2) f2_end
theorem fm_5 : xMet l yX5_fail cX5_fail 2 none 8 [.ref a, .int 0] h none h := xcert (by decide +kernel) xcl_ok xE0_ok (fun z => by cases z) rfl (xcd_of dk_F5) f2_end
theorem fm_8 : xMet l yX8_fail cX8_fail 2 none 8 [.ref a, .int 0] h none h := xcert (by decide +kernel) xcl_ok xE0_ok (fun z => by cases z) rfl (xcd_of dk_F8) f2_end
theorem fm_4 : xMet l yX4_fail cX4_fail 2 none 8 [.ref a, .int f] h none h := xcert (N := 1) (by decide +kernel) xcl_ok xE0_ok (fun z => by cases z) rfl (xcd_of dk_F4) rfl
end FAILS
